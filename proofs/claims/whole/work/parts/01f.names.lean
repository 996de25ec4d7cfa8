theorem dX5_count_92 : decode cX5_count 92 = .ok (.getfield 10, 3) := by decide +kernel
theorem dX5_count_95 : decode cX5_count 95 = .ok (.getfield 44, 3) := by decide +kernel
theorem dX5_count_98 : decode cX5_count 98 = .ok (.invokevirtual 178, 3) := by decide +kernel
theorem dX5_count_101 : decode cX5_count 101 = .ok (.ireturn, 1) := by decide +kernel
theorem dX5_count_102 : decode cX5_count 102 = .ok (.aload_n 0, 1) := by decide +kernel
theorem dX5_count_103 : decode cX5_count 103 = .ok (.getfield 10, 3) := by decide +kernel
theorem dX5_count_106 : decode cX5_count 106 = .ok (.getfield 44, 3) := by decide +kernel
theorem dX5_count_109 : decode cX5_count 109 = .ok (.invokevirtual 57, 3) := by decide +kernel
theorem dX5_count_112 : decode cX5_count 112 = .ok (.ireturn, 1) := by decide +kernel
theorem dX5_count_113 : decode cX5_count 113 = .ok (.aload_n 0, 1) := by decide +kernel
theorem dX5_count_114 : decode cX5_count 114 = .ok (.getfield 10, 3) := by decide +kernel
theorem dX5_count_117 : decode cX5_count 117 = .ok (.getfield 44, 3) := by decide +kernel
theorem dX5_count_120 : decode cX5_count 120 = .ok (.invokevirtual 76, 3) := by decide +kernel
theorem dX5_count_123 : decode cX5_count 123 = .ok (.ireturn, 1) := by decide +kernel
theorem dX5_count_124 : decode cX5_count 124 = .ok (.aload_n 0, 1) := by decide +kernel
theorem dX5_count_125 : decode cX5_count 125 = .ok (.getfield 10, 3) := by decide +kernel
theorem dX5_count_128 : decode cX5_count 128 = .ok (.invokevirtual 132, 3) := by decide +kernel
theorem dX5_count_131 : decode cX5_count 131 = .ok (.ireturn, 1) := by decide +kernel
theorem dX5_count_132 : decode cX5_count 132 = .ok (.aload_n 0, 1) := by decide +kernel
theorem dX5_count_133 : decode cX5_count 133 = .ok (.getfield 10, 3) := by decide +kernel
theorem dX5_count_136 : decode cX5_count 136 = .ok (.invokevirtual 237, 3) := by decide +kernel
theorem dX5_count_139 : decode cX5_count 139 = .ok (.ireturn, 1) := by decide +kernel
theorem dX5_count_140 : decode cX5_count 140 = .ok (.aload_n 0, 1) := by decide +kernel
theorem dX5_count_141 : decode cX5_count 141 = .ok (.getfield 10, 3) := by decide +kernel
theorem dX5_count_144 : decode cX5_count 144 = .ok (.getfield 113, 3) := by decide +kernel
theorem dX5_count_147 : decode cX5_count 147 = .ok (.invokevirtual 117, 3) := by decide +kernel
theorem dX5_count_150 : decode cX5_count 150 = .ok (.ireturn, 1) := by decide +kernel
theorem dX5_count_151 : decode cX5_count 151 = .ok (.aload_n 0, 1) := by decide +kernel
theorem dX5_count_152 : decode cX5_count 152 = .ok (.getfield 10, 3) := by decide +kernel
theorem dX5_count_155 : decode cX5_count 155 = .ok (.invokevirtual 240, 3) := by decide +kernel
theorem dX5_count_158 : decode cX5_count 158 = .ok (.ireturn, 1) := by decide +kernel
theorem dX5_count_159 : decode cX5_count 159 = .ok (.aload_n 0, 1) := by decide +kernel
theorem dX5_count_160 : decode cX5_count 160 = .ok (.getfield 10, 3) := by decide +kernel
theorem dX5_count_163 : decode cX5_count 163 = .ok (.invokevirtual 243, 3) := by decide +kernel
theorem dX5_count_166 : decode cX5_count 166 = .ok (.ireturn, 1) := by decide +kernel
theorem dX5_count_167 : decode cX5_count 167 = .ok (.aload_n 0, 1) := by decide +kernel
theorem dX5_count_168 : decode cX5_count 168 = .ok (.getfield 10, 3) := by decide +kernel
theorem dX5_count_171 : decode cX5_count 171 = .ok (.getfield 44, 3) := by decide +kernel
theorem dX5_count_174 : decode cX5_count 174 = .ok (.invokevirtual 98, 3) := by decide +kernel
theorem dX5_count_177 : decode cX5_count 177 = .ok (.ireturn, 1) := by decide +kernel
theorem dX5_count_178 : decode cX5_count 178 = .ok (.aload_n 0, 1) := by decide +kernel
theorem dX5_count_179 : decode cX5_count 179 = .ok (.getfield 10, 3) := by decide +kernel
theorem dX5_count_182 : decode cX5_count 182 = .ok (.iconst 0, 1) := by decide +kernel
theorem dX5_count_183 : decode cX5_count 183 = .ok (.invokevirtual 139, 3) := by decide +kernel
theorem dX5_count_186 : decode cX5_count 186 = .ok (.ireturn, 1) := by decide +kernel
theorem dX5_count_187 : decode cX5_count 187 = .ok (.aload_n 0, 1) := by decide +kernel
theorem dX5_count_188 : decode cX5_count 188 = .ok (.getfield 10, 3) := by decide +kernel
theorem dX5_count_191 : decode cX5_count 191 = .ok (.iconst 1, 1) := by decide +kernel
theorem dX5_count_192 : decode cX5_count 192 = .ok (.invokevirtual 139, 3) := by decide +kernel
theorem dX5_count_195 : decode cX5_count 195 = .ok (.ireturn, 1) := by decide +kernel
theorem dX5_count_196 : decode cX5_count 196 = .ok (.aload_n 0, 1) := by decide +kernel
theorem dX5_count_197 : decode cX5_count 197 = .ok (.getfield 10, 3) := by decide +kernel
theorem dX5_count_200 : decode cX5_count 200 = .ok (.iconst 2, 1) := by decide +kernel
theorem dX5_count_201 : decode cX5_count 201 = .ok (.invokevirtual 139, 3) := by decide +kernel
theorem dX5_count_204 : decode cX5_count 204 = .ok (.ireturn, 1) := by decide +kernel
theorem dX5_count_205 : decode cX5_count 205 = .ok (.aload_n 0, 1) := by decide +kernel
theorem dX5_count_206 : decode cX5_count 206 = .ok (.getfield 19, 3) := by decide +kernel
theorem dX5_count_209 : decode cX5_count 209 = .ok (.invokevirtual 159, 3) := by decide +kernel
theorem dX5_count_212 : decode cX5_count 212 = .ok (.ireturn, 1) := by decide +kernel
theorem dX5_count_213 : decode cX5_count 213 = .ok (.aload_n 0, 1) := by decide +kernel
theorem dX5_count_214 : decode cX5_count 214 = .ok (.getfield 33, 3) := by decide +kernel
theorem dX5_count_217 : decode cX5_count 217 = .ok (.invokevirtual 149, 3) := by decide +kernel
theorem dX5_count_220 : decode cX5_count 220 = .ok (.ireturn, 1) := by decide +kernel
theorem dX5_count_221 : decode cX5_count 221 = .ok (.aload_n 0, 1) := by decide +kernel
theorem dX5_count_222 : decode cX5_count 222 = .ok (.getfield 10, 3) := by decide +kernel
theorem dX5_count_225 : decode cX5_count 225 = .ok (.getfield 113, 3) := by decide +kernel
theorem dX5_count_228 : decode cX5_count 228 = .ok (.invokevirtual 246, 3) := by decide +kernel
theorem dX5_count_231 : decode cX5_count 231 = .ok (.ireturn, 1) := by decide +kernel
theorem dX5_count_232 : decode cX5_count 232 = .ok (.bipush (-2), 2) := by decide +kernel
theorem dX5_count_234 : decode cX5_count 234 = .ok (.ireturn, 1) := by decide +kernel
set_option maxRecDepth 20000 in
theorem ggX5_meanOddsBits_X3_size : GoodIn wsX5_meanOddsBits wsX3_size := goodIn_r _ [6, 7, 36, 37, 38] (by decide +kernel) (by decide +kernel)
set_option maxRecDepth 20000 in
theorem gX5_meanOddsBits_X3_size : GoodIn wsX5_meanOddsBits (wsV RX5 117 RX3 yX3_size wsX3_size) := goodIn_app (goodIn_of _ (by decide +kernel)) ggX5_meanOddsBits_X3_size
set_option maxRecDepth 20000 in
theorem ggX5_meanOddsBits_X3_sumOfOdds : GoodIn wsX5_meanOddsBits wsX3_sumOfOdds := goodIn_r _ [11, 7, 12, 13, 14, 5, 15, 16, 36, 37, 38] (by decide +kernel) (by decide +kernel)
set_option maxRecDepth 20000 in
theorem gX5_meanOddsBits_X3_sumOfOdds : GoodIn wsX5_meanOddsBits (wsV RX5 249 RX3 yX3_sumOfOdds wsX3_sumOfOdds) := goodIn_app (goodIn_of _ (by decide +kernel)) ggX5_meanOddsBits_X3_sumOfOdds
set_option maxRecDepth 20000 in
theorem ggX5_meanOddsBits_X5_bitsOfOneOrMore : GoodIn wsX5_meanOddsBits wsX5_bitsOfOneOrMore := goodIn_r _ [20, 21] (by decide +kernel) (by decide +kernel)
set_option maxRecDepth 20000 in
theorem gX5_meanOddsBits_X5_bitsOfOneOrMore : GoodIn wsX5_meanOddsBits (va_wsS RX5 253 yX5_bitsOfOneOrMore wsX5_bitsOfOneOrMore) := goodIn_app (goodIn_of _ (by decide +kernel)) ggX5_meanOddsBits_X5_bitsOfOneOrMore
theorem dX5_meanOddsBits_0 : decode cX5_meanOddsBits 0 = .ok (.aload_n 0, 1) := by decide +kernel
theorem dX5_meanOddsBits_1 : decode cX5_meanOddsBits 1 = .ok (.getfield 10, 3) := by decide +kernel
theorem dX5_meanOddsBits_4 : decode cX5_meanOddsBits 4 = .ok (.getfield 113, 3) := by decide +kernel
theorem dX5_meanOddsBits_7 : decode cX5_meanOddsBits 7 = .ok (.invokevirtual 117, 3) := by decide +kernel
theorem dX5_meanOddsBits_10 : decode cX5_meanOddsBits 10 = .ok (.istore_n 1, 1) := by decide +kernel
theorem dX5_meanOddsBits_11 : decode cX5_meanOddsBits 11 = .ok (.iload_n 1, 1) := by decide +kernel
theorem dX5_meanOddsBits_12 : decode cX5_meanOddsBits 12 = .ok (.ifCond .gt 5, 3) := by decide +kernel
theorem dX5_meanOddsBits_15 : decode cX5_meanOddsBits 15 = .ok (.iconst 0, 1) := by decide +kernel
theorem dX5_meanOddsBits_16 : decode cX5_meanOddsBits 16 = .ok (.ireturn, 1) := by decide +kernel
theorem dX5_meanOddsBits_17 : decode cX5_meanOddsBits 17 = .ok (.aload_n 0, 1) := by decide +kernel
theorem dX5_meanOddsBits_18 : decode cX5_meanOddsBits 18 = .ok (.getfield 10, 3) := by decide +kernel
theorem dX5_meanOddsBits_21 : decode cX5_meanOddsBits 21 = .ok (.getfield 113, 3) := by decide +kernel
theorem dX5_meanOddsBits_24 : decode cX5_meanOddsBits 24 = .ok (.invokevirtual 249, 3) := by decide +kernel
theorem dX5_meanOddsBits_27 : decode cX5_meanOddsBits 27 = .ok (.iload_n 1, 1) := by decide +kernel
theorem dX5_meanOddsBits_28 : decode cX5_meanOddsBits 28 = .ok (.i2f, 1) := by decide +kernel
theorem dX5_meanOddsBits_29 : decode cX5_meanOddsBits 29 = .ok (.fdiv, 1) := by decide +kernel
theorem dX5_meanOddsBits_30 : decode cX5_meanOddsBits 30 = .ok (.invokestatic 253, 3) := by decide +kernel
theorem dX5_meanOddsBits_33 : decode cX5_meanOddsBits 33 = .ok (.ireturn, 1) := by decide +kernel
theorem dX5_bitsOfOneOrMore_0 : decode cX5_bitsOfOneOrMore 0 = .ok (.fload_n 0, 1) := by decide +kernel
theorem dX5_bitsOfOneOrMore_1 : decode cX5_bitsOfOneOrMore 1 = .ok (.fstore_n 1, 1) := by decide +kernel
theorem dX5_bitsOfOneOrMore_2 : decode cX5_bitsOfOneOrMore 2 = .ok (.bipush 127, 2) := by decide +kernel
theorem dX5_bitsOfOneOrMore_4 : decode cX5_bitsOfOneOrMore 4 = .ok (.istore_n 2, 1) := by decide +kernel
theorem dX5_bitsOfOneOrMore_5 : decode cX5_bitsOfOneOrMore 5 = .ok (.iconst 0, 1) := by decide +kernel
theorem dX5_bitsOfOneOrMore_6 : decode cX5_bitsOfOneOrMore 6 = .ok (.istore_n 3, 1) := by decide +kernel
theorem dX5_bitsOfOneOrMore_7 : decode cX5_bitsOfOneOrMore 7 = .ok (.iload_n 3, 1) := by decide +kernel
theorem dX5_bitsOfOneOrMore_8 : decode cX5_bitsOfOneOrMore 8 = .ok (.bipush 127, 2) := by decide +kernel
theorem dX5_bitsOfOneOrMore_10 : decode cX5_bitsOfOneOrMore 10 = .ok (.if_icmp .ge 22, 3) := by decide +kernel
theorem dX5_bitsOfOneOrMore_13 : decode cX5_bitsOfOneOrMore 13 = .ok (.fload_n 1, 1) := by decide +kernel
theorem dX5_bitsOfOneOrMore_14 : decode cX5_bitsOfOneOrMore 14 = .ok (.fconst 2, 1) := by decide +kernel
theorem dX5_bitsOfOneOrMore_15 : decode cX5_bitsOfOneOrMore 15 = .ok (.fcmp .l, 1) := by decide +kernel
theorem dX5_bitsOfOneOrMore_16 : decode cX5_bitsOfOneOrMore 16 = .ok (.ifCond .lt 16, 3) := by decide +kernel
theorem dX5_bitsOfOneOrMore_19 : decode cX5_bitsOfOneOrMore 19 = .ok (.fload_n 1, 1) := by decide +kernel
theorem dX5_bitsOfOneOrMore_20 : decode cX5_bitsOfOneOrMore 20 = .ok (.fconst 2, 1) := by decide +kernel
theorem dX5_bitsOfOneOrMore_21 : decode cX5_bitsOfOneOrMore 21 = .ok (.fdiv, 1) := by decide +kernel
theorem dX5_bitsOfOneOrMore_22 : decode cX5_bitsOfOneOrMore 22 = .ok (.fstore_n 1, 1) := by decide +kernel
theorem dX5_bitsOfOneOrMore_23 : decode cX5_bitsOfOneOrMore 23 = .ok (.iinc 2 1, 3) := by decide +kernel
theorem dX5_bitsOfOneOrMore_26 : decode cX5_bitsOfOneOrMore 26 = .ok (.iinc 3 1, 3) := by decide +kernel
theorem dX5_bitsOfOneOrMore_29 : decode cX5_bitsOfOneOrMore 29 = .ok (.goto (-22), 3) := by decide +kernel
theorem dX5_bitsOfOneOrMore_32 : decode cX5_bitsOfOneOrMore 32 = .ok (.fload_n 1, 1) := by decide +kernel
theorem dX5_bitsOfOneOrMore_33 : decode cX5_bitsOfOneOrMore 33 = .ok (.fconst 1, 1) := by decide +kernel
theorem dX5_bitsOfOneOrMore_34 : decode cX5_bitsOfOneOrMore 34 = .ok (.fsub, 1) := by decide +kernel
theorem dX5_bitsOfOneOrMore_35 : decode cX5_bitsOfOneOrMore 35 = .ok (.ldc_w 257, 3) := by decide +kernel
theorem dX5_bitsOfOneOrMore_38 : decode cX5_bitsOfOneOrMore 38 = .ok (.fmul, 1) := by decide +kernel
theorem dX5_bitsOfOneOrMore_39 : decode cX5_bitsOfOneOrMore 39 = .ok (.f2i, 1) := by decide +kernel
theorem dX5_bitsOfOneOrMore_40 : decode cX5_bitsOfOneOrMore 40 = .ok (.istore_n 3, 1) := by decide +kernel
theorem dX5_bitsOfOneOrMore_41 : decode cX5_bitsOfOneOrMore 41 = .ok (.iload_n 2, 1) := by decide +kernel
theorem dX5_bitsOfOneOrMore_42 : decode cX5_bitsOfOneOrMore 42 = .ok (.bipush 23, 2) := by decide +kernel
theorem dX5_bitsOfOneOrMore_44 : decode cX5_bitsOfOneOrMore 44 = .ok (.ishl, 1) := by decide +kernel
theorem dX5_bitsOfOneOrMore_45 : decode cX5_bitsOfOneOrMore 45 = .ok (.iload_n 3, 1) := by decide +kernel
theorem dX5_bitsOfOneOrMore_46 : decode cX5_bitsOfOneOrMore 46 = .ok (.ior, 1) := by decide +kernel
theorem dX5_bitsOfOneOrMore_47 : decode cX5_bitsOfOneOrMore 47 = .ok (.ireturn, 1) := by decide +kernel
set_option maxRecDepth 20000 in
theorem ggX6_init_X6_order : GoodIn wsX6_init wsX6_order := goodIn_r _ [13, 5, 14, 15, 16, 17, 18, 19, 20] (by decide +kernel) (by decide +kernel)
set_option maxRecDepth 20000 in
theorem gX6_init_X6_order : GoodIn wsX6_init (wsV RX6 22 RX6 yX6_order wsX6_order) := goodIn_app (goodIn_of _ (by decide +kernel)) ggX6_init_X6_order
theorem dX6_init_0 : decode cX6_init 0 = .ok (.aload_n 0, 1) := by decide +kernel
theorem dX6_init_1 : decode cX6_init 1 = .ok (.invokespecial 1, 3) := by decide +kernel
theorem dX6_init_4 : decode cX6_init 4 = .ok (.aload_n 0, 1) := by decide +kernel
theorem dX6_init_5 : decode cX6_init 5 = .ok (.bipush 117, 2) := by decide +kernel
theorem dX6_init_7 : decode cX6_init 7 = .ok (.newarray .int, 2) := by decide +kernel
theorem dX6_init_9 : decode cX6_init 9 = .ok (.putfield 7, 3) := by decide +kernel
theorem dX6_init_12 : decode cX6_init 12 = .ok (.aload_n 0, 1) := by decide +kernel
theorem dX6_init_13 : decode cX6_init 13 = .ok (.sipush 468, 3) := by decide +kernel
theorem dX6_init_16 : decode cX6_init 16 = .ok (.newarray .int, 2) := by decide +kernel
theorem dX6_init_18 : decode cX6_init 18 = .ok (.putfield 13, 3) := by decide +kernel
theorem dX6_init_21 : decode cX6_init 21 = .ok (.aload_n 0, 1) := by decide +kernel
theorem dX6_init_22 : decode cX6_init 22 = .ok (.bipush 117, 2) := by decide +kernel
theorem dX6_init_24 : decode cX6_init 24 = .ok (.newarray .int, 2) := by decide +kernel
theorem dX6_init_26 : decode cX6_init 26 = .ok (.putfield 16, 3) := by decide +kernel
theorem dX6_init_29 : decode cX6_init 29 = .ok (.aload_n 0, 1) := by decide +kernel
theorem dX6_init_30 : decode cX6_init 30 = .ok (.bipush 60, 2) := by decide +kernel
theorem dX6_init_32 : decode cX6_init 32 = .ok (.newarray .int, 2) := by decide +kernel
theorem dX6_init_34 : decode cX6_init 34 = .ok (.putfield 19, 3) := by decide +kernel
theorem dX6_init_37 : decode cX6_init 37 = .ok (.aload_n 0, 1) := by decide +kernel
theorem dX6_init_38 : decode cX6_init 38 = .ok (.getfield 7, 3) := by decide +kernel
theorem dX6_init_41 : decode cX6_init 41 = .ok (.bipush 6, 2) := by decide +kernel
theorem dX6_init_43 : decode cX6_init 43 = .ok (.iconst 3, 1) := by decide +kernel
theorem dX6_init_44 : decode cX6_init 44 = .ok (.iastore, 1) := by decide +kernel
theorem dX6_init_45 : decode cX6_init 45 = .ok (.aload_n 0, 1) := by decide +kernel
theorem dX6_init_46 : decode cX6_init 46 = .ok (.getfield 7, 3) := by decide +kernel
theorem dX6_init_49 : decode cX6_init 49 = .ok (.bipush 7, 2) := by decide +kernel
theorem dX6_init_51 : decode cX6_init 51 = .ok (.iconst 1, 1) := by decide +kernel
theorem dX6_init_52 : decode cX6_init 52 = .ok (.iastore, 1) := by decide +kernel
theorem dX6_init_53 : decode cX6_init 53 = .ok (.aload_n 0, 1) := by decide +kernel
theorem dX6_init_54 : decode cX6_init 54 = .ok (.getfield 7, 3) := by decide +kernel
theorem dX6_init_57 : decode cX6_init 57 = .ok (.bipush 8, 2) := by decide +kernel
theorem dX6_init_59 : decode cX6_init 59 = .ok (.iconst 2, 1) := by decide +kernel
theorem dX6_init_60 : decode cX6_init 60 = .ok (.iastore, 1) := by decide +kernel
theorem dX6_init_61 : decode cX6_init 61 = .ok (.iconst 0, 1) := by decide +kernel
theorem dX6_init_62 : decode cX6_init 62 = .ok (.istore_n 1, 1) := by decide +kernel
theorem dX6_init_63 : decode cX6_init 63 = .ok (.iload_n 1, 1) := by decide +kernel
theorem dX6_init_64 : decode cX6_init 64 = .ok (.iconst 3, 1) := by decide +kernel
theorem dX6_init_65 : decode cX6_init 65 = .ok (.if_icmp .ge 20, 3) := by decide +kernel
theorem dX6_init_68 : decode cX6_init 68 = .ok (.aload_n 0, 1) := by decide +kernel
theorem dX6_init_69 : decode cX6_init 69 = .ok (.getfield 7, 3) := by decide +kernel
theorem dX6_init_72 : decode cX6_init 72 = .ok (.bipush 9, 2) := by decide +kernel
theorem dX6_init_74 : decode cX6_init 74 = .ok (.iload_n 1, 1) := by decide +kernel
theorem dX6_init_75 : decode cX6_init 75 = .ok (.iadd, 1) := by decide +kernel
theorem dX6_init_76 : decode cX6_init 76 = .ok (.bipush 100, 2) := by decide +kernel
theorem dX6_init_78 : decode cX6_init 78 = .ok (.iastore, 1) := by decide +kernel
theorem dX6_init_79 : decode cX6_init 79 = .ok (.iinc 1 1, 3) := by decide +kernel
theorem dX6_init_82 : decode cX6_init 82 = .ok (.goto (-19), 3) := by decide +kernel
theorem dX6_init_85 : decode cX6_init 85 = .ok (.aload_n 0, 1) := by decide +kernel
theorem dX6_init_86 : decode cX6_init 86 = .ok (.iconst 3, 1) := by decide +kernel
theorem dX6_init_87 : decode cX6_init 87 = .ok (.invokevirtual 22, 3) := by decide +kernel
theorem dX6_init_90 : decode cX6_init 90 = .ok (.return_, 1) := by decide +kernel
theorem dX6_in_0 : decode cX6_in 0 = .ok (.iload_n 0, 1) := by decide +kernel
theorem dX6_in_1 : decode cX6_in 1 = .ok (.iload_n 1, 1) := by decide +kernel
theorem dX6_in_2 : decode cX6_in 2 = .ok (.if_icmp .lt 12, 3) := by decide +kernel
theorem dX6_in_5 : decode cX6_in 5 = .ok (.iload_n 0, 1) := by decide +kernel
theorem dX6_in_6 : decode cX6_in 6 = .ok (.iload_n 2, 1) := by decide +kernel
theorem dX6_in_7 : decode cX6_in 7 = .ok (.if_icmp .gt 7, 3) := by decide +kernel
theorem dX6_in_10 : decode cX6_in 10 = .ok (.iconst 1, 1) := by decide +kernel
theorem dX6_in_11 : decode cX6_in 11 = .ok (.goto 4, 3) := by decide +kernel
theorem dX6_in_14 : decode cX6_in 14 = .ok (.iconst 0, 1) := by decide +kernel
theorem dX6_in_15 : decode cX6_in 15 = .ok (.ireturn, 1) := by decide +kernel
theorem dX6_order_0 : decode cX6_order 0 = .ok (.aload_n 0, 1) := by decide +kernel
theorem dX6_order_1 : decode cX6_order 1 = .ok (.getfield 7, 3) := by decide +kernel
theorem dX6_order_4 : decode cX6_order 4 = .ok (.iconst 0, 1) := by decide +kernel
theorem dX6_order_5 : decode cX6_order 5 = .ok (.iload_n 1, 1) := by decide +kernel
theorem dX6_order_6 : decode cX6_order 6 = .ok (.iastore, 1) := by decide +kernel
theorem dX6_order_7 : decode cX6_order 7 = .ok (.iconst 0, 1) := by decide +kernel
theorem dX6_order_8 : decode cX6_order 8 = .ok (.istore_n 2, 1) := by decide +kernel
theorem dX6_order_9 : decode cX6_order 9 = .ok (.iload_n 2, 1) := by decide +kernel
theorem dX6_order_10 : decode cX6_order 10 = .ok (.iload_n 1, 1) := by decide +kernel
theorem dX6_order_11 : decode cX6_order 11 = .ok (.iload_n 1, 1) := by decide +kernel
theorem dX6_order_12 : decode cX6_order 12 = .ok (.imul, 1) := by decide +kernel
theorem dX6_order_13 : decode cX6_order 13 = .ok (.if_icmp .ge 21, 3) := by decide +kernel
theorem dX6_order_16 : decode cX6_order 16 = .ok (.aload_n 0, 1) := by decide +kernel
theorem dX6_order_17 : decode cX6_order 17 = .ok (.getfield 7, 3) := by decide +kernel
theorem dX6_order_20 : decode cX6_order 20 = .ok (.bipush 15, 2) := by decide +kernel
theorem dX6_order_22 : decode cX6_order 22 = .ok (.iload_n 2, 1) := by decide +kernel
theorem dX6_order_23 : decode cX6_order 23 = .ok (.iadd, 1) := by decide +kernel
theorem dX6_order_24 : decode cX6_order 24 = .ok (.iload_n 2, 1) := by decide +kernel
theorem dX6_order_25 : decode cX6_order 25 = .ok (.iconst 1, 1) := by decide +kernel
theorem dX6_order_26 : decode cX6_order 26 = .ok (.iadd, 1) := by decide +kernel
theorem dX6_order_27 : decode cX6_order 27 = .ok (.iastore, 1) := by decide +kernel
theorem dX6_order_28 : decode cX6_order 28 = .ok (.iinc 2 1, 3) := by decide +kernel
theorem dX6_order_31 : decode cX6_order 31 = .ok (.goto (-22), 3) := by decide +kernel
theorem dX6_order_34 : decode cX6_order 34 = .ok (.return_, 1) := by decide +kernel
theorem dX6_cells_0 : decode cX6_cells 0 = .ok (.aload_n 0, 1) := by decide +kernel
theorem dX6_cells_1 : decode cX6_cells 1 = .ok (.getfield 7, 3) := by decide +kernel
theorem dX6_cells_4 : decode cX6_cells 4 = .ok (.iconst 0, 1) := by decide +kernel
theorem dX6_cells_5 : decode cX6_cells 5 = .ok (.iaload, 1) := by decide +kernel
theorem dX6_cells_6 : decode cX6_cells 6 = .ok (.aload_n 0, 1) := by decide +kernel
theorem dX6_cells_7 : decode cX6_cells 7 = .ok (.getfield 7, 3) := by decide +kernel
theorem dX6_cells_10 : decode cX6_cells 10 = .ok (.iconst 0, 1) := by decide +kernel
theorem dX6_cells_11 : decode cX6_cells 11 = .ok (.iaload, 1) := by decide +kernel
theorem dX6_cells_12 : decode cX6_cells 12 = .ok (.imul, 1) := by decide +kernel
theorem dX6_cells_13 : decode cX6_cells 13 = .ok (.ireturn, 1) := by decide +kernel
theorem dX6_lines_0 : decode cX6_lines 0 = .ok (.iconst 2, 1) := by decide +kernel
theorem dX6_lines_1 : decode cX6_lines 1 = .ok (.aload_n 0, 1) := by decide +kernel
theorem dX6_lines_2 : decode cX6_lines 2 = .ok (.getfield 7, 3) := by decide +kernel
theorem dX6_lines_5 : decode cX6_lines 5 = .ok (.iconst 0, 1) := by decide +kernel
theorem dX6_lines_6 : decode cX6_lines 6 = .ok (.iaload, 1) := by decide +kernel
theorem dX6_lines_7 : decode cX6_lines 7 = .ok (.imul, 1) := by decide +kernel
theorem dX6_lines_8 : decode cX6_lines 8 = .ok (.iconst 2, 1) := by decide +kernel
theorem dX6_lines_9 : decode cX6_lines 9 = .ok (.iadd, 1) := by decide +kernel
theorem dX6_lines_10 : decode cX6_lines 10 = .ok (.ireturn, 1) := by decide +kernel
set_option maxRecDepth 20000 in
theorem ggX6_isCell_X6_cells : GoodIn wsX6_isCell wsX6_cells := goodIn_r _ [5, 6, 10, 11, 12, 13, 14, 15, 16] (by decide +kernel) (by decide +kernel)
set_option maxRecDepth 20000 in
theorem gX6_isCell_X6_cells : GoodIn wsX6_isCell (wsV RX6 26 RX6 yX6_cells wsX6_cells) := goodIn_app (goodIn_of _ (by decide +kernel)) ggX6_isCell_X6_cells
set_option maxRecDepth 20000 in
theorem ggX6_isCell_X6_in : GoodIn wsX6_isCell wsX6_in := goodIn_r _ [9] (by decide +kernel) (by decide +kernel)
set_option maxRecDepth 20000 in
theorem gX6_isCell_X6_in : GoodIn wsX6_isCell (va_wsS RX6 30 yX6_in wsX6_in) := goodIn_app (goodIn_of _ (by decide +kernel)) ggX6_isCell_X6_in
theorem dX6_isCell_0 : decode cX6_isCell 0 = .ok (.iload_n 1, 1) := by decide +kernel
theorem dX6_isCell_1 : decode cX6_isCell 1 = .ok (.iconst 0, 1) := by decide +kernel
theorem dX6_isCell_2 : decode cX6_isCell 2 = .ok (.aload_n 0, 1) := by decide +kernel
theorem dX6_isCell_3 : decode cX6_isCell 3 = .ok (.invokevirtual 26, 3) := by decide +kernel
theorem dX6_isCell_6 : decode cX6_isCell 6 = .ok (.iconst 1, 1) := by decide +kernel
theorem dX6_isCell_7 : decode cX6_isCell 7 = .ok (.isub, 1) := by decide +kernel
theorem dX6_isCell_8 : decode cX6_isCell 8 = .ok (.invokestatic 30, 3) := by decide +kernel
theorem dX6_isCell_11 : decode cX6_isCell 11 = .ok (.ireturn, 1) := by decide +kernel
set_option maxRecDepth 20000 in
theorem ggX6_isLine_X6_lines : GoodIn wsX6_isLine wsX6_lines := goodIn_r _ [5, 6, 10, 11, 12, 13, 14, 15, 16] (by decide +kernel) (by decide +kernel)
set_option maxRecDepth 20000 in
theorem gX6_isLine_X6_lines : GoodIn wsX6_isLine (wsV RX6 34 RX6 yX6_lines wsX6_lines) := goodIn_app (goodIn_of _ (by decide +kernel)) ggX6_isLine_X6_lines
set_option maxRecDepth 20000 in
theorem ggX6_isLine_X6_in : GoodIn wsX6_isLine wsX6_in := goodIn_r _ [9] (by decide +kernel) (by decide +kernel)
set_option maxRecDepth 20000 in
theorem gX6_isLine_X6_in : GoodIn wsX6_isLine (va_wsS RX6 30 yX6_in wsX6_in) := goodIn_app (goodIn_of _ (by decide +kernel)) ggX6_isLine_X6_in
theorem dX6_isLine_0 : decode cX6_isLine 0 = .ok (.iload_n 1, 1) := by decide +kernel
theorem dX6_isLine_1 : decode cX6_isLine 1 = .ok (.iconst 0, 1) := by decide +kernel
theorem dX6_isLine_2 : decode cX6_isLine 2 = .ok (.aload_n 0, 1) := by decide +kernel
theorem dX6_isLine_3 : decode cX6_isLine 3 = .ok (.invokevirtual 34, 3) := by decide +kernel
theorem dX6_isLine_6 : decode cX6_isLine 6 = .ok (.iconst 1, 1) := by decide +kernel
theorem dX6_isLine_7 : decode cX6_isLine 7 = .ok (.isub, 1) := by decide +kernel
theorem dX6_isLine_8 : decode cX6_isLine 8 = .ok (.invokestatic 30, 3) := by decide +kernel
theorem dX6_isLine_11 : decode cX6_isLine 11 = .ok (.ireturn, 1) := by decide +kernel
theorem dX6_of_0 : decode cX6_of 0 = .ok (.bipush 47, 2) := by decide +kernel
theorem dX6_of_2 : decode cX6_of 2 = .ok (.bipush 7, 2) := by decide +kernel
theorem dX6_of_4 : decode cX6_of 4 = .ok (.iload_n 0, 1) := by decide +kernel
theorem dX6_of_5 : decode cX6_of 5 = .ok (.imul, 1) := by decide +kernel
theorem dX6_of_6 : decode cX6_of 6 = .ok (.iadd, 1) := by decide +kernel
theorem dX6_of_7 : decode cX6_of 7 = .ok (.iload_n 1, 1) := by decide +kernel
theorem dX6_of_8 : decode cX6_of 8 = .ok (.iadd, 1) := by decide +kernel
theorem dX6_of_9 : decode cX6_of 9 = .ok (.ireturn, 1) := by decide +kernel
theorem dX6_know_0 : decode cX6_know 0 = .ok (.aload_n 0, 1) := by decide +kernel
theorem dX6_know_1 : decode cX6_know 1 = .ok (.getfield 37, 3) := by decide +kernel
theorem dX6_know_4 : decode cX6_know 4 = .ok (.iconst 4, 1) := by decide +kernel
theorem dX6_know_5 : decode cX6_know 5 = .ok (.if_icmp .ne 43, 3) := by decide +kernel
theorem dX6_know_8 : decode cX6_know 8 = .ok (.iconst 0, 1) := by decide +kernel
theorem dX6_know_9 : decode cX6_know 9 = .ok (.istore_n 1, 1) := by decide +kernel
theorem dX6_know_10 : decode cX6_know 10 = .ok (.iload_n 1, 1) := by decide +kernel
theorem dX6_know_11 : decode cX6_know 11 = .ok (.sipush 351, 3) := by decide +kernel
theorem dX6_know_14 : decode cX6_know 14 = .ok (.if_icmp .ge 24, 3) := by decide +kernel
theorem dX6_know_17 : decode cX6_know 17 = .ok (.aload_n 0, 1) := by decide +kernel
theorem dX6_know_18 : decode cX6_know 18 = .ok (.getfield 13, 3) := by decide +kernel
theorem dX6_know_21 : decode cX6_know 21 = .ok (.iload_n 1, 1) := by decide +kernel
theorem dX6_know_22 : decode cX6_know 22 = .ok (.aload_n 0, 1) := by decide +kernel
theorem dX6_know_23 : decode cX6_know 23 = .ok (.getfield 13, 3) := by decide +kernel
theorem dX6_know_26 : decode cX6_know 26 = .ok (.bipush 117, 2) := by decide +kernel
theorem dX6_know_28 : decode cX6_know 28 = .ok (.iload_n 1, 1) := by decide +kernel
theorem dX6_know_29 : decode cX6_know 29 = .ok (.iadd, 1) := by decide +kernel
theorem dX6_know_30 : decode cX6_know 30 = .ok (.iaload, 1) := by decide +kernel
theorem dX6_know_31 : decode cX6_know 31 = .ok (.iastore, 1) := by decide +kernel
theorem dX6_know_32 : decode cX6_know 32 = .ok (.iinc 1 1, 3) := by decide +kernel
theorem dX6_know_35 : decode cX6_know 35 = .ok (.goto (-25), 3) := by decide +kernel
theorem dX6_know_38 : decode cX6_know 38 = .ok (.aload_n 0, 1) := by decide +kernel
theorem dX6_know_39 : decode cX6_know 39 = .ok (.dup, 1) := by decide +kernel
theorem dX6_know_40 : decode cX6_know 40 = .ok (.getfield 37, 3) := by decide +kernel
theorem dX6_know_43 : decode cX6_know 43 = .ok (.iconst 1, 1) := by decide +kernel
theorem dX6_know_44 : decode cX6_know 44 = .ok (.isub, 1) := by decide +kernel
theorem dX6_know_45 : decode cX6_know 45 = .ok (.putfield 37, 3) := by decide +kernel
theorem dX6_know_48 : decode cX6_know 48 = .ok (.iconst 0, 1) := by decide +kernel
theorem dX6_know_49 : decode cX6_know 49 = .ok (.istore_n 1, 1) := by decide +kernel
theorem dX6_know_50 : decode cX6_know 50 = .ok (.iload_n 1, 1) := by decide +kernel
theorem dX6_know_51 : decode cX6_know 51 = .ok (.bipush 117, 2) := by decide +kernel
theorem dX6_know_53 : decode cX6_know 53 = .ok (.if_icmp .ge 29, 3) := by decide +kernel
theorem dX6_know_56 : decode cX6_know 56 = .ok (.aload_n 0, 1) := by decide +kernel
theorem dX6_know_57 : decode cX6_know 57 = .ok (.getfield 13, 3) := by decide +kernel
theorem dX6_know_60 : decode cX6_know 60 = .ok (.bipush 117, 2) := by decide +kernel
theorem dX6_know_62 : decode cX6_know 62 = .ok (.aload_n 0, 1) := by decide +kernel
theorem dX6_know_63 : decode cX6_know 63 = .ok (.getfield 37, 3) := by decide +kernel
theorem dX6_know_66 : decode cX6_know 66 = .ok (.imul, 1) := by decide +kernel
theorem dX6_know_67 : decode cX6_know 67 = .ok (.iload_n 1, 1) := by decide +kernel
theorem dX6_know_68 : decode cX6_know 68 = .ok (.iadd, 1) := by decide +kernel
theorem dX6_know_69 : decode cX6_know 69 = .ok (.aload_n 0, 1) := by decide +kernel
theorem dX6_know_70 : decode cX6_know 70 = .ok (.getfield 7, 3) := by decide +kernel
theorem dX6_know_73 : decode cX6_know 73 = .ok (.iload_n 1, 1) := by decide +kernel
theorem dX6_know_74 : decode cX6_know 74 = .ok (.iaload, 1) := by decide +kernel
theorem dX6_know_75 : decode cX6_know 75 = .ok (.iastore, 1) := by decide +kernel
theorem dX6_know_76 : decode cX6_know 76 = .ok (.iinc 1 1, 3) := by decide +kernel
theorem dX6_know_79 : decode cX6_know 79 = .ok (.goto (-29), 3) := by decide +kernel
theorem dX6_know_82 : decode cX6_know 82 = .ok (.aload_n 0, 1) := by decide +kernel
theorem dX6_know_83 : decode cX6_know 83 = .ok (.dup, 1) := by decide +kernel
theorem dX6_know_84 : decode cX6_know 84 = .ok (.getfield 37, 3) := by decide +kernel
theorem dX6_know_87 : decode cX6_know 87 = .ok (.iconst 1, 1) := by decide +kernel
theorem dX6_know_88 : decode cX6_know 88 = .ok (.iadd, 1) := by decide +kernel
theorem dX6_know_89 : decode cX6_know 89 = .ok (.putfield 37, 3) := by decide +kernel
theorem dX6_know_92 : decode cX6_know 92 = .ok (.return_, 1) := by decide +kernel
theorem dX6_isOn_0 : decode cX6_isOn 0 = .ok (.aload_n 0, 1) := by decide +kernel
theorem dX6_isOn_1 : decode cX6_isOn 1 = .ok (.getfield 7, 3) := by decide +kernel
theorem dX6_isOn_4 : decode cX6_isOn 4 = .ok (.iconst 0, 1) := by decide +kernel
theorem dX6_isOn_5 : decode cX6_isOn 5 = .ok (.iaload, 1) := by decide +kernel
theorem dX6_isOn_6 : decode cX6_isOn 6 = .ok (.istore_n 3, 1) := by decide +kernel
theorem dX6_isOn_7 : decode cX6_isOn 7 = .ok (.iload_n 2, 1) := by decide +kernel
theorem dX6_isOn_8 : decode cX6_isOn 8 = .ok (.iload_n 3, 1) := by decide +kernel
theorem dX6_isOn_9 : decode cX6_isOn 9 = .ok (.idiv, 1) := by decide +kernel
theorem dX6_isOn_10 : decode cX6_isOn 10 = .ok (.istore 4, 2) := by decide +kernel
theorem dX6_isOn_12 : decode cX6_isOn 12 = .ok (.iload_n 2, 1) := by decide +kernel
theorem dX6_isOn_13 : decode cX6_isOn 13 = .ok (.iload_n 3, 1) := by decide +kernel
theorem dX6_isOn_14 : decode cX6_isOn 14 = .ok (.irem, 1) := by decide +kernel
theorem dX6_isOn_15 : decode cX6_isOn 15 = .ok (.istore 5, 2) := by decide +kernel
theorem dX6_isOn_17 : decode cX6_isOn 17 = .ok (.iload_n 1, 1) := by decide +kernel
theorem dX6_isOn_18 : decode cX6_isOn 18 = .ok (.iload_n 3, 1) := by decide +kernel
theorem dX6_isOn_19 : decode cX6_isOn 19 = .ok (.if_icmp .ge 17, 3) := by decide +kernel
theorem dX6_isOn_22 : decode cX6_isOn 22 = .ok (.iload 4, 2) := by decide +kernel
theorem dX6_isOn_24 : decode cX6_isOn 24 = .ok (.iload_n 1, 1) := by decide +kernel
theorem dX6_isOn_25 : decode cX6_isOn 25 = .ok (.if_icmp .ne 7, 3) := by decide +kernel
theorem dX6_isOn_28 : decode cX6_isOn 28 = .ok (.iconst 1, 1) := by decide +kernel
theorem dX6_isOn_29 : decode cX6_isOn 29 = .ok (.goto 68, 3) := by decide +kernel
theorem dX6_isOn_32 : decode cX6_isOn 32 = .ok (.iconst 0, 1) := by decide +kernel
theorem dX6_isOn_33 : decode cX6_isOn 33 = .ok (.goto 64, 3) := by decide +kernel
theorem dX6_isOn_36 : decode cX6_isOn 36 = .ok (.iload_n 1, 1) := by decide +kernel
theorem dX6_isOn_37 : decode cX6_isOn 37 = .ok (.iconst 2, 1) := by decide +kernel
theorem dX6_isOn_38 : decode cX6_isOn 38 = .ok (.iload_n 3, 1) := by decide +kernel
theorem dX6_isOn_39 : decode cX6_isOn 39 = .ok (.imul, 1) := by decide +kernel
theorem dX6_isOn_40 : decode cX6_isOn 40 = .ok (.if_icmp .ge 19, 3) := by decide +kernel
theorem dX6_isOn_43 : decode cX6_isOn 43 = .ok (.iload 5, 2) := by decide +kernel
theorem dX6_isOn_45 : decode cX6_isOn 45 = .ok (.iload_n 1, 1) := by decide +kernel
theorem dX6_isOn_46 : decode cX6_isOn 46 = .ok (.iload_n 3, 1) := by decide +kernel
theorem dX6_isOn_47 : decode cX6_isOn 47 = .ok (.isub, 1) := by decide +kernel
theorem dX6_isOn_48 : decode cX6_isOn 48 = .ok (.if_icmp .ne 7, 3) := by decide +kernel
theorem dX6_isOn_51 : decode cX6_isOn 51 = .ok (.iconst 1, 1) := by decide +kernel
theorem dX6_isOn_52 : decode cX6_isOn 52 = .ok (.goto 45, 3) := by decide +kernel
theorem dX6_isOn_55 : decode cX6_isOn 55 = .ok (.iconst 0, 1) := by decide +kernel
theorem dX6_isOn_56 : decode cX6_isOn 56 = .ok (.goto 41, 3) := by decide +kernel
theorem dX6_isOn_59 : decode cX6_isOn 59 = .ok (.iload_n 1, 1) := by decide +kernel
theorem dX6_isOn_60 : decode cX6_isOn 60 = .ok (.iconst 2, 1) := by decide +kernel
theorem dX6_isOn_61 : decode cX6_isOn 61 = .ok (.iload_n 3, 1) := by decide +kernel
theorem dX6_isOn_62 : decode cX6_isOn 62 = .ok (.imul, 1) := by decide +kernel
theorem dX6_isOn_63 : decode cX6_isOn 63 = .ok (.if_icmp .ne 18, 3) := by decide +kernel
theorem dX6_isOn_66 : decode cX6_isOn 66 = .ok (.iload 4, 2) := by decide +kernel
theorem dX6_isOn_68 : decode cX6_isOn 68 = .ok (.iload 5, 2) := by decide +kernel
theorem dX6_isOn_70 : decode cX6_isOn 70 = .ok (.if_icmp .ne 7, 3) := by decide +kernel
theorem dX6_isOn_73 : decode cX6_isOn 73 = .ok (.iconst 1, 1) := by decide +kernel
theorem dX6_isOn_74 : decode cX6_isOn 74 = .ok (.goto 23, 3) := by decide +kernel
theorem dX6_isOn_77 : decode cX6_isOn 77 = .ok (.iconst 0, 1) := by decide +kernel
theorem dX6_isOn_78 : decode cX6_isOn 78 = .ok (.goto 19, 3) := by decide +kernel
theorem dX6_isOn_81 : decode cX6_isOn 81 = .ok (.iload 4, 2) := by decide +kernel
theorem dX6_isOn_83 : decode cX6_isOn 83 = .ok (.iload 5, 2) := by decide +kernel
theorem dX6_isOn_85 : decode cX6_isOn 85 = .ok (.iadd, 1) := by decide +kernel
theorem dX6_isOn_86 : decode cX6_isOn 86 = .ok (.iload_n 3, 1) := by decide +kernel
theorem dX6_isOn_87 : decode cX6_isOn 87 = .ok (.iconst 1, 1) := by decide +kernel
theorem dX6_isOn_88 : decode cX6_isOn 88 = .ok (.isub, 1) := by decide +kernel
theorem dX6_isOn_89 : decode cX6_isOn 89 = .ok (.if_icmp .ne 7, 3) := by decide +kernel
theorem dX6_isOn_92 : decode cX6_isOn 92 = .ok (.iconst 1, 1) := by decide +kernel
theorem dX6_isOn_93 : decode cX6_isOn 93 = .ok (.goto 4, 3) := by decide +kernel
theorem dX6_isOn_96 : decode cX6_isOn 96 = .ok (.iconst 0, 1) := by decide +kernel
theorem dX6_isOn_97 : decode cX6_isOn 97 = .ok (.ireturn, 1) := by decide +kernel
set_option maxRecDepth 20000 in
theorem ggX6_sum_X6_cells : GoodIn wsX6_sum wsX6_cells := goodIn_r _ [6, 1, 11, 12, 13, 14, 15, 16, 17] (by decide +kernel) (by decide +kernel)
set_option maxRecDepth 20000 in
theorem gX6_sum_X6_cells : GoodIn wsX6_sum (wsV RX6 26 RX6 yX6_cells wsX6_cells) := goodIn_app (goodIn_of _ (by decide +kernel)) ggX6_sum_X6_cells
set_option maxRecDepth 20000 in
theorem ggX6_sum_X6_isOn : GoodIn wsX6_sum wsX6_isOn := goodIn_r _ [10, 1, 11, 12, 13, 14, 15, 16, 17] (by decide +kernel) (by decide +kernel)
set_option maxRecDepth 20000 in
theorem gX6_sum_X6_isOn : GoodIn wsX6_sum (wsV RX6 41 RX6 yX6_isOn wsX6_isOn) := goodIn_app (goodIn_of _ (by decide +kernel)) ggX6_sum_X6_isOn
theorem dX6_sum_0 : decode cX6_sum 0 = .ok (.iconst 0, 1) := by decide +kernel
theorem dX6_sum_1 : decode cX6_sum 1 = .ok (.istore_n 2, 1) := by decide +kernel
theorem dX6_sum_2 : decode cX6_sum 2 = .ok (.iconst 0, 1) := by decide +kernel
theorem dX6_sum_3 : decode cX6_sum 3 = .ok (.istore_n 3, 1) := by decide +kernel
theorem dX6_sum_4 : decode cX6_sum 4 = .ok (.iload_n 3, 1) := by decide +kernel
theorem dX6_sum_5 : decode cX6_sum 5 = .ok (.aload_n 0, 1) := by decide +kernel
theorem dX6_sum_6 : decode cX6_sum 6 = .ok (.invokevirtual 26, 3) := by decide +kernel
theorem dX6_sum_9 : decode cX6_sum 9 = .ok (.if_icmp .ge 34, 3) := by decide +kernel
theorem dX6_sum_12 : decode cX6_sum 12 = .ok (.iload_n 2, 1) := by decide +kernel
theorem dX6_sum_13 : decode cX6_sum 13 = .ok (.aload_n 0, 1) := by decide +kernel
theorem dX6_sum_14 : decode cX6_sum 14 = .ok (.iload_n 1, 1) := by decide +kernel
theorem dX6_sum_15 : decode cX6_sum 15 = .ok (.iload_n 3, 1) := by decide +kernel
theorem dX6_sum_16 : decode cX6_sum 16 = .ok (.invokevirtual 41, 3) := by decide +kernel
theorem dX6_sum_19 : decode cX6_sum 19 = .ok (.ifCond .eq 15, 3) := by decide +kernel
theorem dX6_sum_22 : decode cX6_sum 22 = .ok (.aload_n 0, 1) := by decide +kernel
theorem dX6_sum_23 : decode cX6_sum 23 = .ok (.getfield 7, 3) := by decide +kernel
theorem dX6_sum_26 : decode cX6_sum 26 = .ok (.bipush 15, 2) := by decide +kernel
theorem dX6_sum_28 : decode cX6_sum 28 = .ok (.iload_n 3, 1) := by decide +kernel
theorem dX6_sum_29 : decode cX6_sum 29 = .ok (.iadd, 1) := by decide +kernel
theorem dX6_sum_30 : decode cX6_sum 30 = .ok (.iaload, 1) := by decide +kernel
theorem dX6_sum_31 : decode cX6_sum 31 = .ok (.goto 4, 3) := by decide +kernel
theorem dX6_sum_34 : decode cX6_sum 34 = .ok (.iconst 0, 1) := by decide +kernel
theorem dX6_sum_35 : decode cX6_sum 35 = .ok (.iadd, 1) := by decide +kernel
theorem dX6_sum_36 : decode cX6_sum 36 = .ok (.istore_n 2, 1) := by decide +kernel
theorem dX6_sum_37 : decode cX6_sum 37 = .ok (.iinc 3 1, 3) := by decide +kernel
theorem dX6_sum_40 : decode cX6_sum 40 = .ok (.goto (-36), 3) := by decide +kernel
theorem dX6_sum_43 : decode cX6_sum 43 = .ok (.iload_n 2, 1) := by decide +kernel
theorem dX6_sum_44 : decode cX6_sum 44 = .ok (.ireturn, 1) := by decide +kernel
set_option maxRecDepth 20000 in
theorem ggX6_magic_X6_cells : GoodIn wsX6_magic wsX6_cells := goodIn_r _ [6, 1, 7, 8, 9, 10, 11, 12, 13] (by decide +kernel) (by decide +kernel)
set_option maxRecDepth 20000 in
theorem gX6_magic_X6_cells : GoodIn wsX6_magic (wsV RX6 26 RX6 yX6_cells wsX6_cells) := goodIn_app (goodIn_of _ (by decide +kernel)) ggX6_magic_X6_cells
theorem dX6_magic_0 : decode cX6_magic 0 = .ok (.aload_n 0, 1) := by decide +kernel
theorem dX6_magic_1 : decode cX6_magic 1 = .ok (.getfield 7, 3) := by decide +kernel
theorem dX6_magic_4 : decode cX6_magic 4 = .ok (.iconst 0, 1) := by decide +kernel
theorem dX6_magic_5 : decode cX6_magic 5 = .ok (.iaload, 1) := by decide +kernel
theorem dX6_magic_6 : decode cX6_magic 6 = .ok (.aload_n 0, 1) := by decide +kernel
theorem dX6_magic_7 : decode cX6_magic 7 = .ok (.invokevirtual 26, 3) := by decide +kernel
theorem dX6_magic_10 : decode cX6_magic 10 = .ok (.iconst 1, 1) := by decide +kernel
theorem dX6_magic_11 : decode cX6_magic 11 = .ok (.iadd, 1) := by decide +kernel
theorem dX6_magic_12 : decode cX6_magic 12 = .ok (.imul, 1) := by decide +kernel
theorem dX6_magic_13 : decode cX6_magic 13 = .ok (.iconst 2, 1) := by decide +kernel
theorem dX6_magic_14 : decode cX6_magic 14 = .ok (.idiv, 1) := by decide +kernel
theorem dX6_magic_15 : decode cX6_magic 15 = .ok (.ireturn, 1) := by decide +kernel
set_option maxRecDepth 20000 in
theorem ggX6_off_X6_sum : GoodIn wsX6_off wsX6_sum := goodIn_r _ [5, 6, 7, 8, 9, 4, 10, 11, 12, 13, 14, 19, 20, 21, 22, 23, 24, 25] (by decide +kernel) (by decide +kernel)
set_option maxRecDepth 20000 in
theorem gX6_off_X6_sum : GoodIn wsX6_off (wsV RX6 45 RX6 yX6_sum wsX6_sum) := goodIn_app (goodIn_of _ (by decide +kernel)) ggX6_off_X6_sum
set_option maxRecDepth 20000 in
theorem ggX6_off_X6_magic : GoodIn wsX6_off wsX6_magic := goodIn_r _ [18, 6, 7, 8, 9, 4, 10, 19, 20, 21, 22, 23, 24, 25] (by decide +kernel) (by decide +kernel)
set_option maxRecDepth 20000 in
theorem gX6_off_X6_magic : GoodIn wsX6_off (wsV RX6 49 RX6 yX6_magic wsX6_magic) := goodIn_app (goodIn_of _ (by decide +kernel)) ggX6_off_X6_magic
theorem dX6_off_0 : decode cX6_off 0 = .ok (.aload_n 0, 1) := by decide +kernel
theorem dX6_off_1 : decode cX6_off 1 = .ok (.iload_n 1, 1) := by decide +kernel
theorem dX6_off_2 : decode cX6_off 2 = .ok (.invokevirtual 45, 3) := by decide +kernel
theorem dX6_off_5 : decode cX6_off 5 = .ok (.aload_n 0, 1) := by decide +kernel
theorem dX6_off_6 : decode cX6_off 6 = .ok (.invokevirtual 49, 3) := by decide +kernel
theorem dX6_off_9 : decode cX6_off 9 = .ok (.isub, 1) := by decide +kernel
theorem dX6_off_10 : decode cX6_off 10 = .ok (.istore_n 2, 1) := by decide +kernel
theorem dX6_off_11 : decode cX6_off 11 = .ok (.iload_n 2, 1) := by decide +kernel
theorem dX6_off_12 : decode cX6_off 12 = .ok (.ifCond .ge 8, 3) := by decide +kernel
theorem dX6_off_15 : decode cX6_off 15 = .ok (.iload_n 2, 1) := by decide +kernel
theorem dX6_off_16 : decode cX6_off 16 = .ok (.ineg, 1) := by decide +kernel
theorem dX6_off_17 : decode cX6_off 17 = .ok (.goto 4, 3) := by decide +kernel
theorem dX6_off_20 : decode cX6_off 20 = .ok (.iload_n 2, 1) := by decide +kernel
theorem dX6_off_21 : decode cX6_off 21 = .ok (.ireturn, 1) := by decide +kernel
set_option maxRecDepth 20000 in
theorem ggX6_wayOff_X6_lines : GoodIn wsX6_wayOff wsX6_lines := goodIn_r _ [5, 6, 27, 28, 29, 30, 31, 32, 33] (by decide +kernel) (by decide +kernel)
set_option maxRecDepth 20000 in
theorem gX6_wayOff_X6_lines : GoodIn wsX6_wayOff (wsV RX6 34 RX6 yX6_lines wsX6_lines) := goodIn_app (goodIn_of _ (by decide +kernel)) ggX6_wayOff_X6_lines
set_option maxRecDepth 20000 in
theorem ggX6_wayOff_X6_off : GoodIn wsX6_wayOff wsX6_off := goodIn_r _ [10, 11, 12, 13, 4, 14, 6, 15, 16, 17, 18, 19, 20, 21, 22, 23, 24, 25, 26, 27, 28, 29, 30, 31, 32, 33] (by decide +kernel) (by decide +kernel)
set_option maxRecDepth 20000 in
theorem gX6_wayOff_X6_off : GoodIn wsX6_wayOff (wsV RX6 52 RX6 yX6_off wsX6_off) := goodIn_app (goodIn_of _ (by decide +kernel)) ggX6_wayOff_X6_off
theorem dX6_wayOff_0 : decode cX6_wayOff 0 = .ok (.iconst 0, 1) := by decide +kernel
theorem dX6_wayOff_1 : decode cX6_wayOff 1 = .ok (.istore_n 1, 1) := by decide +kernel
theorem dX6_wayOff_2 : decode cX6_wayOff 2 = .ok (.iconst 0, 1) := by decide +kernel
theorem dX6_wayOff_3 : decode cX6_wayOff 3 = .ok (.istore_n 2, 1) := by decide +kernel
theorem dX6_wayOff_4 : decode cX6_wayOff 4 = .ok (.iload_n 2, 1) := by decide +kernel
theorem dX6_wayOff_5 : decode cX6_wayOff 5 = .ok (.aload_n 0, 1) := by decide +kernel
theorem dX6_wayOff_6 : decode cX6_wayOff 6 = .ok (.invokevirtual 34, 3) := by decide +kernel
theorem dX6_wayOff_9 : decode cX6_wayOff 9 = .ok (.if_icmp .ge 17, 3) := by decide +kernel
theorem dX6_wayOff_12 : decode cX6_wayOff 12 = .ok (.iload_n 1, 1) := by decide +kernel
theorem dX6_wayOff_13 : decode cX6_wayOff 13 = .ok (.aload_n 0, 1) := by decide +kernel
theorem dX6_wayOff_14 : decode cX6_wayOff 14 = .ok (.iload_n 2, 1) := by decide +kernel
theorem dX6_wayOff_15 : decode cX6_wayOff 15 = .ok (.invokevirtual 52, 3) := by decide +kernel
theorem dX6_wayOff_18 : decode cX6_wayOff 18 = .ok (.iadd, 1) := by decide +kernel
theorem dX6_wayOff_19 : decode cX6_wayOff 19 = .ok (.istore_n 1, 1) := by decide +kernel
theorem dX6_wayOff_20 : decode cX6_wayOff 20 = .ok (.iinc 2 1, 3) := by decide +kernel
theorem dX6_wayOff_23 : decode cX6_wayOff 23 = .ok (.goto (-19), 3) := by decide +kernel
theorem dX6_wayOff_26 : decode cX6_wayOff 26 = .ok (.iload_n 1, 1) := by decide +kernel
theorem dX6_wayOff_27 : decode cX6_wayOff 27 = .ok (.ireturn, 1) := by decide +kernel
set_option maxRecDepth 20000 in
theorem ggX6_magicLines_X6_lines : GoodIn wsX6_magicLines wsX6_lines := goodIn_r _ [5, 6, 27, 28, 29, 30, 31, 32, 33] (by decide +kernel) (by decide +kernel)
set_option maxRecDepth 20000 in
theorem gX6_magicLines_X6_lines : GoodIn wsX6_magicLines (wsV RX6 34 RX6 yX6_lines wsX6_lines) := goodIn_app (goodIn_of _ (by decide +kernel)) ggX6_magicLines_X6_lines
set_option maxRecDepth 20000 in
theorem ggX6_magicLines_X6_off : GoodIn wsX6_magicLines wsX6_off := goodIn_r _ [10, 11, 12, 13, 4, 14, 6, 15, 16, 17, 18, 19, 20, 21, 22, 23, 24, 25, 26, 27, 28, 29, 30, 31, 32, 33] (by decide +kernel) (by decide +kernel)
set_option maxRecDepth 20000 in
theorem gX6_magicLines_X6_off : GoodIn wsX6_magicLines (wsV RX6 52 RX6 yX6_off wsX6_off) := goodIn_app (goodIn_of _ (by decide +kernel)) ggX6_magicLines_X6_off
theorem dX6_magicLines_0 : decode cX6_magicLines 0 = .ok (.iconst 0, 1) := by decide +kernel
theorem dX6_magicLines_1 : decode cX6_magicLines 1 = .ok (.istore_n 1, 1) := by decide +kernel
theorem dX6_magicLines_2 : decode cX6_magicLines 2 = .ok (.iconst 0, 1) := by decide +kernel
theorem dX6_magicLines_3 : decode cX6_magicLines 3 = .ok (.istore_n 2, 1) := by decide +kernel
theorem dX6_magicLines_4 : decode cX6_magicLines 4 = .ok (.iload_n 2, 1) := by decide +kernel
theorem dX6_magicLines_5 : decode cX6_magicLines 5 = .ok (.aload_n 0, 1) := by decide +kernel
theorem dX6_magicLines_6 : decode cX6_magicLines 6 = .ok (.invokevirtual 34, 3) := by decide +kernel
theorem dX6_magicLines_9 : decode cX6_magicLines 9 = .ok (.if_icmp .ge 25, 3) := by decide +kernel
theorem dX6_magicLines_12 : decode cX6_magicLines 12 = .ok (.iload_n 1, 1) := by decide +kernel
theorem dX6_magicLines_13 : decode cX6_magicLines 13 = .ok (.aload_n 0, 1) := by decide +kernel
theorem dX6_magicLines_14 : decode cX6_magicLines 14 = .ok (.iload_n 2, 1) := by decide +kernel
theorem dX6_magicLines_15 : decode cX6_magicLines 15 = .ok (.invokevirtual 52, 3) := by decide +kernel
theorem dX6_magicLines_18 : decode cX6_magicLines 18 = .ok (.ifCond .ne 7, 3) := by decide +kernel
theorem dX6_magicLines_21 : decode cX6_magicLines 21 = .ok (.iconst 1, 1) := by decide +kernel
theorem dX6_magicLines_22 : decode cX6_magicLines 22 = .ok (.goto 4, 3) := by decide +kernel
theorem dX6_magicLines_25 : decode cX6_magicLines 25 = .ok (.iconst 0, 1) := by decide +kernel
theorem dX6_magicLines_26 : decode cX6_magicLines 26 = .ok (.iadd, 1) := by decide +kernel
theorem dX6_magicLines_27 : decode cX6_magicLines 27 = .ok (.istore_n 1, 1) := by decide +kernel
theorem dX6_magicLines_28 : decode cX6_magicLines 28 = .ok (.iinc 2 1, 3) := by decide +kernel
theorem dX6_magicLines_31 : decode cX6_magicLines 31 = .ok (.goto (-27), 3) := by decide +kernel
theorem dX6_magicLines_34 : decode cX6_magicLines 34 = .ok (.iload_n 1, 1) := by decide +kernel
theorem dX6_magicLines_35 : decode cX6_magicLines 35 = .ok (.ireturn, 1) := by decide +kernel
theorem dX6_exchange_0 : decode cX6_exchange 0 = .ok (.aload_n 0, 1) := by decide +kernel
theorem dX6_exchange_1 : decode cX6_exchange 1 = .ok (.getfield 7, 3) := by decide +kernel
theorem dX6_exchange_4 : decode cX6_exchange 4 = .ok (.bipush 15, 2) := by decide +kernel
theorem dX6_exchange_6 : decode cX6_exchange 6 = .ok (.iload_n 1, 1) := by decide +kernel
theorem dX6_exchange_7 : decode cX6_exchange 7 = .ok (.iadd, 1) := by decide +kernel
theorem dX6_exchange_8 : decode cX6_exchange 8 = .ok (.iaload, 1) := by decide +kernel
theorem dX6_exchange_9 : decode cX6_exchange 9 = .ok (.istore_n 3, 1) := by decide +kernel
theorem dX6_exchange_10 : decode cX6_exchange 10 = .ok (.aload_n 0, 1) := by decide +kernel
theorem dX6_exchange_11 : decode cX6_exchange 11 = .ok (.getfield 7, 3) := by decide +kernel
theorem dX6_exchange_14 : decode cX6_exchange 14 = .ok (.bipush 15, 2) := by decide +kernel
theorem dX6_exchange_16 : decode cX6_exchange 16 = .ok (.iload_n 1, 1) := by decide +kernel
theorem dX6_exchange_17 : decode cX6_exchange 17 = .ok (.iadd, 1) := by decide +kernel
theorem dX6_exchange_18 : decode cX6_exchange 18 = .ok (.aload_n 0, 1) := by decide +kernel
theorem dX6_exchange_19 : decode cX6_exchange 19 = .ok (.getfield 7, 3) := by decide +kernel
theorem dX6_exchange_22 : decode cX6_exchange 22 = .ok (.bipush 15, 2) := by decide +kernel
theorem dX6_exchange_24 : decode cX6_exchange 24 = .ok (.iload_n 2, 1) := by decide +kernel
theorem dX6_exchange_25 : decode cX6_exchange 25 = .ok (.iadd, 1) := by decide +kernel
theorem dX6_exchange_26 : decode cX6_exchange 26 = .ok (.iaload, 1) := by decide +kernel
theorem dX6_exchange_27 : decode cX6_exchange 27 = .ok (.iastore, 1) := by decide +kernel
theorem dX6_exchange_28 : decode cX6_exchange 28 = .ok (.aload_n 0, 1) := by decide +kernel
theorem dX6_exchange_29 : decode cX6_exchange 29 = .ok (.getfield 7, 3) := by decide +kernel
theorem dX6_exchange_32 : decode cX6_exchange 32 = .ok (.bipush 15, 2) := by decide +kernel
theorem dX6_exchange_34 : decode cX6_exchange 34 = .ok (.iload_n 2, 1) := by decide +kernel
theorem dX6_exchange_35 : decode cX6_exchange 35 = .ok (.iadd, 1) := by decide +kernel
theorem dX6_exchange_36 : decode cX6_exchange 36 = .ok (.iload_n 3, 1) := by decide +kernel
theorem dX6_exchange_37 : decode cX6_exchange 37 = .ok (.iastore, 1) := by decide +kernel
theorem dX6_exchange_38 : decode cX6_exchange 38 = .ok (.return_, 1) := by decide +kernel
set_option maxRecDepth 20000 in
theorem ggX6_oddsOf_X6_of : GoodIn wsX6_oddsOf wsX6_of := goodIn_r _ [5] (by decide +kernel) (by decide +kernel)
set_option maxRecDepth 20000 in
theorem gX6_oddsOf_X6_of : GoodIn wsX6_oddsOf (va_wsS RX6 55 yX6_of wsX6_of) := goodIn_app (goodIn_of _ (by decide +kernel)) ggX6_oddsOf_X6_of
theorem dX6_oddsOf_0 : decode cX6_oddsOf 0 = .ok (.fconst 1, 1) := by decide +kernel
theorem dX6_oddsOf_1 : decode cX6_oddsOf 1 = .ok (.aload_n 0, 1) := by decide +kernel
theorem dX6_oddsOf_2 : decode cX6_oddsOf 2 = .ok (.getfield 7, 3) := by decide +kernel
theorem dX6_oddsOf_5 : decode cX6_oddsOf 5 = .ok (.iload_n 1, 1) := by decide +kernel
theorem dX6_oddsOf_6 : decode cX6_oddsOf 6 = .ok (.iconst 5, 1) := by decide +kernel
theorem dX6_oddsOf_7 : decode cX6_oddsOf 7 = .ok (.invokestatic 55, 3) := by decide +kernel
theorem dX6_oddsOf_10 : decode cX6_oddsOf 10 = .ok (.iaload, 1) := by decide +kernel
theorem dX6_oddsOf_11 : decode cX6_oddsOf 11 = .ok (.i2f, 1) := by decide +kernel
theorem dX6_oddsOf_12 : decode cX6_oddsOf 12 = .ok (.aload_n 0, 1) := by decide +kernel
theorem dX6_oddsOf_13 : decode cX6_oddsOf 13 = .ok (.getfield 7, 3) := by decide +kernel
theorem dX6_oddsOf_16 : decode cX6_oddsOf 16 = .ok (.iload_n 1, 1) := by decide +kernel
theorem dX6_oddsOf_17 : decode cX6_oddsOf 17 = .ok (.bipush 6, 2) := by decide +kernel
theorem dX6_oddsOf_19 : decode cX6_oddsOf 19 = .ok (.invokestatic 55, 3) := by decide +kernel
theorem dX6_oddsOf_22 : decode cX6_oddsOf 22 = .ok (.iaload, 1) := by decide +kernel
theorem dX6_oddsOf_23 : decode cX6_oddsOf 23 = .ok (.i2f, 1) := by decide +kernel
theorem dX6_oddsOf_24 : decode cX6_oddsOf 24 = .ok (.fdiv, 1) := by decide +kernel
theorem dX6_oddsOf_25 : decode cX6_oddsOf 25 = .ok (.fadd, 1) := by decide +kernel
theorem dX6_oddsOf_26 : decode cX6_oddsOf 26 = .ok (.freturn, 1) := by decide +kernel
set_option maxRecDepth 20000 in
theorem ggX6_pays_X6_of : GoodIn wsX6_pays wsX6_of := goodIn_r _ [5] (by decide +kernel) (by decide +kernel)
set_option maxRecDepth 20000 in
theorem gX6_pays_X6_of : GoodIn wsX6_pays (va_wsS RX6 55 yX6_of wsX6_of) := goodIn_app (goodIn_of _ (by decide +kernel)) ggX6_pays_X6_of
set_option maxRecDepth 20000 in
theorem ggX6_pays_X6_oddsOf : GoodIn wsX6_pays wsX6_oddsOf := goodIn_r _ [9, 1, 2, 3, 4, 5, 10, 11, 12, 13, 14, 15, 16] (by decide +kernel) (by decide +kernel)
set_option maxRecDepth 20000 in
theorem gX6_pays_X6_oddsOf : GoodIn wsX6_pays (wsV RX6 59 RX6 yX6_oddsOf wsX6_oddsOf) := goodIn_app (goodIn_of _ (by decide +kernel)) ggX6_pays_X6_oddsOf
theorem dX6_pays_0 : decode cX6_pays 0 = .ok (.aload_n 0, 1) := by decide +kernel
theorem dX6_pays_1 : decode cX6_pays 1 = .ok (.getfield 7, 3) := by decide +kernel
theorem dX6_pays_4 : decode cX6_pays 4 = .ok (.iload_n 1, 1) := by decide +kernel
theorem dX6_pays_5 : decode cX6_pays 5 = .ok (.iconst 3, 1) := by decide +kernel
theorem dX6_pays_6 : decode cX6_pays 6 = .ok (.invokestatic 55, 3) := by decide +kernel
theorem dX6_pays_9 : decode cX6_pays 9 = .ok (.iaload, 1) := by decide +kernel
theorem dX6_pays_10 : decode cX6_pays 10 = .ok (.i2f, 1) := by decide +kernel
theorem dX6_pays_11 : decode cX6_pays 11 = .ok (.aload_n 0, 1) := by decide +kernel
theorem dX6_pays_12 : decode cX6_pays 12 = .ok (.iload_n 1, 1) := by decide +kernel
theorem dX6_pays_13 : decode cX6_pays 13 = .ok (.invokevirtual 59, 3) := by decide +kernel
theorem dX6_pays_16 : decode cX6_pays 16 = .ok (.fmul, 1) := by decide +kernel
theorem dX6_pays_17 : decode cX6_pays 17 = .ok (.f2i, 1) := by decide +kernel
theorem dX6_pays_18 : decode cX6_pays 18 = .ok (.ireturn, 1) := by decide +kernel
set_option maxRecDepth 20000 in
theorem ggX6_isRight_X6_of : GoodIn wsX6_isRight wsX6_of := goodIn_r _ [5] (by decide +kernel) (by decide +kernel)
set_option maxRecDepth 20000 in
theorem gX6_isRight_X6_of : GoodIn wsX6_isRight (va_wsS RX6 55 yX6_of wsX6_of) := goodIn_app (goodIn_of _ (by decide +kernel)) ggX6_isRight_X6_of
set_option maxRecDepth 20000 in
theorem ggX6_isRight_X6_sum : GoodIn wsX6_isRight wsX6_sum := goodIn_r _ [9, 1, 10, 11, 12, 4, 13, 14, 15, 16, 17, 26, 27, 28, 29, 30, 31, 32] (by decide +kernel) (by decide +kernel)
set_option maxRecDepth 20000 in
theorem gX6_isRight_X6_sum : GoodIn wsX6_isRight (wsV RX6 45 RX6 yX6_sum wsX6_sum) := goodIn_app (goodIn_of _ (by decide +kernel)) ggX6_isRight_X6_sum
set_option maxRecDepth 20000 in
theorem ggX6_isRight_X6_off : GoodIn wsX6_isRight wsX6_off := goodIn_r _ [21, 6, 7, 8, 4, 9, 1, 10, 11, 12, 13, 14, 15, 16, 17, 22, 23, 24, 25, 26, 27, 28, 29, 30, 31, 32] (by decide +kernel) (by decide +kernel)
set_option maxRecDepth 20000 in
theorem gX6_isRight_X6_off : GoodIn wsX6_isRight (wsV RX6 52 RX6 yX6_off wsX6_off) := goodIn_app (goodIn_of _ (by decide +kernel)) ggX6_isRight_X6_off
theorem dX6_isRight_0 : decode cX6_isRight 0 = .ok (.aload_n 0, 1) := by decide +kernel
theorem dX6_isRight_1 : decode cX6_isRight 1 = .ok (.getfield 7, 3) := by decide +kernel
theorem dX6_isRight_4 : decode cX6_isRight 4 = .ok (.iload_n 1, 1) := by decide +kernel
theorem dX6_isRight_5 : decode cX6_isRight 5 = .ok (.iconst 1, 1) := by decide +kernel
theorem dX6_isRight_6 : decode cX6_isRight 6 = .ok (.invokestatic 55, 3) := by decide +kernel
theorem dX6_isRight_9 : decode cX6_isRight 9 = .ok (.iaload, 1) := by decide +kernel
theorem dX6_isRight_10 : decode cX6_isRight 10 = .ok (.istore_n 2, 1) := by decide +kernel
theorem dX6_isRight_11 : decode cX6_isRight 11 = .ok (.aload_n 0, 1) := by decide +kernel
theorem dX6_isRight_12 : decode cX6_isRight 12 = .ok (.getfield 7, 3) := by decide +kernel
theorem dX6_isRight_15 : decode cX6_isRight 15 = .ok (.iload_n 1, 1) := by decide +kernel
theorem dX6_isRight_16 : decode cX6_isRight 16 = .ok (.iconst 2, 1) := by decide +kernel
theorem dX6_isRight_17 : decode cX6_isRight 17 = .ok (.invokestatic 55, 3) := by decide +kernel
theorem dX6_isRight_20 : decode cX6_isRight 20 = .ok (.iaload, 1) := by decide +kernel
theorem dX6_isRight_21 : decode cX6_isRight 21 = .ok (.istore_n 3, 1) := by decide +kernel
theorem dX6_isRight_22 : decode cX6_isRight 22 = .ok (.aload_n 0, 1) := by decide +kernel
theorem dX6_isRight_23 : decode cX6_isRight 23 = .ok (.iload_n 2, 1) := by decide +kernel
theorem dX6_isRight_24 : decode cX6_isRight 24 = .ok (.invokevirtual 45, 3) := by decide +kernel
theorem dX6_isRight_27 : decode cX6_isRight 27 = .ok (.aload_n 0, 1) := by decide +kernel
theorem dX6_isRight_28 : decode cX6_isRight 28 = .ok (.getfield 7, 3) := by decide +kernel
theorem dX6_isRight_31 : decode cX6_isRight 31 = .ok (.iload_n 1, 1) := by decide +kernel
theorem dX6_isRight_32 : decode cX6_isRight 32 = .ok (.iconst 4, 1) := by decide +kernel
theorem dX6_isRight_33 : decode cX6_isRight 33 = .ok (.invokestatic 55, 3) := by decide +kernel
theorem dX6_isRight_36 : decode cX6_isRight 36 = .ok (.iaload, 1) := by decide +kernel
theorem dX6_isRight_37 : decode cX6_isRight 37 = .ok (.isub, 1) := by decide +kernel
theorem dX6_isRight_38 : decode cX6_isRight 38 = .ok (.istore 4, 2) := by decide +kernel
theorem dX6_isRight_40 : decode cX6_isRight 40 = .ok (.iload_n 3, 1) := by decide +kernel
theorem dX6_isRight_41 : decode cX6_isRight 41 = .ok (.ifCond .ne 19, 3) := by decide +kernel
theorem dX6_isRight_44 : decode cX6_isRight 44 = .ok (.aload_n 0, 1) := by decide +kernel
theorem dX6_isRight_45 : decode cX6_isRight 45 = .ok (.iload_n 2, 1) := by decide +kernel
theorem dX6_isRight_46 : decode cX6_isRight 46 = .ok (.invokevirtual 52, 3) := by decide +kernel
theorem dX6_isRight_49 : decode cX6_isRight 49 = .ok (.ifCond .ne 7, 3) := by decide +kernel
theorem dX6_isRight_52 : decode cX6_isRight 52 = .ok (.iconst 1, 1) := by decide +kernel
theorem dX6_isRight_53 : decode cX6_isRight 53 = .ok (.goto 35, 3) := by decide +kernel
theorem dX6_isRight_56 : decode cX6_isRight 56 = .ok (.iconst 0, 1) := by decide +kernel
theorem dX6_isRight_57 : decode cX6_isRight 57 = .ok (.goto 31, 3) := by decide +kernel
theorem dX6_isRight_60 : decode cX6_isRight 60 = .ok (.iload_n 3, 1) := by decide +kernel
theorem dX6_isRight_61 : decode cX6_isRight 61 = .ok (.iconst 1, 1) := by decide +kernel
theorem dX6_isRight_62 : decode cX6_isRight 62 = .ok (.if_icmp .ne 16, 3) := by decide +kernel
theorem dX6_isRight_65 : decode cX6_isRight 65 = .ok (.iload 4, 2) := by decide +kernel
theorem dX6_isRight_67 : decode cX6_isRight 67 = .ok (.ifCond .le 7, 3) := by decide +kernel
theorem dX6_isRight_70 : decode cX6_isRight 70 = .ok (.iconst 1, 1) := by decide +kernel
theorem dX6_isRight_71 : decode cX6_isRight 71 = .ok (.goto 17, 3) := by decide +kernel
theorem dX6_isRight_74 : decode cX6_isRight 74 = .ok (.iconst 0, 1) := by decide +kernel
theorem dX6_isRight_75 : decode cX6_isRight 75 = .ok (.goto 13, 3) := by decide +kernel
theorem dX6_isRight_78 : decode cX6_isRight 78 = .ok (.iload 4, 2) := by decide +kernel
theorem dX6_isRight_80 : decode cX6_isRight 80 = .ok (.ifCond .ge 7, 3) := by decide +kernel
theorem dX6_isRight_83 : decode cX6_isRight 83 = .ok (.iconst 1, 1) := by decide +kernel
theorem dX6_isRight_84 : decode cX6_isRight 84 = .ok (.goto 4, 3) := by decide +kernel
theorem dX6_isRight_87 : decode cX6_isRight 87 = .ok (.iconst 0, 1) := by decide +kernel
theorem dX6_isRight_88 : decode cX6_isRight 88 = .ok (.ireturn, 1) := by decide +kernel
set_option maxRecDepth 20000 in
theorem ggX6_wouldPay_X6_of : GoodIn wsX6_wouldPay wsX6_of := goodIn_r _ [5] (by decide +kernel) (by decide +kernel)
set_option maxRecDepth 20000 in
theorem gX6_wouldPay_X6_of : GoodIn wsX6_wouldPay (va_wsS RX6 55 yX6_of wsX6_of) := goodIn_app (goodIn_of _ (by decide +kernel)) ggX6_wouldPay_X6_of
set_option maxRecDepth 20000 in
theorem ggX6_wouldPay_X6_isRight : GoodIn wsX6_wouldPay wsX6_isRight := goodIn_r _ [9, 1, 2, 3, 4, 5, 10, 11, 12, 13, 14, 15, 16, 17, 18, 19, 20, 21, 22, 23, 24, 25, 26, 27, 28, 29, 38, 39, 40, 41, 42, 43, 44] (by decide +kernel) (by decide +kernel)
set_option maxRecDepth 20000 in
theorem gX6_wouldPay_X6_isRight : GoodIn wsX6_wouldPay (wsV RX6 63 RX6 yX6_isRight wsX6_isRight) := goodIn_app (goodIn_of _ (by decide +kernel)) ggX6_wouldPay_X6_isRight
set_option maxRecDepth 20000 in
theorem ggX6_wouldPay_X6_pays : GoodIn wsX6_wouldPay wsX6_pays := goodIn_r _ [33, 1, 2, 3, 4, 5, 34, 35, 36, 37, 38, 39, 40, 41, 42, 43, 44] (by decide +kernel) (by decide +kernel)
set_option maxRecDepth 20000 in
theorem gX6_wouldPay_X6_pays : GoodIn wsX6_wouldPay (wsV RX6 67 RX6 yX6_pays wsX6_pays) := goodIn_app (goodIn_of _ (by decide +kernel)) ggX6_wouldPay_X6_pays
theorem dX6_wouldPay_0 : decode cX6_wouldPay 0 = .ok (.iconst 0, 1) := by decide +kernel
theorem dX6_wouldPay_1 : decode cX6_wouldPay 1 = .ok (.istore_n 2, 1) := by decide +kernel
theorem dX6_wouldPay_2 : decode cX6_wouldPay 2 = .ok (.iconst 0, 1) := by decide +kernel
theorem dX6_wouldPay_3 : decode cX6_wouldPay 3 = .ok (.istore_n 3, 1) := by decide +kernel
theorem dX6_wouldPay_4 : decode cX6_wouldPay 4 = .ok (.iload_n 3, 1) := by decide +kernel
theorem dX6_wouldPay_5 : decode cX6_wouldPay 5 = .ok (.aload_n 0, 1) := by decide +kernel
theorem dX6_wouldPay_6 : decode cX6_wouldPay 6 = .ok (.getfield 7, 3) := by decide +kernel
theorem dX6_wouldPay_9 : decode cX6_wouldPay 9 = .ok (.iconst 5, 1) := by decide +kernel
theorem dX6_wouldPay_10 : decode cX6_wouldPay 10 = .ok (.iaload, 1) := by decide +kernel
theorem dX6_wouldPay_11 : decode cX6_wouldPay 11 = .ok (.if_icmp .ge 48, 3) := by decide +kernel
theorem dX6_wouldPay_14 : decode cX6_wouldPay 14 = .ok (.iload_n 2, 1) := by decide +kernel
theorem dX6_wouldPay_15 : decode cX6_wouldPay 15 = .ok (.iload_n 1, 1) := by decide +kernel
theorem dX6_wouldPay_16 : decode cX6_wouldPay 16 = .ok (.iconst 3, 1) := by decide +kernel
theorem dX6_wouldPay_17 : decode cX6_wouldPay 17 = .ok (.if_icmp .eq 17, 3) := by decide +kernel
theorem dX6_wouldPay_20 : decode cX6_wouldPay 20 = .ok (.aload_n 0, 1) := by decide +kernel
theorem dX6_wouldPay_21 : decode cX6_wouldPay 21 = .ok (.getfield 7, 3) := by decide +kernel
theorem dX6_wouldPay_24 : decode cX6_wouldPay 24 = .ok (.iload_n 3, 1) := by decide +kernel
theorem dX6_wouldPay_25 : decode cX6_wouldPay 25 = .ok (.iconst 0, 1) := by decide +kernel
theorem dX6_wouldPay_26 : decode cX6_wouldPay 26 = .ok (.invokestatic 55, 3) := by decide +kernel
theorem dX6_wouldPay_29 : decode cX6_wouldPay 29 = .ok (.iaload, 1) := by decide +kernel
theorem dX6_wouldPay_30 : decode cX6_wouldPay 30 = .ok (.iload_n 1, 1) := by decide +kernel
theorem dX6_wouldPay_31 : decode cX6_wouldPay 31 = .ok (.if_icmp .ne 19, 3) := by decide +kernel
theorem dX6_wouldPay_34 : decode cX6_wouldPay 34 = .ok (.aload_n 0, 1) := by decide +kernel
theorem dX6_wouldPay_35 : decode cX6_wouldPay 35 = .ok (.iload_n 3, 1) := by decide +kernel
theorem dX6_wouldPay_36 : decode cX6_wouldPay 36 = .ok (.invokevirtual 63, 3) := by decide +kernel
theorem dX6_wouldPay_39 : decode cX6_wouldPay 39 = .ok (.ifCond .eq 11, 3) := by decide +kernel
theorem dX6_wouldPay_42 : decode cX6_wouldPay 42 = .ok (.aload_n 0, 1) := by decide +kernel
theorem dX6_wouldPay_43 : decode cX6_wouldPay 43 = .ok (.iload_n 3, 1) := by decide +kernel
theorem dX6_wouldPay_44 : decode cX6_wouldPay 44 = .ok (.invokevirtual 67, 3) := by decide +kernel
theorem dX6_wouldPay_47 : decode cX6_wouldPay 47 = .ok (.goto 4, 3) := by decide +kernel
theorem dX6_wouldPay_50 : decode cX6_wouldPay 50 = .ok (.iconst 0, 1) := by decide +kernel
theorem dX6_wouldPay_51 : decode cX6_wouldPay 51 = .ok (.iadd, 1) := by decide +kernel
theorem dX6_wouldPay_52 : decode cX6_wouldPay 52 = .ok (.istore_n 2, 1) := by decide +kernel
theorem dX6_wouldPay_53 : decode cX6_wouldPay 53 = .ok (.iinc 3 1, 3) := by decide +kernel
theorem dX6_wouldPay_56 : decode cX6_wouldPay 56 = .ok (.goto (-52), 3) := by decide +kernel
theorem dX6_wouldPay_59 : decode cX6_wouldPay 59 = .ok (.iload_n 2, 1) := by decide +kernel
theorem dX6_wouldPay_60 : decode cX6_wouldPay 60 = .ok (.ireturn, 1) := by decide +kernel
theorem dX6_gain_0 : decode cX6_gain 0 = .ok (.aload_n 0, 1) := by decide +kernel
theorem dX6_gain_1 : decode cX6_gain 1 = .ok (.getfield 7, 3) := by decide +kernel
theorem dX6_gain_4 : decode cX6_gain 4 = .ok (.bipush 9, 2) := by decide +kernel
theorem dX6_gain_6 : decode cX6_gain 6 = .ok (.iload_n 1, 1) := by decide +kernel
theorem dX6_gain_7 : decode cX6_gain 7 = .ok (.iadd, 1) := by decide +kernel
theorem dX6_gain_8 : decode cX6_gain 8 = .ok (.iaload, 1) := by decide +kernel
theorem dX6_gain_9 : decode cX6_gain 9 = .ok (.iload_n 2, 1) := by decide +kernel
theorem dX6_gain_10 : decode cX6_gain 10 = .ok (.iadd, 1) := by decide +kernel
theorem dX6_gain_11 : decode cX6_gain 11 = .ok (.istore_n 3, 1) := by decide +kernel
theorem dX6_gain_12 : decode cX6_gain 12 = .ok (.aload_n 0, 1) := by decide +kernel
theorem dX6_gain_13 : decode cX6_gain 13 = .ok (.getfield 7, 3) := by decide +kernel
theorem dX6_gain_16 : decode cX6_gain 16 = .ok (.bipush 9, 2) := by decide +kernel
theorem dX6_gain_18 : decode cX6_gain 18 = .ok (.iload_n 1, 1) := by decide +kernel
theorem dX6_gain_19 : decode cX6_gain 19 = .ok (.iadd, 1) := by decide +kernel
theorem dX6_gain_20 : decode cX6_gain 20 = .ok (.iload_n 3, 1) := by decide +kernel
theorem dX6_gain_21 : decode cX6_gain 21 = .ok (.ldc 70, 2) := by decide +kernel
theorem dX6_gain_23 : decode cX6_gain 23 = .ok (.if_icmp .le 8, 3) := by decide +kernel
theorem dX6_gain_26 : decode cX6_gain 26 = .ok (.ldc 70, 2) := by decide +kernel
theorem dX6_gain_28 : decode cX6_gain 28 = .ok (.goto 4, 3) := by decide +kernel
theorem dX6_gain_31 : decode cX6_gain 31 = .ok (.iload_n 3, 1) := by decide +kernel
theorem dX6_gain_32 : decode cX6_gain 32 = .ok (.iastore, 1) := by decide +kernel
theorem dX6_gain_33 : decode cX6_gain 33 = .ok (.return_, 1) := by decide +kernel
set_option maxRecDepth 20000 in
theorem ggX6_settle_X6_isRight : GoodIn wsX6_settle wsX6_isRight := goodIn_r _ [6, 1, 7, 8, 5, 9, 10, 11, 12, 13, 14, 15, 16, 17, 18, 19, 20, 21, 22, 23, 24, 25, 26, 27, 28, 29, 43, 44, 45, 46, 47, 48, 49] (by decide +kernel) (by decide +kernel)
set_option maxRecDepth 20000 in
theorem gX6_settle_X6_isRight : GoodIn wsX6_settle (wsV RX6 63 RX6 yX6_isRight wsX6_isRight) := goodIn_app (goodIn_of _ (by decide +kernel)) ggX6_settle_X6_isRight
set_option maxRecDepth 20000 in
theorem ggX6_settle_X6_of : GoodIn wsX6_settle wsX6_of := goodIn_r _ [9] (by decide +kernel) (by decide +kernel)
set_option maxRecDepth 20000 in
theorem gX6_settle_X6_of : GoodIn wsX6_settle (va_wsS RX6 55 yX6_of wsX6_of) := goodIn_app (goodIn_of _ (by decide +kernel)) ggX6_settle_X6_of
set_option maxRecDepth 20000 in
theorem ggX6_settle_X6_pays : GoodIn wsX6_settle wsX6_pays := goodIn_r _ [33, 1, 7, 8, 5, 9, 34, 35, 36, 37, 43, 44, 45, 46, 47, 48, 49] (by decide +kernel) (by decide +kernel)
set_option maxRecDepth 20000 in
theorem gX6_settle_X6_pays : GoodIn wsX6_settle (wsV RX6 67 RX6 yX6_pays wsX6_pays) := goodIn_app (goodIn_of _ (by decide +kernel)) ggX6_settle_X6_pays
set_option maxRecDepth 20000 in
theorem ggX6_settle_X6_gain : GoodIn wsX6_settle wsX6_gain := goodIn_r _ [41, 1, 42, 43, 44, 45, 46, 47, 48, 49] (by decide +kernel) (by decide +kernel)
