theorem dX10_layChains_130 : decode cX10_layChains 130 = .ok (.goto (-109), 3) := by decide +kernel
theorem dX10_layChains_133 : decode cX10_layChains 133 = .ok (.return_, 1) := by decide +kernel
set_option maxRecDepth 20000 in
theorem ggX10_isRising_X10_labelAt : GoodIn wsX10_isRising wsX10_labelAt := goodIn_r _ [6, 7, 8, 9, 5, 10, 11, 12, 13, 14, 15, 16, 17, 18, 19, 20, 21, 22, 23, 24, 25, 26, 27, 28, 29, 30, 31, 32, 33, 34, 35, 36, 37, 38, 39, 40, 41, 42, 43, 44, 45, 46, 47, 48, 49, 50] (by decide +kernel) (by decide +kernel)
set_option maxRecDepth 20000 in
theorem gX10_isRising_X10_labelAt : GoodIn wsX10_isRising (wsV RX10 276 RX10 yX10_labelAt wsX10_labelAt) := goodIn_app (goodIn_of _ (by decide +kernel)) ggX10_isRising_X10_labelAt
theorem dX10_isRising_0 : decode cX10_isRising 0 = .ok (.iconst 1, 1) := by decide +kernel
theorem dX10_isRising_1 : decode cX10_isRising 1 = .ok (.istore_n 2, 1) := by decide +kernel
theorem dX10_isRising_2 : decode cX10_isRising 2 = .ok (.iload_n 2, 1) := by decide +kernel
theorem dX10_isRising_3 : decode cX10_isRising 3 = .ok (.iconst 1, 1) := by decide +kernel
theorem dX10_isRising_4 : decode cX10_isRising 4 = .ok (.iadd, 1) := by decide +kernel
theorem dX10_isRising_5 : decode cX10_isRising 5 = .ok (.aload_n 0, 1) := by decide +kernel
theorem dX10_isRising_6 : decode cX10_isRising 6 = .ok (.getfield 45, 3) := by decide +kernel
theorem dX10_isRising_9 : decode cX10_isRising 9 = .ok (.iload_n 1, 1) := by decide +kernel
theorem dX10_isRising_10 : decode cX10_isRising 10 = .ok (.iaload, 1) := by decide +kernel
theorem dX10_isRising_11 : decode cX10_isRising 11 = .ok (.if_icmp .ge 28, 3) := by decide +kernel
theorem dX10_isRising_14 : decode cX10_isRising 14 = .ok (.aload_n 0, 1) := by decide +kernel
theorem dX10_isRising_15 : decode cX10_isRising 15 = .ok (.iload_n 1, 1) := by decide +kernel
theorem dX10_isRising_16 : decode cX10_isRising 16 = .ok (.iload_n 2, 1) := by decide +kernel
theorem dX10_isRising_17 : decode cX10_isRising 17 = .ok (.invokevirtual 276, 3) := by decide +kernel
theorem dX10_isRising_20 : decode cX10_isRising 20 = .ok (.aload_n 0, 1) := by decide +kernel
theorem dX10_isRising_21 : decode cX10_isRising 21 = .ok (.iload_n 1, 1) := by decide +kernel
theorem dX10_isRising_22 : decode cX10_isRising 22 = .ok (.iload_n 2, 1) := by decide +kernel
theorem dX10_isRising_23 : decode cX10_isRising 23 = .ok (.iconst 1, 1) := by decide +kernel
theorem dX10_isRising_24 : decode cX10_isRising 24 = .ok (.isub, 1) := by decide +kernel
theorem dX10_isRising_25 : decode cX10_isRising 25 = .ok (.invokevirtual 276, 3) := by decide +kernel
theorem dX10_isRising_28 : decode cX10_isRising 28 = .ok (.if_icmp .ge 5, 3) := by decide +kernel
theorem dX10_isRising_31 : decode cX10_isRising 31 = .ok (.iconst 0, 1) := by decide +kernel
theorem dX10_isRising_32 : decode cX10_isRising 32 = .ok (.ireturn, 1) := by decide +kernel
theorem dX10_isRising_33 : decode cX10_isRising 33 = .ok (.iinc 2 1, 3) := by decide +kernel
theorem dX10_isRising_36 : decode cX10_isRising 36 = .ok (.goto (-34), 3) := by decide +kernel
theorem dX10_isRising_39 : decode cX10_isRising 39 = .ok (.iconst 1, 1) := by decide +kernel
theorem dX10_isRising_40 : decode cX10_isRising 40 = .ok (.ireturn, 1) := by decide +kernel
set_option maxRecDepth 20000 in
theorem ggX10_fallsOf_X10_labelAt : GoodIn wsX10_fallsOf wsX10_labelAt := goodIn_r _ [6, 7, 8, 9, 5, 10, 11, 12, 13, 14, 15, 16, 17, 18, 19, 20, 21, 22, 23, 24, 25, 26, 27, 28, 29, 30, 31, 32, 33, 34, 35, 36, 37, 38, 39, 40, 41, 42, 43, 44, 45, 46, 47, 48, 49, 50] (by decide +kernel) (by decide +kernel)
set_option maxRecDepth 20000 in
theorem gX10_fallsOf_X10_labelAt : GoodIn wsX10_fallsOf (wsV RX10 276 RX10 yX10_labelAt wsX10_labelAt) := goodIn_app (goodIn_of _ (by decide +kernel)) ggX10_fallsOf_X10_labelAt
theorem dX10_fallsOf_0 : decode cX10_fallsOf 0 = .ok (.iconst 0, 1) := by decide +kernel
theorem dX10_fallsOf_1 : decode cX10_fallsOf 1 = .ok (.istore_n 2, 1) := by decide +kernel
theorem dX10_fallsOf_2 : decode cX10_fallsOf 2 = .ok (.iconst 1, 1) := by decide +kernel
theorem dX10_fallsOf_3 : decode cX10_fallsOf 3 = .ok (.istore_n 3, 1) := by decide +kernel
theorem dX10_fallsOf_4 : decode cX10_fallsOf 4 = .ok (.iload_n 3, 1) := by decide +kernel
theorem dX10_fallsOf_5 : decode cX10_fallsOf 5 = .ok (.iconst 1, 1) := by decide +kernel
theorem dX10_fallsOf_6 : decode cX10_fallsOf 6 = .ok (.iadd, 1) := by decide +kernel
theorem dX10_fallsOf_7 : decode cX10_fallsOf 7 = .ok (.aload_n 0, 1) := by decide +kernel
theorem dX10_fallsOf_8 : decode cX10_fallsOf 8 = .ok (.getfield 45, 3) := by decide +kernel
theorem dX10_fallsOf_11 : decode cX10_fallsOf 11 = .ok (.iload_n 1, 1) := by decide +kernel
theorem dX10_fallsOf_12 : decode cX10_fallsOf 12 = .ok (.iaload, 1) := by decide +kernel
theorem dX10_fallsOf_13 : decode cX10_fallsOf 13 = .ok (.if_icmp .ge 36, 3) := by decide +kernel
theorem dX10_fallsOf_16 : decode cX10_fallsOf 16 = .ok (.iload_n 2, 1) := by decide +kernel
theorem dX10_fallsOf_17 : decode cX10_fallsOf 17 = .ok (.aload_n 0, 1) := by decide +kernel
theorem dX10_fallsOf_18 : decode cX10_fallsOf 18 = .ok (.iload_n 1, 1) := by decide +kernel
theorem dX10_fallsOf_19 : decode cX10_fallsOf 19 = .ok (.iload_n 3, 1) := by decide +kernel
theorem dX10_fallsOf_20 : decode cX10_fallsOf 20 = .ok (.invokevirtual 276, 3) := by decide +kernel
theorem dX10_fallsOf_23 : decode cX10_fallsOf 23 = .ok (.aload_n 0, 1) := by decide +kernel
theorem dX10_fallsOf_24 : decode cX10_fallsOf 24 = .ok (.iload_n 1, 1) := by decide +kernel
theorem dX10_fallsOf_25 : decode cX10_fallsOf 25 = .ok (.iload_n 3, 1) := by decide +kernel
theorem dX10_fallsOf_26 : decode cX10_fallsOf 26 = .ok (.iconst 1, 1) := by decide +kernel
theorem dX10_fallsOf_27 : decode cX10_fallsOf 27 = .ok (.isub, 1) := by decide +kernel
theorem dX10_fallsOf_28 : decode cX10_fallsOf 28 = .ok (.invokevirtual 276, 3) := by decide +kernel
theorem dX10_fallsOf_31 : decode cX10_fallsOf 31 = .ok (.if_icmp .ge 9, 3) := by decide +kernel
theorem dX10_fallsOf_34 : decode cX10_fallsOf 34 = .ok (.iconst 1, 1) := by decide +kernel
theorem dX10_fallsOf_35 : decode cX10_fallsOf 35 = .ok (.iload_n 3, 1) := by decide +kernel
theorem dX10_fallsOf_36 : decode cX10_fallsOf 36 = .ok (.ishl, 1) := by decide +kernel
theorem dX10_fallsOf_37 : decode cX10_fallsOf 37 = .ok (.goto 4, 3) := by decide +kernel
theorem dX10_fallsOf_40 : decode cX10_fallsOf 40 = .ok (.iconst 0, 1) := by decide +kernel
theorem dX10_fallsOf_41 : decode cX10_fallsOf 41 = .ok (.ior, 1) := by decide +kernel
theorem dX10_fallsOf_42 : decode cX10_fallsOf 42 = .ok (.istore_n 2, 1) := by decide +kernel
theorem dX10_fallsOf_43 : decode cX10_fallsOf 43 = .ok (.iinc 3 1, 3) := by decide +kernel
theorem dX10_fallsOf_46 : decode cX10_fallsOf 46 = .ok (.goto (-42), 3) := by decide +kernel
theorem dX10_fallsOf_49 : decode cX10_fallsOf 49 = .ok (.iload_n 2, 1) := by decide +kernel
theorem dX10_fallsOf_50 : decode cX10_fallsOf 50 = .ok (.ireturn, 1) := by decide +kernel
set_option maxRecDepth 20000 in
theorem ggX10_chainsBy_X10_fallsOf : GoodIn wsX10_chainsBy wsX10_fallsOf := goodIn_r _ [7, 2, 8, 9, 10, 6, 11, 12, 13, 14, 15, 16, 17, 18, 19, 20, 21, 22, 23, 24, 25, 30, 31, 32, 33, 34, 35, 36, 37, 38, 39, 40, 41, 42, 43, 44, 45, 46, 47, 48, 49, 50, 51, 52, 53, 54, 55, 56, 57, 58, 59] (by decide +kernel) (by decide +kernel)
set_option maxRecDepth 20000 in
theorem gX10_chainsBy_X10_fallsOf : GoodIn wsX10_chainsBy (wsV RX10 291 RX10 yX10_fallsOf wsX10_fallsOf) := goodIn_app (goodIn_of _ (by decide +kernel)) ggX10_chainsBy_X10_fallsOf
set_option maxRecDepth 20000 in
theorem ggX10_chainsBy_X10_isRising : GoodIn wsX10_chainsBy wsX10_isRising := goodIn_r _ [29, 2, 8, 9, 10, 6, 11, 12, 13, 14, 15, 16, 17, 18, 19, 20, 21, 22, 23, 24, 25, 30, 31, 32, 33, 34, 35, 36, 37, 38, 39, 40, 41, 42, 43, 44, 45, 46, 47, 48, 49, 50, 51, 52, 53, 54, 55, 56, 57, 58, 59] (by decide +kernel) (by decide +kernel)
set_option maxRecDepth 20000 in
theorem gX10_chainsBy_X10_isRising : GoodIn wsX10_chainsBy (wsV RX10 294 RX10 yX10_isRising wsX10_isRising) := goodIn_app (goodIn_of _ (by decide +kernel)) ggX10_chainsBy_X10_isRising
theorem dX10_chainsBy_0 : decode cX10_chainsBy 0 = .ok (.iconst 0, 1) := by decide +kernel
theorem dX10_chainsBy_1 : decode cX10_chainsBy 1 = .ok (.istore_n 2, 1) := by decide +kernel
theorem dX10_chainsBy_2 : decode cX10_chainsBy 2 = .ok (.iconst 0, 1) := by decide +kernel
theorem dX10_chainsBy_3 : decode cX10_chainsBy 3 = .ok (.istore_n 3, 1) := by decide +kernel
theorem dX10_chainsBy_4 : decode cX10_chainsBy 4 = .ok (.bipush 9, 2) := by decide +kernel
theorem dX10_chainsBy_6 : decode cX10_chainsBy 6 = .ok (.istore 4, 2) := by decide +kernel
theorem dX10_chainsBy_8 : decode cX10_chainsBy 8 = .ok (.iconst 0, 1) := by decide +kernel
theorem dX10_chainsBy_9 : decode cX10_chainsBy 9 = .ok (.istore 5, 2) := by decide +kernel
theorem dX10_chainsBy_11 : decode cX10_chainsBy 11 = .ok (.iload 5, 2) := by decide +kernel
theorem dX10_chainsBy_13 : decode cX10_chainsBy 13 = .ok (.aload_n 0, 1) := by decide +kernel
theorem dX10_chainsBy_14 : decode cX10_chainsBy 14 = .ok (.getfield 279, 3) := by decide +kernel
theorem dX10_chainsBy_17 : decode cX10_chainsBy 17 = .ok (.if_icmp .ge 148, 3) := by decide +kernel
theorem dX10_chainsBy_20 : decode cX10_chainsBy 20 = .ok (.aload_n 0, 1) := by decide +kernel
theorem dX10_chainsBy_21 : decode cX10_chainsBy 21 = .ok (.iload 5, 2) := by decide +kernel
theorem dX10_chainsBy_23 : decode cX10_chainsBy 23 = .ok (.invokevirtual 291, 3) := by decide +kernel
theorem dX10_chainsBy_26 : decode cX10_chainsBy 26 = .ok (.iconst 1, 1) := by decide +kernel
theorem dX10_chainsBy_27 : decode cX10_chainsBy 27 = .ok (.aload_n 0, 1) := by decide +kernel
theorem dX10_chainsBy_28 : decode cX10_chainsBy 28 = .ok (.getfield 45, 3) := by decide +kernel
theorem dX10_chainsBy_31 : decode cX10_chainsBy 31 = .ok (.iload 5, 2) := by decide +kernel
theorem dX10_chainsBy_33 : decode cX10_chainsBy 33 = .ok (.iaload, 1) := by decide +kernel
theorem dX10_chainsBy_34 : decode cX10_chainsBy 34 = .ok (.iconst 1, 1) := by decide +kernel
theorem dX10_chainsBy_35 : decode cX10_chainsBy 35 = .ok (.isub, 1) := by decide +kernel
theorem dX10_chainsBy_36 : decode cX10_chainsBy 36 = .ok (.ishl, 1) := by decide +kernel
theorem dX10_chainsBy_37 : decode cX10_chainsBy 37 = .ok (.iconst 1, 1) := by decide +kernel
theorem dX10_chainsBy_38 : decode cX10_chainsBy 38 = .ok (.isub, 1) := by decide +kernel
theorem dX10_chainsBy_39 : decode cX10_chainsBy 39 = .ok (.aload_n 0, 1) := by decide +kernel
theorem dX10_chainsBy_40 : decode cX10_chainsBy 40 = .ok (.getfield 45, 3) := by decide +kernel
theorem dX10_chainsBy_43 : decode cX10_chainsBy 43 = .ok (.iload 5, 2) := by decide +kernel
theorem dX10_chainsBy_45 : decode cX10_chainsBy 45 = .ok (.iaload, 1) := by decide +kernel
theorem dX10_chainsBy_46 : decode cX10_chainsBy 46 = .ok (.iconst 1, 1) := by decide +kernel
theorem dX10_chainsBy_47 : decode cX10_chainsBy 47 = .ok (.if_icmp .le 7, 3) := by decide +kernel
theorem dX10_chainsBy_50 : decode cX10_chainsBy 50 = .ok (.iconst 1, 1) := by decide +kernel
theorem dX10_chainsBy_51 : decode cX10_chainsBy 51 = .ok (.goto 4, 3) := by decide +kernel
theorem dX10_chainsBy_54 : decode cX10_chainsBy 54 = .ok (.iconst 0, 1) := by decide +kernel
theorem dX10_chainsBy_55 : decode cX10_chainsBy 55 = .ok (.isub, 1) := by decide +kernel
theorem dX10_chainsBy_56 : decode cX10_chainsBy 56 = .ok (.if_icmp .ne 7, 3) := by decide +kernel
theorem dX10_chainsBy_59 : decode cX10_chainsBy 59 = .ok (.iconst 1, 1) := by decide +kernel
theorem dX10_chainsBy_60 : decode cX10_chainsBy 60 = .ok (.goto 4, 3) := by decide +kernel
theorem dX10_chainsBy_63 : decode cX10_chainsBy 63 = .ok (.iconst 0, 1) := by decide +kernel
theorem dX10_chainsBy_64 : decode cX10_chainsBy 64 = .ok (.istore 6, 2) := by decide +kernel
theorem dX10_chainsBy_66 : decode cX10_chainsBy 66 = .ok (.iload_n 2, 1) := by decide +kernel
theorem dX10_chainsBy_67 : decode cX10_chainsBy 67 = .ok (.iload_n 1, 1) := by decide +kernel
theorem dX10_chainsBy_68 : decode cX10_chainsBy 68 = .ok (.ifCond .eq 27, 3) := by decide +kernel
theorem dX10_chainsBy_71 : decode cX10_chainsBy 71 = .ok (.iload_n 1, 1) := by decide +kernel
theorem dX10_chainsBy_72 : decode cX10_chainsBy 72 = .ok (.iconst 1, 1) := by decide +kernel
theorem dX10_chainsBy_73 : decode cX10_chainsBy 73 = .ok (.if_icmp .ne 12, 3) := by decide +kernel
theorem dX10_chainsBy_76 : decode cX10_chainsBy 76 = .ok (.aload_n 0, 1) := by decide +kernel
theorem dX10_chainsBy_77 : decode cX10_chainsBy 77 = .ok (.iload 5, 2) := by decide +kernel
theorem dX10_chainsBy_79 : decode cX10_chainsBy 79 = .ok (.invokevirtual 294, 3) := by decide +kernel
theorem dX10_chainsBy_82 : decode cX10_chainsBy 82 = .ok (.ifCond .ne 13, 3) := by decide +kernel
theorem dX10_chainsBy_85 : decode cX10_chainsBy 85 = .ok (.iload_n 1, 1) := by decide +kernel
theorem dX10_chainsBy_86 : decode cX10_chainsBy 86 = .ok (.iconst 2, 1) := by decide +kernel
theorem dX10_chainsBy_87 : decode cX10_chainsBy 87 = .ok (.if_icmp .ne 12, 3) := by decide +kernel
theorem dX10_chainsBy_90 : decode cX10_chainsBy 90 = .ok (.iload 6, 2) := by decide +kernel
theorem dX10_chainsBy_92 : decode cX10_chainsBy 92 = .ok (.ifCond .eq 7, 3) := by decide +kernel
theorem dX10_chainsBy_95 : decode cX10_chainsBy 95 = .ok (.iconst 1, 1) := by decide +kernel
theorem dX10_chainsBy_96 : decode cX10_chainsBy 96 = .ok (.goto 4, 3) := by decide +kernel
theorem dX10_chainsBy_99 : decode cX10_chainsBy 99 = .ok (.iconst 0, 1) := by decide +kernel
theorem dX10_chainsBy_100 : decode cX10_chainsBy 100 = .ok (.iadd, 1) := by decide +kernel
theorem dX10_chainsBy_101 : decode cX10_chainsBy 101 = .ok (.istore_n 2, 1) := by decide +kernel
theorem dX10_chainsBy_102 : decode cX10_chainsBy 102 = .ok (.aload_n 0, 1) := by decide +kernel
theorem dX10_chainsBy_103 : decode cX10_chainsBy 103 = .ok (.getfield 45, 3) := by decide +kernel
theorem dX10_chainsBy_106 : decode cX10_chainsBy 106 = .ok (.iload 5, 2) := by decide +kernel
theorem dX10_chainsBy_108 : decode cX10_chainsBy 108 = .ok (.iaload, 1) := by decide +kernel
theorem dX10_chainsBy_109 : decode cX10_chainsBy 109 = .ok (.iconst 1, 1) := by decide +kernel
theorem dX10_chainsBy_110 : decode cX10_chainsBy 110 = .ok (.isub, 1) := by decide +kernel
theorem dX10_chainsBy_111 : decode cX10_chainsBy 111 = .ok (.iload_n 3, 1) := by decide +kernel
theorem dX10_chainsBy_112 : decode cX10_chainsBy 112 = .ok (.if_icmp .le 15, 3) := by decide +kernel
theorem dX10_chainsBy_115 : decode cX10_chainsBy 115 = .ok (.aload_n 0, 1) := by decide +kernel
theorem dX10_chainsBy_116 : decode cX10_chainsBy 116 = .ok (.getfield 45, 3) := by decide +kernel
theorem dX10_chainsBy_119 : decode cX10_chainsBy 119 = .ok (.iload 5, 2) := by decide +kernel
theorem dX10_chainsBy_121 : decode cX10_chainsBy 121 = .ok (.iaload, 1) := by decide +kernel
theorem dX10_chainsBy_122 : decode cX10_chainsBy 122 = .ok (.iconst 1, 1) := by decide +kernel
theorem dX10_chainsBy_123 : decode cX10_chainsBy 123 = .ok (.isub, 1) := by decide +kernel
theorem dX10_chainsBy_124 : decode cX10_chainsBy 124 = .ok (.goto 4, 3) := by decide +kernel
theorem dX10_chainsBy_127 : decode cX10_chainsBy 127 = .ok (.iload_n 3, 1) := by decide +kernel
theorem dX10_chainsBy_128 : decode cX10_chainsBy 128 = .ok (.istore_n 3, 1) := by decide +kernel
theorem dX10_chainsBy_129 : decode cX10_chainsBy 129 = .ok (.aload_n 0, 1) := by decide +kernel
theorem dX10_chainsBy_130 : decode cX10_chainsBy 130 = .ok (.getfield 45, 3) := by decide +kernel
theorem dX10_chainsBy_133 : decode cX10_chainsBy 133 = .ok (.iload 5, 2) := by decide +kernel
theorem dX10_chainsBy_135 : decode cX10_chainsBy 135 = .ok (.iaload, 1) := by decide +kernel
theorem dX10_chainsBy_136 : decode cX10_chainsBy 136 = .ok (.iconst 1, 1) := by decide +kernel
theorem dX10_chainsBy_137 : decode cX10_chainsBy 137 = .ok (.isub, 1) := by decide +kernel
theorem dX10_chainsBy_138 : decode cX10_chainsBy 138 = .ok (.iload 4, 2) := by decide +kernel
theorem dX10_chainsBy_140 : decode cX10_chainsBy 140 = .ok (.if_icmp .ge 15, 3) := by decide +kernel
theorem dX10_chainsBy_143 : decode cX10_chainsBy 143 = .ok (.aload_n 0, 1) := by decide +kernel
theorem dX10_chainsBy_144 : decode cX10_chainsBy 144 = .ok (.getfield 45, 3) := by decide +kernel
theorem dX10_chainsBy_147 : decode cX10_chainsBy 147 = .ok (.iload 5, 2) := by decide +kernel
theorem dX10_chainsBy_149 : decode cX10_chainsBy 149 = .ok (.iaload, 1) := by decide +kernel
theorem dX10_chainsBy_150 : decode cX10_chainsBy 150 = .ok (.iconst 1, 1) := by decide +kernel
theorem dX10_chainsBy_151 : decode cX10_chainsBy 151 = .ok (.isub, 1) := by decide +kernel
theorem dX10_chainsBy_152 : decode cX10_chainsBy 152 = .ok (.goto 5, 3) := by decide +kernel
theorem dX10_chainsBy_155 : decode cX10_chainsBy 155 = .ok (.iload 4, 2) := by decide +kernel
theorem dX10_chainsBy_157 : decode cX10_chainsBy 157 = .ok (.istore 4, 2) := by decide +kernel
theorem dX10_chainsBy_159 : decode cX10_chainsBy 159 = .ok (.iinc 5 1, 3) := by decide +kernel
theorem dX10_chainsBy_162 : decode cX10_chainsBy 162 = .ok (.goto (-151), 3) := by decide +kernel
theorem dX10_chainsBy_165 : decode cX10_chainsBy 165 = .ok (.iload_n 1, 1) := by decide +kernel
theorem dX10_chainsBy_166 : decode cX10_chainsBy 166 = .ok (.iconst 3, 1) := by decide +kernel
theorem dX10_chainsBy_167 : decode cX10_chainsBy 167 = .ok (.if_icmp .ge 7, 3) := by decide +kernel
theorem dX10_chainsBy_170 : decode cX10_chainsBy 170 = .ok (.iload_n 2, 1) := by decide +kernel
theorem dX10_chainsBy_171 : decode cX10_chainsBy 171 = .ok (.goto 14, 3) := by decide +kernel
theorem dX10_chainsBy_174 : decode cX10_chainsBy 174 = .ok (.iload_n 1, 1) := by decide +kernel
theorem dX10_chainsBy_175 : decode cX10_chainsBy 175 = .ok (.iconst 3, 1) := by decide +kernel
theorem dX10_chainsBy_176 : decode cX10_chainsBy 176 = .ok (.if_icmp .ne 7, 3) := by decide +kernel
theorem dX10_chainsBy_179 : decode cX10_chainsBy 179 = .ok (.iload_n 3, 1) := by decide +kernel
theorem dX10_chainsBy_180 : decode cX10_chainsBy 180 = .ok (.goto 5, 3) := by decide +kernel
theorem dX10_chainsBy_183 : decode cX10_chainsBy 183 = .ok (.iload 4, 2) := by decide +kernel
theorem dX10_chainsBy_185 : decode cX10_chainsBy 185 = .ok (.ireturn, 1) := by decide +kernel
set_option maxRecDepth 20000 in
theorem ggX10_refusal_X10_areThere : GoodIn wsX10_refusal wsX10_areThere := goodIn_r _ [5, 6, 7, 8, 4, 9, 10, 11, 12, 13, 14, 15, 16, 17, 26, 27, 28, 29, 30, 31, 32, 33, 34, 35, 36, 37, 38, 39, 40, 41, 42, 43, 44, 45, 46, 47, 48, 49, 50, 51, 52, 53, 54, 55] (by decide +kernel) (by decide +kernel)
set_option maxRecDepth 20000 in
theorem gX10_refusal_X10_areThere : GoodIn wsX10_refusal (wsV RX10 197 RX10 yX10_areThere wsX10_areThere) := goodIn_app (goodIn_of _ (by decide +kernel)) ggX10_refusal_X10_areThere
set_option maxRecDepth 20000 in
theorem ggX10_refusal_X10_isInterval : GoodIn wsX10_refusal wsX10_isInterval := goodIn_r _ [21, 22, 23, 24, 4, 25, 11, 15, 16, 17, 26, 27, 28, 29, 30, 31, 32, 33, 34, 35, 36, 37, 38, 39, 40, 41, 42, 43, 44, 45, 46, 47, 48, 49, 50, 51, 52, 53, 54, 55] (by decide +kernel) (by decide +kernel)
set_option maxRecDepth 20000 in
theorem gX10_refusal_X10_isInterval : GoodIn wsX10_refusal (wsV RX10 297 RX10 yX10_isInterval wsX10_isInterval) := goodIn_app (goodIn_of _ (by decide +kernel)) ggX10_refusal_X10_isInterval
theorem dX10_refusal_0 : decode cX10_refusal 0 = .ok (.aload_n 0, 1) := by decide +kernel
theorem dX10_refusal_1 : decode cX10_refusal 1 = .ok (.iload_n 1, 1) := by decide +kernel
theorem dX10_refusal_2 : decode cX10_refusal 2 = .ok (.iload_n 2, 1) := by decide +kernel
theorem dX10_refusal_3 : decode cX10_refusal 3 = .ok (.invokevirtual 197, 3) := by decide +kernel
theorem dX10_refusal_6 : decode cX10_refusal 6 = .ok (.ifCond .ne 7, 3) := by decide +kernel
theorem dX10_refusal_9 : decode cX10_refusal 9 = .ok (.iconst (-1), 1) := by decide +kernel
theorem dX10_refusal_10 : decode cX10_refusal 10 = .ok (.goto 18, 3) := by decide +kernel
theorem dX10_refusal_13 : decode cX10_refusal 13 = .ok (.aload_n 0, 1) := by decide +kernel
theorem dX10_refusal_14 : decode cX10_refusal 14 = .ok (.iload_n 1, 1) := by decide +kernel
theorem dX10_refusal_15 : decode cX10_refusal 15 = .ok (.iload_n 2, 1) := by decide +kernel
theorem dX10_refusal_16 : decode cX10_refusal 16 = .ok (.invokevirtual 297, 3) := by decide +kernel
theorem dX10_refusal_19 : decode cX10_refusal 19 = .ok (.ifCond .eq 7, 3) := by decide +kernel
theorem dX10_refusal_22 : decode cX10_refusal 22 = .ok (.iconst 0, 1) := by decide +kernel
theorem dX10_refusal_23 : decode cX10_refusal 23 = .ok (.goto 5, 3) := by decide +kernel
theorem dX10_refusal_26 : decode cX10_refusal 26 = .ok (.bipush (-2), 2) := by decide +kernel
theorem dX10_refusal_28 : decode cX10_refusal 28 = .ok (.ireturn, 1) := by decide +kernel
set_option maxRecDepth 20000 in
theorem ggX10_interval_X10_refusal : GoodIn wsX10_interval wsX10_refusal := goodIn_r _ [6, 7, 8, 9, 5, 10, 11, 12, 13, 14, 15, 16, 17, 18, 19, 20, 21, 22, 23, 24, 25, 26, 27, 28, 29, 30, 51, 52, 53, 54, 55, 56, 57, 58, 59, 60, 61, 62, 63, 64, 65, 66, 67, 68, 69, 70, 71, 72, 73, 74, 75, 76, 77, 78, 79, 80] (by decide +kernel) (by decide +kernel)
set_option maxRecDepth 20000 in
theorem gX10_interval_X10_refusal : GoodIn wsX10_interval (wsV RX10 300 RX10 yX10_refusal wsX10_refusal) := goodIn_app (goodIn_of _ (by decide +kernel)) ggX10_interval_X10_refusal
set_option maxRecDepth 20000 in
theorem ggX10_interval_X10_between : GoodIn wsX10_interval wsX10_between := goodIn_r _ [34, 35, 36, 37, 5, 38, 39, 40, 41, 42, 16, 43, 44, 45, 46, 47, 48, 49, 50, 20, 21, 22, 27, 28, 29, 30, 51, 52, 53, 54, 55, 56, 57, 58, 59, 60, 61, 62, 63, 64, 65, 66, 67, 68, 69, 70, 71, 72, 73, 74, 75, 76, 77, 78, 79, 80] (by decide +kernel) (by decide +kernel)
set_option maxRecDepth 20000 in
theorem gX10_interval_X10_between : GoodIn wsX10_interval (wsV RX10 288 RX10 yX10_between wsX10_between) := goodIn_app (goodIn_of _ (by decide +kernel)) ggX10_interval_X10_between
theorem dX10_interval_0 : decode cX10_interval 0 = .ok (.aload_n 0, 1) := by decide +kernel
theorem dX10_interval_1 : decode cX10_interval 1 = .ok (.iconst 0, 1) := by decide +kernel
theorem dX10_interval_2 : decode cX10_interval 2 = .ok (.putfield 82, 3) := by decide +kernel
theorem dX10_interval_5 : decode cX10_interval 5 = .ok (.aload_n 0, 1) := by decide +kernel
theorem dX10_interval_6 : decode cX10_interval 6 = .ok (.iload_n 1, 1) := by decide +kernel
theorem dX10_interval_7 : decode cX10_interval 7 = .ok (.iload_n 2, 1) := by decide +kernel
theorem dX10_interval_8 : decode cX10_interval 8 = .ok (.invokevirtual 300, 3) := by decide +kernel
theorem dX10_interval_11 : decode cX10_interval 11 = .ok (.istore_n 3, 1) := by decide +kernel
theorem dX10_interval_12 : decode cX10_interval 12 = .ok (.iload_n 3, 1) := by decide +kernel
theorem dX10_interval_13 : decode cX10_interval 13 = .ok (.ifCond .ge 7, 3) := by decide +kernel
theorem dX10_interval_16 : decode cX10_interval 16 = .ok (.iload_n 3, 1) := by decide +kernel
theorem dX10_interval_17 : decode cX10_interval 17 = .ok (.goto 9, 3) := by decide +kernel
theorem dX10_interval_20 : decode cX10_interval 20 = .ok (.aload_n 0, 1) := by decide +kernel
theorem dX10_interval_21 : decode cX10_interval 21 = .ok (.iload_n 1, 1) := by decide +kernel
theorem dX10_interval_22 : decode cX10_interval 22 = .ok (.iload_n 2, 1) := by decide +kernel
theorem dX10_interval_23 : decode cX10_interval 23 = .ok (.invokevirtual 288, 3) := by decide +kernel
theorem dX10_interval_26 : decode cX10_interval 26 = .ok (.ireturn, 1) := by decide +kernel
set_option maxRecDepth 20000 in
theorem ggX10_chains_X10_isIn : GoodIn wsX10_chains wsX10_isIn := goodIn_r _ [6] (by decide +kernel) (by decide +kernel)
set_option maxRecDepth 20000 in
theorem gX10_chains_X10_isIn : GoodIn wsX10_chains (va_wsS RX10 87 yX10_isIn wsX10_isIn) := goodIn_app (goodIn_of _ (by decide +kernel)) ggX10_chains_X10_isIn
set_option maxRecDepth 20000 in
theorem ggX10_chains_X10_refusal : GoodIn wsX10_chains wsX10_refusal := goodIn_r _ [10, 11, 12, 13, 5, 14, 15, 16, 17, 18, 19, 20, 3, 4, 6, 21, 22, 23, 24, 25, 26, 27, 28, 29, 30, 31, 101, 102, 103, 104, 105, 106, 107, 108, 109, 110, 111, 112, 113, 114, 115, 116, 117, 118, 119, 120, 121, 122, 123, 124, 125, 126, 127, 128, 129, 130] (by decide +kernel) (by decide +kernel)
set_option maxRecDepth 20000 in
theorem gX10_chains_X10_refusal : GoodIn wsX10_chains (wsV RX10 300 RX10 yX10_refusal wsX10_refusal) := goodIn_app (goodIn_of _ (by decide +kernel)) ggX10_chains_X10_refusal
set_option maxRecDepth 20000 in
theorem ggX10_chains_X10_layChains : GoodIn wsX10_chains wsX10_layChains := goodIn_r _ [35, 36, 37, 38, 39, 40, 41, 5, 42, 43, 44, 45, 46, 47, 48, 49, 50, 51, 52, 20, 53, 54, 55, 56, 57, 58, 59, 60, 61, 62, 63, 64, 65, 66, 67, 68, 69, 70, 71, 72, 73, 74, 75, 76, 77, 78, 79, 80, 81, 82, 83, 84, 21, 22, 23, 28, 29, 30, 31, 85, 86, 87, 88, 101, 102, 103, 104, 105, 106, 107, 108, 109, 110, 111, 112, 113, 114, 115, 116, 117, 118, 119, 120, 121, 122, 123, 124, 125, 126, 127, 128, 129, 130] (by decide +kernel) (by decide +kernel)
set_option maxRecDepth 20000 in
theorem gX10_chains_X10_layChains : GoodIn wsX10_chains (wsV RX10 246 RX10 yX10_layChains wsX10_layChains) := goodIn_app (goodIn_of _ (by decide +kernel)) ggX10_chains_X10_layChains
set_option maxRecDepth 20000 in
theorem ggX10_chains_X10_chainsBy : GoodIn wsX10_chains wsX10_chainsBy := goodIn_r _ [92, 36, 43, 93, 94, 95, 5, 96, 57, 58, 59, 60, 61, 62, 63, 64, 44, 49, 50, 51, 52, 20, 53, 54, 55, 56, 97, 98, 99, 100, 101, 102, 103, 104, 105, 106, 107, 108, 109, 110, 111, 112, 113, 114, 115, 116, 117, 118, 119, 120, 121, 122, 123, 124, 125, 126, 127, 128, 129, 130] (by decide +kernel) (by decide +kernel)
set_option maxRecDepth 20000 in
theorem gX10_chains_X10_chainsBy : GoodIn wsX10_chains (wsV RX10 249 RX10 yX10_chainsBy wsX10_chainsBy) := goodIn_app (goodIn_of _ (by decide +kernel)) ggX10_chains_X10_chainsBy
theorem dX10_chains_0 : decode cX10_chains 0 = .ok (.aload_n 0, 1) := by decide +kernel
theorem dX10_chains_1 : decode cX10_chains 1 = .ok (.iconst 0, 1) := by decide +kernel
theorem dX10_chains_2 : decode cX10_chains 2 = .ok (.putfield 82, 3) := by decide +kernel
theorem dX10_chains_5 : decode cX10_chains 5 = .ok (.iload_n 3, 1) := by decide +kernel
theorem dX10_chains_6 : decode cX10_chains 6 = .ok (.i2l, 1) := by decide +kernel
theorem dX10_chains_7 : decode cX10_chains 7 = .ok (.lconst 0, 1) := by decide +kernel
theorem dX10_chains_8 : decode cX10_chains 8 = .ok (.ldc2_w 303, 3) := by decide +kernel
theorem dX10_chains_11 : decode cX10_chains 11 = .ok (.invokestatic 87, 3) := by decide +kernel
theorem dX10_chains_14 : decode cX10_chains 14 = .ok (.ifCond .eq 12, 3) := by decide +kernel
theorem dX10_chains_17 : decode cX10_chains 17 = .ok (.aload_n 0, 1) := by decide +kernel
theorem dX10_chains_18 : decode cX10_chains 18 = .ok (.iload_n 1, 1) := by decide +kernel
theorem dX10_chains_19 : decode cX10_chains 19 = .ok (.iload_n 2, 1) := by decide +kernel
theorem dX10_chains_20 : decode cX10_chains 20 = .ok (.invokevirtual 300, 3) := by decide +kernel
theorem dX10_chains_23 : decode cX10_chains 23 = .ok (.goto 4, 3) := by decide +kernel
theorem dX10_chains_26 : decode cX10_chains 26 = .ok (.iconst (-1), 1) := by decide +kernel
theorem dX10_chains_27 : decode cX10_chains 27 = .ok (.istore 4, 2) := by decide +kernel
theorem dX10_chains_29 : decode cX10_chains 29 = .ok (.iload 4, 2) := by decide +kernel
theorem dX10_chains_31 : decode cX10_chains 31 = .ok (.ifCond .ge 6, 3) := by decide +kernel
theorem dX10_chains_34 : decode cX10_chains 34 = .ok (.iload 4, 2) := by decide +kernel
theorem dX10_chains_36 : decode cX10_chains 36 = .ok (.ireturn, 1) := by decide +kernel
theorem dX10_chains_37 : decode cX10_chains 37 = .ok (.aload_n 0, 1) := by decide +kernel
theorem dX10_chains_38 : decode cX10_chains 38 = .ok (.iload_n 1, 1) := by decide +kernel
theorem dX10_chains_39 : decode cX10_chains 39 = .ok (.iload_n 2, 1) := by decide +kernel
theorem dX10_chains_40 : decode cX10_chains 40 = .ok (.invokevirtual 246, 3) := by decide +kernel
theorem dX10_chains_43 : decode cX10_chains 43 = .ok (.aload_n 0, 1) := by decide +kernel
theorem dX10_chains_44 : decode cX10_chains 44 = .ok (.iload_n 3, 1) := by decide +kernel
theorem dX10_chains_45 : decode cX10_chains 45 = .ok (.invokevirtual 249, 3) := by decide +kernel
theorem dX10_chains_48 : decode cX10_chains 48 = .ok (.ireturn, 1) := by decide +kernel
set_option maxRecDepth 20000 in
theorem ggX10_laidTo_X10_refusal : GoodIn wsX10_laidTo wsX10_refusal := goodIn_r _ [6, 7, 8, 9, 5, 10, 11, 12, 13, 14, 15, 16, 17, 18, 19, 20, 21, 22, 23, 24, 25, 26, 27, 28, 29, 30, 87, 88, 89, 90, 91, 92, 93, 94, 95, 96, 97, 98, 99, 100, 101, 102, 103, 104, 105, 106, 107, 108, 109, 110, 111, 112, 113, 114, 115, 116] (by decide +kernel) (by decide +kernel)
set_option maxRecDepth 20000 in
theorem gX10_laidTo_X10_refusal : GoodIn wsX10_laidTo (wsV RX10 300 RX10 yX10_refusal wsX10_refusal) := goodIn_app (goodIn_of _ (by decide +kernel)) ggX10_laidTo_X10_refusal
set_option maxRecDepth 20000 in
theorem ggX10_laidTo_X10_layChains : GoodIn wsX10_laidTo wsX10_layChains := goodIn_r _ [34, 1, 35, 36, 37, 38, 39, 5, 40, 41, 42, 43, 44, 45, 46, 47, 48, 49, 50, 16, 51, 52, 53, 54, 55, 56, 57, 58, 59, 60, 61, 62, 63, 64, 65, 66, 67, 68, 69, 70, 71, 72, 73, 74, 75, 76, 77, 78, 79, 80, 81, 82, 20, 21, 22, 27, 28, 29, 30, 83, 84, 85, 86, 87, 88, 89, 90, 91, 92, 93, 94, 95, 96, 97, 98, 99, 100, 101, 102, 103, 104, 105, 106, 107, 108, 109, 110, 111, 112, 113, 114, 115, 116] (by decide +kernel) (by decide +kernel)
set_option maxRecDepth 20000 in
theorem gX10_laidTo_X10_layChains : GoodIn wsX10_laidTo (wsV RX10 246 RX10 yX10_layChains wsX10_layChains) := goodIn_app (goodIn_of _ (by decide +kernel)) ggX10_laidTo_X10_layChains
set_option maxRecDepth 20000 in
theorem ggX10_laidTo_X10_isIn : GoodIn wsX10_laidTo wsX10_isIn := goodIn_r _ [19] (by decide +kernel) (by decide +kernel)
set_option maxRecDepth 20000 in
theorem gX10_laidTo_X10_isIn : GoodIn wsX10_laidTo (va_wsS RX10 87 yX10_isIn wsX10_isIn) := goodIn_app (goodIn_of _ (by decide +kernel)) ggX10_laidTo_X10_isIn
theorem dX10_laidTo_0 : decode cX10_laidTo 0 = .ok (.aload_n 0, 1) := by decide +kernel
theorem dX10_laidTo_1 : decode cX10_laidTo 1 = .ok (.iload_n 1, 1) := by decide +kernel
theorem dX10_laidTo_2 : decode cX10_laidTo 2 = .ok (.iload_n 2, 1) := by decide +kernel
theorem dX10_laidTo_3 : decode cX10_laidTo 3 = .ok (.invokevirtual 300, 3) := by decide +kernel
theorem dX10_laidTo_6 : decode cX10_laidTo 6 = .ok (.istore 4, 2) := by decide +kernel
theorem dX10_laidTo_8 : decode cX10_laidTo 8 = .ok (.iload 4, 2) := by decide +kernel
theorem dX10_laidTo_10 : decode cX10_laidTo 10 = .ok (.ifCond .ge 6, 3) := by decide +kernel
theorem dX10_laidTo_13 : decode cX10_laidTo 13 = .ok (.iload 4, 2) := by decide +kernel
theorem dX10_laidTo_15 : decode cX10_laidTo 15 = .ok (.ireturn, 1) := by decide +kernel
theorem dX10_laidTo_16 : decode cX10_laidTo 16 = .ok (.aload_n 0, 1) := by decide +kernel
theorem dX10_laidTo_17 : decode cX10_laidTo 17 = .ok (.iload_n 1, 1) := by decide +kernel
theorem dX10_laidTo_18 : decode cX10_laidTo 18 = .ok (.iload_n 2, 1) := by decide +kernel
theorem dX10_laidTo_19 : decode cX10_laidTo 19 = .ok (.invokevirtual 246, 3) := by decide +kernel
theorem dX10_laidTo_22 : decode cX10_laidTo 22 = .ok (.iload_n 3, 1) := by decide +kernel
theorem dX10_laidTo_23 : decode cX10_laidTo 23 = .ok (.i2l, 1) := by decide +kernel
theorem dX10_laidTo_24 : decode cX10_laidTo 24 = .ok (.lconst 0, 1) := by decide +kernel
theorem dX10_laidTo_25 : decode cX10_laidTo 25 = .ok (.aload_n 0, 1) := by decide +kernel
theorem dX10_laidTo_26 : decode cX10_laidTo 26 = .ok (.getfield 279, 3) := by decide +kernel
theorem dX10_laidTo_29 : decode cX10_laidTo 29 = .ok (.i2l, 1) := by decide +kernel
theorem dX10_laidTo_30 : decode cX10_laidTo 30 = .ok (.lconst 1, 1) := by decide +kernel
theorem dX10_laidTo_31 : decode cX10_laidTo 31 = .ok (.lsub, 1) := by decide +kernel
theorem dX10_laidTo_32 : decode cX10_laidTo 32 = .ok (.invokestatic 87, 3) := by decide +kernel
theorem dX10_laidTo_35 : decode cX10_laidTo 35 = .ok (.ifCond .eq 7, 3) := by decide +kernel
theorem dX10_laidTo_38 : decode cX10_laidTo 38 = .ok (.iconst 0, 1) := by decide +kernel
theorem dX10_laidTo_39 : decode cX10_laidTo 39 = .ok (.goto 5, 3) := by decide +kernel
theorem dX10_laidTo_42 : decode cX10_laidTo 42 = .ok (.bipush (-2), 2) := by decide +kernel
theorem dX10_laidTo_44 : decode cX10_laidTo 44 = .ok (.ireturn, 1) := by decide +kernel
set_option maxRecDepth 20000 in
theorem ggX10_point_X10_laidTo : GoodIn wsX10_point wsX10_laidTo := goodIn_r _ [7, 8, 9, 10, 11, 6, 12, 13, 14, 15, 16, 17, 18, 19, 20, 21, 22, 23, 24, 25, 26, 27, 28, 29, 30, 31, 32, 33, 34, 35, 36, 37, 38, 39, 40, 41, 42, 43, 44, 45, 46, 2, 47, 48, 49, 50, 51, 52, 53, 54, 55, 56, 57, 58, 59, 60, 61, 62, 63, 64, 65, 66, 67, 68, 69, 70, 71, 72, 73, 74, 75, 76, 77, 78, 79, 80, 81, 82, 83, 84, 85, 86, 87, 88, 89, 90, 91, 92, 93, 94, 95, 96, 97, 98, 99, 100, 101, 102, 103, 104, 105, 106, 107, 108, 109, 110, 111, 112, 113, 114, 115, 116, 117, 118, 119, 120, 121] (by decide +kernel) (by decide +kernel)
set_option maxRecDepth 20000 in
theorem gX10_point_X10_laidTo : GoodIn wsX10_point (wsV RX10 305 RX10 yX10_laidTo wsX10_laidTo) := goodIn_app (goodIn_of _ (by decide +kernel)) ggX10_point_X10_laidTo
set_option maxRecDepth 20000 in
theorem ggX10_point_X10_isIn : GoodIn wsX10_point wsX10_isIn := goodIn_r _ [25] (by decide +kernel) (by decide +kernel)
set_option maxRecDepth 20000 in
theorem gX10_point_X10_isIn : GoodIn wsX10_point (va_wsS RX10 87 yX10_isIn wsX10_isIn) := goodIn_app (goodIn_of _ (by decide +kernel)) ggX10_point_X10_isIn
set_option maxRecDepth 20000 in
theorem ggX10_point_X10_chainAt : GoodIn wsX10_point wsX10_chainAt := goodIn_r _ [67, 47, 92, 93, 94, 95, 96, 97, 98, 99, 100, 101, 102, 103, 104, 105, 106, 107, 108, 109, 110, 111, 112, 113, 114, 115, 116, 117, 118, 119, 120, 121] (by decide +kernel) (by decide +kernel)
set_option maxRecDepth 20000 in
theorem gX10_point_X10_chainAt : GoodIn wsX10_point (wsV RX10 273 RX10 yX10_chainAt wsX10_chainAt) := goodIn_app (goodIn_of _ (by decide +kernel)) ggX10_point_X10_chainAt
theorem dX10_point_0 : decode cX10_point 0 = .ok (.aload_n 0, 1) := by decide +kernel
theorem dX10_point_1 : decode cX10_point 1 = .ok (.iconst 0, 1) := by decide +kernel
theorem dX10_point_2 : decode cX10_point 2 = .ok (.putfield 82, 3) := by decide +kernel
theorem dX10_point_5 : decode cX10_point 5 = .ok (.aload_n 0, 1) := by decide +kernel
theorem dX10_point_6 : decode cX10_point 6 = .ok (.iload_n 1, 1) := by decide +kernel
theorem dX10_point_7 : decode cX10_point 7 = .ok (.iload_n 2, 1) := by decide +kernel
theorem dX10_point_8 : decode cX10_point 8 = .ok (.iload_n 3, 1) := by decide +kernel
theorem dX10_point_9 : decode cX10_point 9 = .ok (.invokevirtual 305, 3) := by decide +kernel
theorem dX10_point_12 : decode cX10_point 12 = .ok (.istore 5, 2) := by decide +kernel
theorem dX10_point_14 : decode cX10_point 14 = .ok (.iload 5, 2) := by decide +kernel
theorem dX10_point_16 : decode cX10_point 16 = .ok (.ifCond .ge 8, 3) := by decide +kernel
theorem dX10_point_19 : decode cX10_point 19 = .ok (.iload 5, 2) := by decide +kernel
theorem dX10_point_21 : decode cX10_point 21 = .ok (.goto 34, 3) := by decide +kernel
theorem dX10_point_24 : decode cX10_point 24 = .ok (.iload 4, 2) := by decide +kernel
theorem dX10_point_26 : decode cX10_point 26 = .ok (.i2l, 1) := by decide +kernel
theorem dX10_point_27 : decode cX10_point 27 = .ok (.lconst 0, 1) := by decide +kernel
theorem dX10_point_28 : decode cX10_point 28 = .ok (.aload_n 0, 1) := by decide +kernel
theorem dX10_point_29 : decode cX10_point 29 = .ok (.getfield 45, 3) := by decide +kernel
theorem dX10_point_32 : decode cX10_point 32 = .ok (.iload_n 3, 1) := by decide +kernel
theorem dX10_point_33 : decode cX10_point 33 = .ok (.iaload, 1) := by decide +kernel
theorem dX10_point_34 : decode cX10_point 34 = .ok (.i2l, 1) := by decide +kernel
theorem dX10_point_35 : decode cX10_point 35 = .ok (.lconst 1, 1) := by decide +kernel
theorem dX10_point_36 : decode cX10_point 36 = .ok (.lsub, 1) := by decide +kernel
theorem dX10_point_37 : decode cX10_point 37 = .ok (.invokestatic 87, 3) := by decide +kernel
theorem dX10_point_40 : decode cX10_point 40 = .ok (.ifCond .eq 13, 3) := by decide +kernel
theorem dX10_point_43 : decode cX10_point 43 = .ok (.aload_n 0, 1) := by decide +kernel
theorem dX10_point_44 : decode cX10_point 44 = .ok (.iload_n 3, 1) := by decide +kernel
theorem dX10_point_45 : decode cX10_point 45 = .ok (.iload 4, 2) := by decide +kernel
theorem dX10_point_47 : decode cX10_point 47 = .ok (.invokevirtual 273, 3) := by decide +kernel
theorem dX10_point_50 : decode cX10_point 50 = .ok (.goto 5, 3) := by decide +kernel
theorem dX10_point_53 : decode cX10_point 53 = .ok (.bipush (-2), 2) := by decide +kernel
theorem dX10_point_55 : decode cX10_point 55 = .ok (.ireturn, 1) := by decide +kernel
set_option maxRecDepth 20000 in
theorem ggX10_labelOf_X10_laidTo : GoodIn wsX10_labelOf wsX10_laidTo := goodIn_r _ [8, 9, 10, 11, 12, 7, 13, 14, 15, 16, 17, 18, 19, 20, 21, 22, 23, 24, 25, 26, 27, 28, 29, 30, 31, 32, 33, 34, 35, 36, 37, 38, 39, 40, 41, 42, 43, 44, 45, 46, 47, 2, 48, 49, 50, 51, 52, 53, 54, 55, 56, 57, 58, 59, 60, 61, 62, 63, 64, 65, 66, 67, 68, 69, 70, 71, 72, 73, 74, 75, 76, 77, 78, 79, 80, 81, 82, 83, 84, 85, 86, 87, 88, 89, 90, 91, 92, 93, 94, 95, 96, 97, 98, 99, 100, 101, 102, 103, 104, 105, 106, 107, 108, 109, 110, 111, 112, 113, 114, 115, 116, 117, 118, 119, 120, 121, 122] (by decide +kernel) (by decide +kernel)
set_option maxRecDepth 20000 in
theorem gX10_labelOf_X10_laidTo : GoodIn wsX10_labelOf (wsV RX10 305 RX10 yX10_laidTo wsX10_laidTo) := goodIn_app (goodIn_of _ (by decide +kernel)) ggX10_labelOf_X10_laidTo
set_option maxRecDepth 20000 in
theorem ggX10_labelOf_X10_isIn : GoodIn wsX10_labelOf wsX10_isIn := goodIn_r _ [26] (by decide +kernel) (by decide +kernel)
set_option maxRecDepth 20000 in
theorem gX10_labelOf_X10_isIn : GoodIn wsX10_labelOf (va_wsS RX10 87 yX10_isIn wsX10_isIn) := goodIn_app (goodIn_of _ (by decide +kernel)) ggX10_labelOf_X10_isIn
set_option maxRecDepth 20000 in
theorem ggX10_labelOf_X10_labelAt : GoodIn wsX10_labelOf wsX10_labelAt := goodIn_r _ [64, 65, 66, 67, 7, 68, 48, 53, 54, 55, 56, 23, 57, 58, 59, 60, 93, 94, 95, 96, 97, 98, 99, 100, 101, 102, 103, 104, 105, 106, 107, 108, 109, 110, 111, 112, 113, 114, 115, 116, 117, 118, 119, 120, 121, 122] (by decide +kernel) (by decide +kernel)
set_option maxRecDepth 20000 in
theorem gX10_labelOf_X10_labelAt : GoodIn wsX10_labelOf (wsV RX10 276 RX10 yX10_labelAt wsX10_labelAt) := goodIn_app (goodIn_of _ (by decide +kernel)) ggX10_labelOf_X10_labelAt
theorem dX10_labelOf_0 : decode cX10_labelOf 0 = .ok (.aload_n 0, 1) := by decide +kernel
theorem dX10_labelOf_1 : decode cX10_labelOf 1 = .ok (.iconst 0, 1) := by decide +kernel
theorem dX10_labelOf_2 : decode cX10_labelOf 2 = .ok (.putfield 82, 3) := by decide +kernel
theorem dX10_labelOf_5 : decode cX10_labelOf 5 = .ok (.aload_n 0, 1) := by decide +kernel
theorem dX10_labelOf_6 : decode cX10_labelOf 6 = .ok (.iload_n 1, 1) := by decide +kernel
theorem dX10_labelOf_7 : decode cX10_labelOf 7 = .ok (.iload_n 2, 1) := by decide +kernel
theorem dX10_labelOf_8 : decode cX10_labelOf 8 = .ok (.iload_n 3, 1) := by decide +kernel
theorem dX10_labelOf_9 : decode cX10_labelOf 9 = .ok (.invokevirtual 305, 3) := by decide +kernel
theorem dX10_labelOf_12 : decode cX10_labelOf 12 = .ok (.istore 5, 2) := by decide +kernel
theorem dX10_labelOf_14 : decode cX10_labelOf 14 = .ok (.iload 5, 2) := by decide +kernel
theorem dX10_labelOf_16 : decode cX10_labelOf 16 = .ok (.ifCond .ge 8, 3) := by decide +kernel
theorem dX10_labelOf_19 : decode cX10_labelOf 19 = .ok (.iload 5, 2) := by decide +kernel
theorem dX10_labelOf_21 : decode cX10_labelOf 21 = .ok (.goto 36, 3) := by decide +kernel
theorem dX10_labelOf_24 : decode cX10_labelOf 24 = .ok (.iload 4, 2) := by decide +kernel
theorem dX10_labelOf_26 : decode cX10_labelOf 26 = .ok (.i2l, 1) := by decide +kernel
theorem dX10_labelOf_27 : decode cX10_labelOf 27 = .ok (.lconst 0, 1) := by decide +kernel
theorem dX10_labelOf_28 : decode cX10_labelOf 28 = .ok (.aload_n 0, 1) := by decide +kernel
theorem dX10_labelOf_29 : decode cX10_labelOf 29 = .ok (.getfield 45, 3) := by decide +kernel
theorem dX10_labelOf_32 : decode cX10_labelOf 32 = .ok (.iload_n 3, 1) := by decide +kernel
theorem dX10_labelOf_33 : decode cX10_labelOf 33 = .ok (.iaload, 1) := by decide +kernel
theorem dX10_labelOf_34 : decode cX10_labelOf 34 = .ok (.i2l, 1) := by decide +kernel
theorem dX10_labelOf_35 : decode cX10_labelOf 35 = .ok (.ldc2_w 309, 3) := by decide +kernel
theorem dX10_labelOf_38 : decode cX10_labelOf 38 = .ok (.lsub, 1) := by decide +kernel
theorem dX10_labelOf_39 : decode cX10_labelOf 39 = .ok (.invokestatic 87, 3) := by decide +kernel
theorem dX10_labelOf_42 : decode cX10_labelOf 42 = .ok (.ifCond .eq 13, 3) := by decide +kernel
theorem dX10_labelOf_45 : decode cX10_labelOf 45 = .ok (.aload_n 0, 1) := by decide +kernel
theorem dX10_labelOf_46 : decode cX10_labelOf 46 = .ok (.iload_n 3, 1) := by decide +kernel
theorem dX10_labelOf_47 : decode cX10_labelOf 47 = .ok (.iload 4, 2) := by decide +kernel
theorem dX10_labelOf_49 : decode cX10_labelOf 49 = .ok (.invokevirtual 276, 3) := by decide +kernel
theorem dX10_labelOf_52 : decode cX10_labelOf 52 = .ok (.goto 5, 3) := by decide +kernel
theorem dX10_labelOf_55 : decode cX10_labelOf 55 = .ok (.bipush (-2), 2) := by decide +kernel
theorem dX10_labelOf_57 : decode cX10_labelOf 57 = .ok (.ireturn, 1) := by decide +kernel
set_option maxRecDepth 20000 in
theorem ggX10_falls_X10_laidTo : GoodIn wsX10_falls wsX10_laidTo := goodIn_r _ [6, 7, 8, 9, 10, 5, 11, 12, 13, 14, 15, 16, 17, 18, 19, 20, 21, 22, 23, 24, 25, 26, 27, 28, 29, 30, 31, 32, 33, 34, 35, 36, 37, 38, 39, 40, 41, 42, 43, 44, 45, 46, 47, 48, 49, 50, 51, 52, 53, 54, 55, 56, 57, 58, 59, 60, 61, 62, 63, 64, 65, 66, 67, 68, 69, 70, 71, 72, 73, 74, 75, 76, 77, 78, 79, 80, 81, 82, 83, 84, 85, 86, 87, 88, 89, 90, 91, 96, 97, 98, 99, 100, 101, 102, 103, 104, 105, 106, 107, 108, 109, 110, 111, 112, 113, 114, 115, 116, 117, 118, 119, 120, 121, 122, 123, 124, 125] (by decide +kernel) (by decide +kernel)
set_option maxRecDepth 20000 in
theorem gX10_falls_X10_laidTo : GoodIn wsX10_falls (wsV RX10 305 RX10 yX10_laidTo wsX10_laidTo) := goodIn_app (goodIn_of _ (by decide +kernel)) ggX10_falls_X10_laidTo
set_option maxRecDepth 20000 in
theorem ggX10_falls_X10_fallsOf : GoodIn wsX10_falls wsX10_fallsOf := goodIn_r _ [95, 46, 60, 61, 62, 5, 63, 64, 65, 66, 67, 47, 52, 53, 54, 55, 21, 56, 57, 58, 59, 96, 97, 98, 99, 100, 101, 102, 103, 104, 105, 106, 107, 108, 109, 110, 111, 112, 113, 114, 115, 116, 117, 118, 119, 120, 121, 122, 123, 124, 125] (by decide +kernel) (by decide +kernel)
set_option maxRecDepth 20000 in
theorem gX10_falls_X10_fallsOf : GoodIn wsX10_falls (wsV RX10 291 RX10 yX10_fallsOf wsX10_fallsOf) := goodIn_app (goodIn_of _ (by decide +kernel)) ggX10_falls_X10_fallsOf
theorem dX10_falls_0 : decode cX10_falls 0 = .ok (.aload_n 0, 1) := by decide +kernel
theorem dX10_falls_1 : decode cX10_falls 1 = .ok (.iconst 0, 1) := by decide +kernel
theorem dX10_falls_2 : decode cX10_falls 2 = .ok (.putfield 82, 3) := by decide +kernel
theorem dX10_falls_5 : decode cX10_falls 5 = .ok (.aload_n 0, 1) := by decide +kernel
theorem dX10_falls_6 : decode cX10_falls 6 = .ok (.iload_n 1, 1) := by decide +kernel
theorem dX10_falls_7 : decode cX10_falls 7 = .ok (.iload_n 2, 1) := by decide +kernel
theorem dX10_falls_8 : decode cX10_falls 8 = .ok (.iload_n 3, 1) := by decide +kernel
theorem dX10_falls_9 : decode cX10_falls 9 = .ok (.invokevirtual 305, 3) := by decide +kernel
theorem dX10_falls_12 : decode cX10_falls 12 = .ok (.istore 4, 2) := by decide +kernel
theorem dX10_falls_14 : decode cX10_falls 14 = .ok (.iload 4, 2) := by decide +kernel
theorem dX10_falls_16 : decode cX10_falls 16 = .ok (.ifCond .ge 8, 3) := by decide +kernel
theorem dX10_falls_19 : decode cX10_falls 19 = .ok (.iload 4, 2) := by decide +kernel
theorem dX10_falls_21 : decode cX10_falls 21 = .ok (.goto 8, 3) := by decide +kernel
theorem dX10_falls_24 : decode cX10_falls 24 = .ok (.aload_n 0, 1) := by decide +kernel
theorem dX10_falls_25 : decode cX10_falls 25 = .ok (.iload_n 3, 1) := by decide +kernel
theorem dX10_falls_26 : decode cX10_falls 26 = .ok (.invokevirtual 291, 3) := by decide +kernel
theorem dX10_falls_29 : decode cX10_falls 29 = .ok (.ireturn, 1) := by decide +kernel
set_option maxRecDepth 20000 in
theorem ggX10_isHeights_X10_isIn : GoodIn wsX10_isHeights wsX10_isIn := goodIn_r _ [5] (by decide +kernel) (by decide +kernel)
set_option maxRecDepth 20000 in
theorem gX10_isHeights_X10_isIn : GoodIn wsX10_isHeights (va_wsS RX10 87 yX10_isIn wsX10_isIn) := goodIn_app (goodIn_of _ (by decide +kernel)) ggX10_isHeights_X10_isIn
theorem dX10_isHeights_0 : decode cX10_isHeights 0 = .ok (.iload_n 0, 1) := by decide +kernel
theorem dX10_isHeights_1 : decode cX10_isHeights 1 = .ok (.i2l, 1) := by decide +kernel
theorem dX10_isHeights_2 : decode cX10_isHeights 2 = .ok (.lconst 0, 1) := by decide +kernel
theorem dX10_isHeights_3 : decode cX10_isHeights 3 = .ok (.ldc2_w 311, 3) := by decide +kernel
theorem dX10_isHeights_6 : decode cX10_isHeights 6 = .ok (.invokestatic 87, 3) := by decide +kernel
theorem dX10_isHeights_9 : decode cX10_isHeights 9 = .ok (.ifCond .eq 13, 3) := by decide +kernel
theorem dX10_isHeights_12 : decode cX10_isHeights 12 = .ok (.iload_n 0, 1) := by decide +kernel
theorem dX10_isHeights_13 : decode cX10_isHeights 13 = .ok (.iconst 2, 1) := by decide +kernel
theorem dX10_isHeights_14 : decode cX10_isHeights 14 = .ok (.irem, 1) := by decide +kernel
theorem dX10_isHeights_15 : decode cX10_isHeights 15 = .ok (.ifCond .ne 7, 3) := by decide +kernel
theorem dX10_isHeights_18 : decode cX10_isHeights 18 = .ok (.iconst 1, 1) := by decide +kernel
theorem dX10_isHeights_19 : decode cX10_isHeights 19 = .ok (.goto 4, 3) := by decide +kernel
theorem dX10_isHeights_22 : decode cX10_isHeights 22 = .ok (.iconst 0, 1) := by decide +kernel
theorem dX10_isHeights_23 : decode cX10_isHeights 23 = .ok (.ireturn, 1) := by decide +kernel
set_option maxRecDepth 20000 in
theorem ggX10_falling_X10_isHeights : GoodIn wsX10_falling wsX10_isHeights := goodIn_r _ [6, 7, 8, 9, 5, 10] (by decide +kernel) (by decide +kernel)
set_option maxRecDepth 20000 in
theorem gX10_falling_X10_isHeights : GoodIn wsX10_falling (va_wsS RX10 313 yX10_isHeights wsX10_isHeights) := goodIn_app (goodIn_of _ (by decide +kernel)) ggX10_falling_X10_isHeights
set_option maxRecDepth 20000 in
theorem ggX10_falling_X10_refusal : GoodIn wsX10_falling wsX10_refusal := goodIn_r _ [14, 15, 16, 17, 5, 18, 19, 20, 21, 22, 23, 24, 8, 9, 10, 25, 26, 27, 28, 29, 30, 31, 32, 33, 34, 35, 96, 97, 98, 99, 100, 101, 102, 103, 104, 105, 106, 107, 108, 109, 110, 111, 112, 113, 114, 115, 116, 117, 118, 119, 120, 121, 122, 123, 124, 125] (by decide +kernel) (by decide +kernel)
set_option maxRecDepth 20000 in
theorem gX10_falling_X10_refusal : GoodIn wsX10_falling (wsV RX10 300 RX10 yX10_refusal wsX10_refusal) := goodIn_app (goodIn_of _ (by decide +kernel)) ggX10_falling_X10_refusal
set_option maxRecDepth 20000 in
theorem ggX10_falling_X10_layChains : GoodIn wsX10_falling wsX10_layChains := goodIn_r _ [39, 2, 40, 41, 42, 43, 44, 5, 45, 46, 47, 48, 49, 50, 51, 52, 53, 54, 55, 24, 56, 57, 58, 59, 60, 61, 62, 63, 64, 65, 66, 67, 68, 69, 70, 71, 72, 73, 74, 75, 76, 77, 78, 79, 80, 81, 82, 83, 84, 85, 86, 87, 25, 26, 27, 32, 33, 34, 35, 88, 89, 90, 91, 96, 97, 98, 99, 100, 101, 102, 103, 104, 105, 106, 107, 108, 109, 110, 111, 112, 113, 114, 115, 116, 117, 118, 119, 120, 121, 122, 123, 124, 125] (by decide +kernel) (by decide +kernel)
set_option maxRecDepth 20000 in
theorem gX10_falling_X10_layChains : GoodIn wsX10_falling (wsV RX10 246 RX10 yX10_layChains wsX10_layChains) := goodIn_app (goodIn_of _ (by decide +kernel)) ggX10_falling_X10_layChains
set_option maxRecDepth 20000 in
theorem ggX10_falling_X10_fallsOf : GoodIn wsX10_falling wsX10_fallsOf := goodIn_r _ [95, 46, 60, 61, 62, 5, 63, 64, 65, 66, 67, 47, 52, 53, 54, 55, 24, 56, 57, 58, 59, 96, 97, 98, 99, 100, 101, 102, 103, 104, 105, 106, 107, 108, 109, 110, 111, 112, 113, 114, 115, 116, 117, 118, 119, 120, 121, 122, 123, 124, 125] (by decide +kernel) (by decide +kernel)
set_option maxRecDepth 20000 in
theorem gX10_falling_X10_fallsOf : GoodIn wsX10_falling (wsV RX10 291 RX10 yX10_fallsOf wsX10_fallsOf) := goodIn_app (goodIn_of _ (by decide +kernel)) ggX10_falling_X10_fallsOf
theorem dX10_falling_0 : decode cX10_falling 0 = .ok (.aload_n 0, 1) := by decide +kernel
theorem dX10_falling_1 : decode cX10_falling 1 = .ok (.iconst 0, 1) := by decide +kernel
theorem dX10_falling_2 : decode cX10_falling 2 = .ok (.putfield 82, 3) := by decide +kernel
theorem dX10_falling_5 : decode cX10_falling 5 = .ok (.iload_n 3, 1) := by decide +kernel
theorem dX10_falling_6 : decode cX10_falling 6 = .ok (.invokestatic 313, 3) := by decide +kernel
theorem dX10_falling_9 : decode cX10_falling 9 = .ok (.ifCond .eq 12, 3) := by decide +kernel
theorem dX10_falling_12 : decode cX10_falling 12 = .ok (.aload_n 0, 1) := by decide +kernel
theorem dX10_falling_13 : decode cX10_falling 13 = .ok (.iload_n 1, 1) := by decide +kernel
theorem dX10_falling_14 : decode cX10_falling 14 = .ok (.iload_n 2, 1) := by decide +kernel
theorem dX10_falling_15 : decode cX10_falling 15 = .ok (.invokevirtual 300, 3) := by decide +kernel
theorem dX10_falling_18 : decode cX10_falling 18 = .ok (.goto 4, 3) := by decide +kernel
theorem dX10_falling_21 : decode cX10_falling 21 = .ok (.iconst (-1), 1) := by decide +kernel
theorem dX10_falling_22 : decode cX10_falling 22 = .ok (.istore 4, 2) := by decide +kernel
theorem dX10_falling_24 : decode cX10_falling 24 = .ok (.iload 4, 2) := by decide +kernel
theorem dX10_falling_26 : decode cX10_falling 26 = .ok (.ifCond .ge 6, 3) := by decide +kernel
theorem dX10_falling_29 : decode cX10_falling 29 = .ok (.iload 4, 2) := by decide +kernel
theorem dX10_falling_31 : decode cX10_falling 31 = .ok (.ireturn, 1) := by decide +kernel
theorem dX10_falling_32 : decode cX10_falling 32 = .ok (.aload_n 0, 1) := by decide +kernel
theorem dX10_falling_33 : decode cX10_falling 33 = .ok (.iload_n 1, 1) := by decide +kernel
theorem dX10_falling_34 : decode cX10_falling 34 = .ok (.iload_n 2, 1) := by decide +kernel
theorem dX10_falling_35 : decode cX10_falling 35 = .ok (.invokevirtual 246, 3) := by decide +kernel
theorem dX10_falling_38 : decode cX10_falling 38 = .ok (.iconst 0, 1) := by decide +kernel
theorem dX10_falling_39 : decode cX10_falling 39 = .ok (.istore 5, 2) := by decide +kernel
theorem dX10_falling_41 : decode cX10_falling 41 = .ok (.iconst 0, 1) := by decide +kernel
theorem dX10_falling_42 : decode cX10_falling 42 = .ok (.istore 6, 2) := by decide +kernel
theorem dX10_falling_44 : decode cX10_falling 44 = .ok (.iload 6, 2) := by decide +kernel
theorem dX10_falling_46 : decode cX10_falling 46 = .ok (.aload_n 0, 1) := by decide +kernel
theorem dX10_falling_47 : decode cX10_falling 47 = .ok (.getfield 279, 3) := by decide +kernel
theorem dX10_falling_50 : decode cX10_falling 50 = .ok (.if_icmp .ge 29, 3) := by decide +kernel
theorem dX10_falling_53 : decode cX10_falling 53 = .ok (.iload 5, 2) := by decide +kernel
theorem dX10_falling_55 : decode cX10_falling 55 = .ok (.aload_n 0, 1) := by decide +kernel
theorem dX10_falling_56 : decode cX10_falling 56 = .ok (.iload 6, 2) := by decide +kernel
theorem dX10_falling_58 : decode cX10_falling 58 = .ok (.invokevirtual 291, 3) := by decide +kernel
theorem dX10_falling_61 : decode cX10_falling 61 = .ok (.iload_n 3, 1) := by decide +kernel
theorem dX10_falling_62 : decode cX10_falling 62 = .ok (.if_icmp .ne 7, 3) := by decide +kernel
theorem dX10_falling_65 : decode cX10_falling 65 = .ok (.iconst 1, 1) := by decide +kernel
theorem dX10_falling_66 : decode cX10_falling 66 = .ok (.goto 4, 3) := by decide +kernel
theorem dX10_falling_69 : decode cX10_falling 69 = .ok (.iconst 0, 1) := by decide +kernel
theorem dX10_falling_70 : decode cX10_falling 70 = .ok (.iadd, 1) := by decide +kernel
theorem dX10_falling_71 : decode cX10_falling 71 = .ok (.istore 5, 2) := by decide +kernel
theorem dX10_falling_73 : decode cX10_falling 73 = .ok (.iinc 6 1, 3) := by decide +kernel
theorem dX10_falling_76 : decode cX10_falling 76 = .ok (.goto (-32), 3) := by decide +kernel
theorem dX10_falling_79 : decode cX10_falling 79 = .ok (.iload 5, 2) := by decide +kernel
theorem dX10_falling_81 : decode cX10_falling 81 = .ok (.ireturn, 1) := by decide +kernel
set_option maxRecDepth 20000 in
theorem ggX10_flagOf_X10_between : GoodIn wsX10_flagOf wsX10_between := goodIn_r _ [7, 8, 9, 10, 6, 11, 12, 13, 14, 15, 16, 17, 18, 19, 20, 21, 22, 23, 24, 25, 26, 27, 28, 29, 30, 31, 32, 33, 34, 35, 36, 37, 38, 39, 40, 41, 42, 43, 44, 45, 46, 47, 48, 49, 50, 51, 52, 53, 54, 55, 56, 57, 58, 59, 60, 61] (by decide +kernel) (by decide +kernel)
set_option maxRecDepth 20000 in
theorem gX10_flagOf_X10_between : GoodIn wsX10_flagOf (wsV RX10 288 RX10 yX10_between wsX10_between) := goodIn_app (goodIn_of _ (by decide +kernel)) ggX10_flagOf_X10_between
set_option maxRecDepth 20000 in
theorem ggX10_flagOf_X10_has : GoodIn wsX10_flagOf wsX10_has := goodIn_r _ [27] (by decide +kernel) (by decide +kernel)
set_option maxRecDepth 20000 in
theorem gX10_flagOf_X10_has : GoodIn wsX10_flagOf (va_wsS RX10 91 yX10_has wsX10_has) := goodIn_app (goodIn_of _ (by decide +kernel)) ggX10_flagOf_X10_has
set_option maxRecDepth 20000 in
theorem ggX10_flagOf_X10_isBelow : GoodIn wsX10_flagOf wsX10_isBelow := goodIn_r _ [31, 16, 25, 26, 6, 27, 32, 33, 34, 35, 36, 37, 38, 39, 40, 41, 42, 43, 44, 45, 46, 47, 48, 49, 50, 51, 52, 53, 54, 55, 56, 57, 58, 59, 60, 61] (by decide +kernel) (by decide +kernel)
set_option maxRecDepth 20000 in
theorem gX10_flagOf_X10_isBelow : GoodIn wsX10_flagOf (wsV RX10 99 RX10 yX10_isBelow wsX10_isBelow) := goodIn_app (goodIn_of _ (by decide +kernel)) ggX10_flagOf_X10_isBelow
theorem dX10_flagOf_0 : decode cX10_flagOf 0 = .ok (.aload_n 0, 1) := by decide +kernel
theorem dX10_flagOf_1 : decode cX10_flagOf 1 = .ok (.iload_n 1, 1) := by decide +kernel
theorem dX10_flagOf_2 : decode cX10_flagOf 2 = .ok (.iload_n 2, 1) := by decide +kernel
theorem dX10_flagOf_3 : decode cX10_flagOf 3 = .ok (.invokevirtual 288, 3) := by decide +kernel
theorem dX10_flagOf_6 : decode cX10_flagOf 6 = .ok (.iconst 1, 1) := by decide +kernel
theorem dX10_flagOf_7 : decode cX10_flagOf 7 = .ok (.iload_n 1, 1) := by decide +kernel
theorem dX10_flagOf_8 : decode cX10_flagOf 8 = .ok (.ishl, 1) := by decide +kernel
theorem dX10_flagOf_9 : decode cX10_flagOf 9 = .ok (.iconst 1, 1) := by decide +kernel
theorem dX10_flagOf_10 : decode cX10_flagOf 10 = .ok (.iload_n 2, 1) := by decide +kernel
theorem dX10_flagOf_11 : decode cX10_flagOf 11 = .ok (.ishl, 1) := by decide +kernel
theorem dX10_flagOf_12 : decode cX10_flagOf 12 = .ok (.ior, 1) := by decide +kernel
theorem dX10_flagOf_13 : decode cX10_flagOf 13 = .ok (.iconst (-1), 1) := by decide +kernel
theorem dX10_flagOf_14 : decode cX10_flagOf 14 = .ok (.ixor, 1) := by decide +kernel
theorem dX10_flagOf_15 : decode cX10_flagOf 15 = .ok (.iand, 1) := by decide +kernel
theorem dX10_flagOf_16 : decode cX10_flagOf 16 = .ok (.istore 4, 2) := by decide +kernel
theorem dX10_flagOf_18 : decode cX10_flagOf 18 = .ok (.iconst 0, 1) := by decide +kernel
theorem dX10_flagOf_19 : decode cX10_flagOf 19 = .ok (.istore 5, 2) := by decide +kernel
theorem dX10_flagOf_21 : decode cX10_flagOf 21 = .ok (.iconst 0, 1) := by decide +kernel
theorem dX10_flagOf_22 : decode cX10_flagOf 22 = .ok (.istore 6, 2) := by decide +kernel
theorem dX10_flagOf_24 : decode cX10_flagOf 24 = .ok (.iload 6, 2) := by decide +kernel
theorem dX10_flagOf_26 : decode cX10_flagOf 26 = .ok (.bipush 9, 2) := by decide +kernel
theorem dX10_flagOf_28 : decode cX10_flagOf 28 = .ok (.if_icmp .ge 17, 3) := by decide +kernel
theorem dX10_flagOf_31 : decode cX10_flagOf 31 = .ok (.aload_n 0, 1) := by decide +kernel
theorem dX10_flagOf_32 : decode cX10_flagOf 32 = .ok (.getfield 54, 3) := by decide +kernel
theorem dX10_flagOf_35 : decode cX10_flagOf 35 = .ok (.iload 6, 2) := by decide +kernel
theorem dX10_flagOf_37 : decode cX10_flagOf 37 = .ok (.iconst 0, 1) := by decide +kernel
theorem dX10_flagOf_38 : decode cX10_flagOf 38 = .ok (.iastore, 1) := by decide +kernel
theorem dX10_flagOf_39 : decode cX10_flagOf 39 = .ok (.iinc 6 1, 3) := by decide +kernel
theorem dX10_flagOf_42 : decode cX10_flagOf 42 = .ok (.goto (-18), 3) := by decide +kernel
theorem dX10_flagOf_45 : decode cX10_flagOf 45 = .ok (.iconst 0, 1) := by decide +kernel
theorem dX10_flagOf_46 : decode cX10_flagOf 46 = .ok (.istore 6, 2) := by decide +kernel
theorem dX10_flagOf_48 : decode cX10_flagOf 48 = .ok (.iconst 1, 1) := by decide +kernel
theorem dX10_flagOf_49 : decode cX10_flagOf 49 = .ok (.istore 7, 2) := by decide +kernel
theorem dX10_flagOf_51 : decode cX10_flagOf 51 = .ok (.iload 7, 2) := by decide +kernel
theorem dX10_flagOf_53 : decode cX10_flagOf 53 = .ok (.bipush 9, 2) := by decide +kernel
theorem dX10_flagOf_55 : decode cX10_flagOf 55 = .ok (.if_icmp .ge 176, 3) := by decide +kernel
theorem dX10_flagOf_58 : decode cX10_flagOf 58 = .ok (.iload_n 3, 1) := by decide +kernel
theorem dX10_flagOf_59 : decode cX10_flagOf 59 = .ok (.iload 7, 2) := by decide +kernel
theorem dX10_flagOf_61 : decode cX10_flagOf 61 = .ok (.invokestatic 91, 3) := by decide +kernel
theorem dX10_flagOf_64 : decode cX10_flagOf 64 = .ok (.ifCond .ne 6, 3) := by decide +kernel
theorem dX10_flagOf_67 : decode cX10_flagOf 67 = .ok (.goto 158, 3) := by decide +kernel
theorem dX10_flagOf_70 : decode cX10_flagOf 70 = .ok (.iconst 0, 1) := by decide +kernel
theorem dX10_flagOf_71 : decode cX10_flagOf 71 = .ok (.istore 8, 2) := by decide +kernel
theorem dX10_flagOf_73 : decode cX10_flagOf 73 = .ok (.iload 8, 2) := by decide +kernel
theorem dX10_flagOf_75 : decode cX10_flagOf 75 = .ok (.bipush 9, 2) := by decide +kernel
theorem dX10_flagOf_77 : decode cX10_flagOf 77 = .ok (.if_icmp .ge 144, 3) := by decide +kernel
theorem dX10_flagOf_80 : decode cX10_flagOf 80 = .ok (.iconst 0, 1) := by decide +kernel
theorem dX10_flagOf_81 : decode cX10_flagOf 81 = .ok (.istore 9, 2) := by decide +kernel
theorem dX10_flagOf_83 : decode cX10_flagOf 83 = .ok (.iconst 0, 1) := by decide +kernel
theorem dX10_flagOf_84 : decode cX10_flagOf 84 = .ok (.istore 10, 2) := by decide +kernel
theorem dX10_flagOf_86 : decode cX10_flagOf 86 = .ok (.iload 10, 2) := by decide +kernel
theorem dX10_flagOf_88 : decode cX10_flagOf 88 = .ok (.bipush 9, 2) := by decide +kernel
theorem dX10_flagOf_90 : decode cX10_flagOf 90 = .ok (.if_icmp .ge 63, 3) := by decide +kernel
theorem dX10_flagOf_93 : decode cX10_flagOf 93 = .ok (.iload 9, 2) := by decide +kernel
theorem dX10_flagOf_95 : decode cX10_flagOf 95 = .ok (.iload 6, 2) := by decide +kernel
theorem dX10_flagOf_97 : decode cX10_flagOf 97 = .ok (.ifCond .le 46, 3) := by decide +kernel
theorem dX10_flagOf_100 : decode cX10_flagOf 100 = .ok (.iload 4, 2) := by decide +kernel
theorem dX10_flagOf_102 : decode cX10_flagOf 102 = .ok (.iload 10, 2) := by decide +kernel
theorem dX10_flagOf_104 : decode cX10_flagOf 104 = .ok (.invokestatic 91, 3) := by decide +kernel
theorem dX10_flagOf_107 : decode cX10_flagOf 107 = .ok (.ifCond .eq 36, 3) := by decide +kernel
theorem dX10_flagOf_110 : decode cX10_flagOf 110 = .ok (.aload_n 0, 1) := by decide +kernel
theorem dX10_flagOf_111 : decode cX10_flagOf 111 = .ok (.getfield 36, 3) := by decide +kernel
theorem dX10_flagOf_114 : decode cX10_flagOf 114 = .ok (.iload 10, 2) := by decide +kernel
theorem dX10_flagOf_116 : decode cX10_flagOf 116 = .ok (.iaload, 1) := by decide +kernel
theorem dX10_flagOf_117 : decode cX10_flagOf 117 = .ok (.iload 6, 2) := by decide +kernel
theorem dX10_flagOf_119 : decode cX10_flagOf 119 = .ok (.if_icmp .ne 24, 3) := by decide +kernel
theorem dX10_flagOf_122 : decode cX10_flagOf 122 = .ok (.aload_n 0, 1) := by decide +kernel
theorem dX10_flagOf_123 : decode cX10_flagOf 123 = .ok (.iload 10, 2) := by decide +kernel
theorem dX10_flagOf_125 : decode cX10_flagOf 125 = .ok (.iload 8, 2) := by decide +kernel
theorem dX10_flagOf_127 : decode cX10_flagOf 127 = .ok (.invokevirtual 99, 3) := by decide +kernel
theorem dX10_flagOf_130 : decode cX10_flagOf 130 = .ok (.ifCond .eq 13, 3) := by decide +kernel
theorem dX10_flagOf_133 : decode cX10_flagOf 133 = .ok (.aload_n 0, 1) := by decide +kernel
theorem dX10_flagOf_134 : decode cX10_flagOf 134 = .ok (.getfield 54, 3) := by decide +kernel
theorem dX10_flagOf_137 : decode cX10_flagOf 137 = .ok (.iload 10, 2) := by decide +kernel
theorem dX10_flagOf_139 : decode cX10_flagOf 139 = .ok (.iaload, 1) := by decide +kernel
theorem dX10_flagOf_140 : decode cX10_flagOf 140 = .ok (.goto 4, 3) := by decide +kernel
theorem dX10_flagOf_143 : decode cX10_flagOf 143 = .ok (.iconst 0, 1) := by decide +kernel
theorem dX10_flagOf_144 : decode cX10_flagOf 144 = .ok (.iadd, 1) := by decide +kernel
theorem dX10_flagOf_145 : decode cX10_flagOf 145 = .ok (.istore 9, 2) := by decide +kernel
theorem dX10_flagOf_147 : decode cX10_flagOf 147 = .ok (.iinc 10 1, 3) := by decide +kernel
theorem dX10_flagOf_150 : decode cX10_flagOf 150 = .ok (.goto (-64), 3) := by decide +kernel
theorem dX10_flagOf_153 : decode cX10_flagOf 153 = .ok (.iload 4, 2) := by decide +kernel
theorem dX10_flagOf_155 : decode cX10_flagOf 155 = .ok (.iload 8, 2) := by decide +kernel
theorem dX10_flagOf_157 : decode cX10_flagOf 157 = .ok (.invokestatic 91, 3) := by decide +kernel
theorem dX10_flagOf_160 : decode cX10_flagOf 160 = .ok (.ifCond .eq 19, 3) := by decide +kernel
theorem dX10_flagOf_163 : decode cX10_flagOf 163 = .ok (.aload_n 0, 1) := by decide +kernel
theorem dX10_flagOf_164 : decode cX10_flagOf 164 = .ok (.getfield 36, 3) := by decide +kernel
theorem dX10_flagOf_167 : decode cX10_flagOf 167 = .ok (.iload 8, 2) := by decide +kernel
theorem dX10_flagOf_169 : decode cX10_flagOf 169 = .ok (.iaload, 1) := by decide +kernel
theorem dX10_flagOf_170 : decode cX10_flagOf 170 = .ok (.iload 7, 2) := by decide +kernel
theorem dX10_flagOf_172 : decode cX10_flagOf 172 = .ok (.if_icmp .ne 7, 3) := by decide +kernel
theorem dX10_flagOf_175 : decode cX10_flagOf 175 = .ok (.iconst 1, 1) := by decide +kernel
theorem dX10_flagOf_176 : decode cX10_flagOf 176 = .ok (.goto 4, 3) := by decide +kernel
theorem dX10_flagOf_179 : decode cX10_flagOf 179 = .ok (.iconst 0, 1) := by decide +kernel
theorem dX10_flagOf_180 : decode cX10_flagOf 180 = .ok (.istore 10, 2) := by decide +kernel
theorem dX10_flagOf_182 : decode cX10_flagOf 182 = .ok (.aload_n 0, 1) := by decide +kernel
theorem dX10_flagOf_183 : decode cX10_flagOf 183 = .ok (.getfield 54, 3) := by decide +kernel
theorem dX10_flagOf_186 : decode cX10_flagOf 186 = .ok (.iload 8, 2) := by decide +kernel
theorem dX10_flagOf_188 : decode cX10_flagOf 188 = .ok (.iload 10, 2) := by decide +kernel
theorem dX10_flagOf_190 : decode cX10_flagOf 190 = .ok (.ifCond .eq 17, 3) := by decide +kernel
theorem dX10_flagOf_193 : decode cX10_flagOf 193 = .ok (.iload 6, 2) := by decide +kernel
theorem dX10_flagOf_195 : decode cX10_flagOf 195 = .ok (.ifCond .ne 7, 3) := by decide +kernel
theorem dX10_flagOf_198 : decode cX10_flagOf 198 = .ok (.iconst 1, 1) := by decide +kernel
theorem dX10_flagOf_199 : decode cX10_flagOf 199 = .ok (.goto 15, 3) := by decide +kernel
theorem dX10_flagOf_202 : decode cX10_flagOf 202 = .ok (.iload 9, 2) := by decide +kernel
theorem dX10_flagOf_204 : decode cX10_flagOf 204 = .ok (.goto 10, 3) := by decide +kernel
theorem dX10_flagOf_207 : decode cX10_flagOf 207 = .ok (.aload_n 0, 1) := by decide +kernel
theorem dX10_flagOf_208 : decode cX10_flagOf 208 = .ok (.getfield 54, 3) := by decide +kernel
theorem dX10_flagOf_211 : decode cX10_flagOf 211 = .ok (.iload 8, 2) := by decide +kernel
theorem dX10_flagOf_213 : decode cX10_flagOf 213 = .ok (.iaload, 1) := by decide +kernel
theorem dX10_flagOf_214 : decode cX10_flagOf 214 = .ok (.iastore, 1) := by decide +kernel
theorem dX10_flagOf_215 : decode cX10_flagOf 215 = .ok (.iinc 8 1, 3) := by decide +kernel
theorem dX10_flagOf_218 : decode cX10_flagOf 218 = .ok (.goto (-145), 3) := by decide +kernel
theorem dX10_flagOf_221 : decode cX10_flagOf 221 = .ok (.iload 7, 2) := by decide +kernel
theorem dX10_flagOf_223 : decode cX10_flagOf 223 = .ok (.istore 6, 2) := by decide +kernel
theorem dX10_flagOf_225 : decode cX10_flagOf 225 = .ok (.iinc 7 1, 3) := by decide +kernel
theorem dX10_flagOf_228 : decode cX10_flagOf 228 = .ok (.goto (-177), 3) := by decide +kernel
theorem dX10_flagOf_231 : decode cX10_flagOf 231 = .ok (.iconst 0, 1) := by decide +kernel
theorem dX10_flagOf_232 : decode cX10_flagOf 232 = .ok (.istore 7, 2) := by decide +kernel
theorem dX10_flagOf_234 : decode cX10_flagOf 234 = .ok (.iload 7, 2) := by decide +kernel
theorem dX10_flagOf_236 : decode cX10_flagOf 236 = .ok (.bipush 9, 2) := by decide +kernel
theorem dX10_flagOf_238 : decode cX10_flagOf 238 = .ok (.if_icmp .ge 52, 3) := by decide +kernel
theorem dX10_flagOf_241 : decode cX10_flagOf 241 = .ok (.iload 5, 2) := by decide +kernel
theorem dX10_flagOf_243 : decode cX10_flagOf 243 = .ok (.iload 6, 2) := by decide +kernel
theorem dX10_flagOf_245 : decode cX10_flagOf 245 = .ok (.ifCond .le 35, 3) := by decide +kernel
theorem dX10_flagOf_248 : decode cX10_flagOf 248 = .ok (.iload 4, 2) := by decide +kernel
theorem dX10_flagOf_250 : decode cX10_flagOf 250 = .ok (.iload 7, 2) := by decide +kernel
theorem dX10_flagOf_252 : decode cX10_flagOf 252 = .ok (.invokestatic 91, 3) := by decide +kernel
theorem dX10_flagOf_255 : decode cX10_flagOf 255 = .ok (.ifCond .eq 25, 3) := by decide +kernel
theorem dX10_flagOf_258 : decode cX10_flagOf 258 = .ok (.aload_n 0, 1) := by decide +kernel
theorem dX10_flagOf_259 : decode cX10_flagOf 259 = .ok (.getfield 36, 3) := by decide +kernel
theorem dX10_flagOf_262 : decode cX10_flagOf 262 = .ok (.iload 7, 2) := by decide +kernel
theorem dX10_flagOf_264 : decode cX10_flagOf 264 = .ok (.iaload, 1) := by decide +kernel
theorem dX10_flagOf_265 : decode cX10_flagOf 265 = .ok (.iload 6, 2) := by decide +kernel
theorem dX10_flagOf_267 : decode cX10_flagOf 267 = .ok (.if_icmp .ne 13, 3) := by decide +kernel
theorem dX10_flagOf_270 : decode cX10_flagOf 270 = .ok (.aload_n 0, 1) := by decide +kernel
theorem dX10_flagOf_271 : decode cX10_flagOf 271 = .ok (.getfield 54, 3) := by decide +kernel
theorem dX10_flagOf_274 : decode cX10_flagOf 274 = .ok (.iload 7, 2) := by decide +kernel
theorem dX10_flagOf_276 : decode cX10_flagOf 276 = .ok (.iaload, 1) := by decide +kernel
theorem dX10_flagOf_277 : decode cX10_flagOf 277 = .ok (.goto 4, 3) := by decide +kernel
theorem dX10_flagOf_280 : decode cX10_flagOf 280 = .ok (.iconst 0, 1) := by decide +kernel
theorem dX10_flagOf_281 : decode cX10_flagOf 281 = .ok (.iadd, 1) := by decide +kernel
theorem dX10_flagOf_282 : decode cX10_flagOf 282 = .ok (.istore 5, 2) := by decide +kernel
theorem dX10_flagOf_284 : decode cX10_flagOf 284 = .ok (.iinc 7 1, 3) := by decide +kernel
theorem dX10_flagOf_287 : decode cX10_flagOf 287 = .ok (.goto (-53), 3) := by decide +kernel
theorem dX10_flagOf_290 : decode cX10_flagOf 290 = .ok (.iload 6, 2) := by decide +kernel
theorem dX10_flagOf_292 : decode cX10_flagOf 292 = .ok (.ifCond .ne 7, 3) := by decide +kernel
theorem dX10_flagOf_295 : decode cX10_flagOf 295 = .ok (.iconst 1, 1) := by decide +kernel
theorem dX10_flagOf_296 : decode cX10_flagOf 296 = .ok (.goto 5, 3) := by decide +kernel
theorem dX10_flagOf_299 : decode cX10_flagOf 299 = .ok (.iload 5, 2) := by decide +kernel
theorem dX10_flagOf_301 : decode cX10_flagOf 301 = .ok (.ireturn, 1) := by decide +kernel
set_option maxRecDepth 20000 in
theorem ggX10_flag_X10_isHeights : GoodIn wsX10_flag wsX10_isHeights := goodIn_r _ [6, 7, 8, 9, 5, 10] (by decide +kernel) (by decide +kernel)
set_option maxRecDepth 20000 in
theorem gX10_flag_X10_isHeights : GoodIn wsX10_flag (va_wsS RX10 313 yX10_isHeights wsX10_isHeights) := goodIn_app (goodIn_of _ (by decide +kernel)) ggX10_flag_X10_isHeights
set_option maxRecDepth 20000 in
theorem ggX10_flag_X10_areThere : GoodIn wsX10_flag wsX10_areThere := goodIn_r _ [14, 15, 16, 17, 5, 18, 19, 20, 8, 9, 10, 21, 22, 23, 65, 66, 67, 68, 69, 70, 71, 72, 73, 74, 75, 76, 77, 78, 79, 80, 81, 82, 83, 84, 85, 86, 87, 88, 89, 90, 91, 92, 93, 94] (by decide +kernel) (by decide +kernel)
set_option maxRecDepth 20000 in
theorem gX10_flag_X10_areThere : GoodIn wsX10_flag (wsV RX10 197 RX10 yX10_areThere wsX10_areThere) := goodIn_app (goodIn_of _ (by decide +kernel)) ggX10_flag_X10_areThere
set_option maxRecDepth 20000 in
theorem ggX10_flag_X10_isInterval : GoodIn wsX10_flag wsX10_isInterval := goodIn_r _ [27, 28, 29, 30, 5, 31, 20, 21, 22, 23, 65, 66, 67, 68, 69, 70, 71, 72, 73, 74, 75, 76, 77, 78, 79, 80, 81, 82, 83, 84, 85, 86, 87, 88, 89, 90, 91, 92, 93, 94] (by decide +kernel) (by decide +kernel)
set_option maxRecDepth 20000 in
theorem gX10_flag_X10_isInterval : GoodIn wsX10_flag (wsV RX10 297 RX10 yX10_isInterval wsX10_isInterval) := goodIn_app (goodIn_of _ (by decide +kernel)) ggX10_flag_X10_isInterval
set_option maxRecDepth 20000 in
theorem ggX10_flag_X10_layHeights : GoodIn wsX10_flag wsX10_layHeights := goodIn_r _ [35, 36, 20, 21, 22, 5, 23, 28, 29, 30, 31, 65, 66, 67, 68, 69, 70, 71, 72, 73, 74, 75, 76, 77, 78, 79, 80, 81, 82, 83, 84, 85, 86, 87, 88, 89, 90, 91, 92, 93, 94] (by decide +kernel) (by decide +kernel)
set_option maxRecDepth 20000 in
theorem gX10_flag_X10_layHeights : GoodIn wsX10_flag (wsV RX10 225 RX10 yX10_layHeights wsX10_layHeights) := goodIn_app (goodIn_of _ (by decide +kernel)) ggX10_flag_X10_layHeights
set_option maxRecDepth 20000 in
theorem ggX10_flag_X10_flagOf : GoodIn wsX10_flag wsX10_flagOf := goodIn_r _ [40, 41, 36, 42, 43, 44, 5, 45, 46, 47, 48, 49, 50, 51, 52, 53, 20, 54, 55, 56, 57, 58, 59, 60, 61, 21, 22, 23, 28, 29, 30, 31, 65, 66, 67, 68, 69, 70, 71, 72, 73, 74, 75, 76, 77, 78, 79, 80, 81, 82, 83, 84, 85, 86, 87, 88, 89, 90, 91, 92, 93, 94] (by decide +kernel) (by decide +kernel)
set_option maxRecDepth 20000 in
theorem gX10_flag_X10_flagOf : GoodIn wsX10_flag (wsV RX10 317 RX10 yX10_flagOf wsX10_flagOf) := goodIn_app (goodIn_of _ (by decide +kernel)) ggX10_flag_X10_flagOf
set_option maxRecDepth 20000 in
theorem ggX10_flag_X10_ones : GoodIn wsX10_flag wsX10_ones := goodIn_r _ [64] (by decide +kernel) (by decide +kernel)
set_option maxRecDepth 20000 in
theorem gX10_flag_X10_ones : GoodIn wsX10_flag (va_wsS RX10 320 yX10_ones wsX10_ones) := goodIn_app (goodIn_of _ (by decide +kernel)) ggX10_flag_X10_ones
theorem dX10_flag_0 : decode cX10_flag 0 = .ok (.aload_n 0, 1) := by decide +kernel
theorem dX10_flag_1 : decode cX10_flag 1 = .ok (.iconst 0, 1) := by decide +kernel
theorem dX10_flag_2 : decode cX10_flag 2 = .ok (.putfield 82, 3) := by decide +kernel
theorem dX10_flag_5 : decode cX10_flag 5 = .ok (.iload_n 3, 1) := by decide +kernel
theorem dX10_flag_6 : decode cX10_flag 6 = .ok (.invokestatic 313, 3) := by decide +kernel
theorem dX10_flag_9 : decode cX10_flag 9 = .ok (.ifCond .eq 21, 3) := by decide +kernel
theorem dX10_flag_12 : decode cX10_flag 12 = .ok (.aload_n 0, 1) := by decide +kernel
theorem dX10_flag_13 : decode cX10_flag 13 = .ok (.iload_n 1, 1) := by decide +kernel
theorem dX10_flag_14 : decode cX10_flag 14 = .ok (.iload_n 2, 1) := by decide +kernel
theorem dX10_flag_15 : decode cX10_flag 15 = .ok (.invokevirtual 197, 3) := by decide +kernel
theorem dX10_flag_18 : decode cX10_flag 18 = .ok (.ifCond .eq 12, 3) := by decide +kernel
theorem dX10_flag_21 : decode cX10_flag 21 = .ok (.aload_n 0, 1) := by decide +kernel
theorem dX10_flag_22 : decode cX10_flag 22 = .ok (.iload_n 1, 1) := by decide +kernel
theorem dX10_flag_23 : decode cX10_flag 23 = .ok (.iload_n 2, 1) := by decide +kernel
theorem dX10_flag_24 : decode cX10_flag 24 = .ok (.invokevirtual 297, 3) := by decide +kernel
theorem dX10_flag_27 : decode cX10_flag 27 = .ok (.ifCond .ne 7, 3) := by decide +kernel
theorem dX10_flag_30 : decode cX10_flag 30 = .ok (.ldc_w 316, 3) := by decide +kernel
theorem dX10_flag_33 : decode cX10_flag 33 = .ok (.ireturn, 1) := by decide +kernel
theorem dX10_flag_34 : decode cX10_flag 34 = .ok (.aload_n 0, 1) := by decide +kernel
theorem dX10_flag_35 : decode cX10_flag 35 = .ok (.iload_n 1, 1) := by decide +kernel
theorem dX10_flag_36 : decode cX10_flag 36 = .ok (.invokevirtual 225, 3) := by decide +kernel
theorem dX10_flag_39 : decode cX10_flag 39 = .ok (.iload 4, 2) := by decide +kernel
theorem dX10_flag_41 : decode cX10_flag 41 = .ok (.ifCond .ne 11, 3) := by decide +kernel
theorem dX10_flag_44 : decode cX10_flag 44 = .ok (.aload_n 0, 1) := by decide +kernel
theorem dX10_flag_45 : decode cX10_flag 45 = .ok (.iload_n 1, 1) := by decide +kernel
theorem dX10_flag_46 : decode cX10_flag 46 = .ok (.iload_n 2, 1) := by decide +kernel
theorem dX10_flag_47 : decode cX10_flag 47 = .ok (.iload_n 3, 1) := by decide +kernel
theorem dX10_flag_48 : decode cX10_flag 48 = .ok (.invokevirtual 317, 3) := by decide +kernel
theorem dX10_flag_51 : decode cX10_flag 51 = .ok (.ireturn, 1) := by decide +kernel
theorem dX10_flag_52 : decode cX10_flag 52 = .ok (.iconst 0, 1) := by decide +kernel
theorem dX10_flag_53 : decode cX10_flag 53 = .ok (.istore 5, 2) := by decide +kernel
theorem dX10_flag_55 : decode cX10_flag 55 = .ok (.iconst 0, 1) := by decide +kernel
theorem dX10_flag_56 : decode cX10_flag 56 = .ok (.istore 6, 2) := by decide +kernel
theorem dX10_flag_58 : decode cX10_flag 58 = .ok (.iload 6, 2) := by decide +kernel
theorem dX10_flag_60 : decode cX10_flag 60 = .ok (.iload_n 3, 1) := by decide +kernel
theorem dX10_flag_61 : decode cX10_flag 61 = .ok (.if_icmp .gt 55, 3) := by decide +kernel
theorem dX10_flag_64 : decode cX10_flag 64 = .ok (.iload 6, 2) := by decide +kernel
theorem dX10_flag_66 : decode cX10_flag 66 = .ok (.iload_n 3, 1) := by decide +kernel
theorem dX10_flag_67 : decode cX10_flag 67 = .ok (.iconst (-1), 1) := by decide +kernel
theorem dX10_flag_68 : decode cX10_flag 68 = .ok (.ixor, 1) := by decide +kernel
theorem dX10_flag_69 : decode cX10_flag 69 = .ok (.iand, 1) := by decide +kernel
theorem dX10_flag_70 : decode cX10_flag 70 = .ok (.ifCond .ne 40, 3) := by decide +kernel
theorem dX10_flag_73 : decode cX10_flag 73 = .ok (.iload 5, 2) := by decide +kernel
theorem dX10_flag_75 : decode cX10_flag 75 = .ok (.iload_n 3, 1) := by decide +kernel
theorem dX10_flag_76 : decode cX10_flag 76 = .ok (.iload 6, 2) := by decide +kernel
theorem dX10_flag_78 : decode cX10_flag 78 = .ok (.ixor, 1) := by decide +kernel
theorem dX10_flag_79 : decode cX10_flag 79 = .ok (.invokestatic 320, 3) := by decide +kernel
theorem dX10_flag_82 : decode cX10_flag 82 = .ok (.iconst 2, 1) := by decide +kernel
theorem dX10_flag_83 : decode cX10_flag 83 = .ok (.irem, 1) := by decide +kernel
theorem dX10_flag_84 : decode cX10_flag 84 = .ok (.ifCond .ne 14, 3) := by decide +kernel
theorem dX10_flag_87 : decode cX10_flag 87 = .ok (.aload_n 0, 1) := by decide +kernel
theorem dX10_flag_88 : decode cX10_flag 88 = .ok (.iload_n 1, 1) := by decide +kernel
theorem dX10_flag_89 : decode cX10_flag 89 = .ok (.iload_n 2, 1) := by decide +kernel
theorem dX10_flag_90 : decode cX10_flag 90 = .ok (.iload 6, 2) := by decide +kernel
theorem dX10_flag_92 : decode cX10_flag 92 = .ok (.invokevirtual 317, 3) := by decide +kernel
theorem dX10_flag_95 : decode cX10_flag 95 = .ok (.goto 12, 3) := by decide +kernel
theorem dX10_flag_98 : decode cX10_flag 98 = .ok (.aload_n 0, 1) := by decide +kernel
theorem dX10_flag_99 : decode cX10_flag 99 = .ok (.iload_n 1, 1) := by decide +kernel
theorem dX10_flag_100 : decode cX10_flag 100 = .ok (.iload_n 2, 1) := by decide +kernel
theorem dX10_flag_101 : decode cX10_flag 101 = .ok (.iload 6, 2) := by decide +kernel
theorem dX10_flag_103 : decode cX10_flag 103 = .ok (.invokevirtual 317, 3) := by decide +kernel
theorem dX10_flag_106 : decode cX10_flag 106 = .ok (.ineg, 1) := by decide +kernel
theorem dX10_flag_107 : decode cX10_flag 107 = .ok (.iadd, 1) := by decide +kernel
theorem dX10_flag_108 : decode cX10_flag 108 = .ok (.istore 5, 2) := by decide +kernel
theorem dX10_flag_110 : decode cX10_flag 110 = .ok (.iinc 6 1, 3) := by decide +kernel
theorem dX10_flag_113 : decode cX10_flag 113 = .ok (.goto (-55), 3) := by decide +kernel
theorem dX10_flag_116 : decode cX10_flag 116 = .ok (.iload 5, 2) := by decide +kernel
theorem dX10_flag_118 : decode cX10_flag 118 = .ok (.ireturn, 1) := by decide +kernel
theorem dX10_ones_0 : decode cX10_ones 0 = .ok (.iconst 0, 1) := by decide +kernel
theorem dX10_ones_1 : decode cX10_ones 1 = .ok (.istore_n 1, 1) := by decide +kernel
theorem dX10_ones_2 : decode cX10_ones 2 = .ok (.iload_n 0, 1) := by decide +kernel
theorem dX10_ones_3 : decode cX10_ones 3 = .ok (.istore_n 2, 1) := by decide +kernel
theorem dX10_ones_4 : decode cX10_ones 4 = .ok (.iload_n 2, 1) := by decide +kernel
theorem dX10_ones_5 : decode cX10_ones 5 = .ok (.ifCond .le 16, 3) := by decide +kernel
theorem dX10_ones_8 : decode cX10_ones 8 = .ok (.iload_n 1, 1) := by decide +kernel
theorem dX10_ones_9 : decode cX10_ones 9 = .ok (.iload_n 2, 1) := by decide +kernel
theorem dX10_ones_10 : decode cX10_ones 10 = .ok (.iconst 2, 1) := by decide +kernel
theorem dX10_ones_11 : decode cX10_ones 11 = .ok (.irem, 1) := by decide +kernel
theorem dX10_ones_12 : decode cX10_ones 12 = .ok (.iadd, 1) := by decide +kernel
theorem dX10_ones_13 : decode cX10_ones 13 = .ok (.istore_n 1, 1) := by decide +kernel
theorem dX10_ones_14 : decode cX10_ones 14 = .ok (.iload_n 2, 1) := by decide +kernel
theorem dX10_ones_15 : decode cX10_ones 15 = .ok (.iconst 2, 1) := by decide +kernel
theorem dX10_ones_16 : decode cX10_ones 16 = .ok (.idiv, 1) := by decide +kernel
theorem dX10_ones_17 : decode cX10_ones 17 = .ok (.istore_n 2, 1) := by decide +kernel
theorem dX10_ones_18 : decode cX10_ones 18 = .ok (.goto (-14), 3) := by decide +kernel
theorem dX10_ones_21 : decode cX10_ones 21 = .ok (.iload_n 1, 1) := by decide +kernel
theorem dX10_ones_22 : decode cX10_ones 22 = .ok (.ireturn, 1) := by decide +kernel
set_option maxRecDepth 20000 in
theorem ggX10_lexed_X10_isTold : GoodIn wsX10_lexed wsX10_isTold := goodIn_r _ [6, 7, 96, 97, 98, 99, 100, 101, 102, 103, 104, 105, 106, 107, 108, 109, 110, 111, 112, 113, 114, 115, 116, 117, 118, 119, 120, 121, 122, 123, 124, 125] (by decide +kernel) (by decide +kernel)
set_option maxRecDepth 20000 in
theorem gX10_lexed_X10_isTold : GoodIn wsX10_lexed (wsV RX10 208 RX10 yX10_isTold wsX10_isTold) := goodIn_app (goodIn_of _ (by decide +kernel)) ggX10_lexed_X10_isTold
set_option maxRecDepth 20000 in
theorem ggX10_lexed_X10_areThere : GoodIn wsX10_lexed wsX10_areThere := goodIn_r _ [11, 12, 13, 14, 5, 15, 16, 7, 17, 18, 19, 20, 21, 22, 96, 97, 98, 99, 100, 101, 102, 103, 104, 105, 106, 107, 108, 109, 110, 111, 112, 113, 114, 115, 116, 117, 118, 119, 120, 121, 122, 123, 124, 125] (by decide +kernel) (by decide +kernel)
set_option maxRecDepth 20000 in
theorem gX10_lexed_X10_areThere : GoodIn wsX10_lexed (wsV RX10 197 RX10 yX10_areThere wsX10_areThere) := goodIn_app (goodIn_of _ (by decide +kernel)) ggX10_lexed_X10_areThere
set_option maxRecDepth 20000 in
theorem ggX10_lexed_X10_isBelow : GoodIn wsX10_lexed wsX10_isBelow := goodIn_r _ [26, 7, 20, 21, 5, 22, 96, 97, 98, 99, 100, 101, 102, 103, 104, 105, 106, 107, 108, 109, 110, 111, 112, 113, 114, 115, 116, 117, 118, 119, 120, 121, 122, 123, 124, 125] (by decide +kernel) (by decide +kernel)
set_option maxRecDepth 20000 in
theorem gX10_lexed_X10_isBelow : GoodIn wsX10_lexed (wsV RX10 99 RX10 yX10_isBelow wsX10_isBelow) := goodIn_app (goodIn_of _ (by decide +kernel)) ggX10_lexed_X10_isBelow
set_option maxRecDepth 20000 in
theorem ggX10_lexed_X10_layChains : GoodIn wsX10_lexed wsX10_layChains := goodIn_r _ [30, 31, 32, 33, 34, 35, 36, 5, 37, 38, 39, 40, 41, 42, 43, 44, 45, 46, 47, 7, 48, 49, 50, 51, 52, 53, 54, 55, 56, 57, 58, 59, 60, 61, 62, 63, 64, 65, 66, 67, 68, 69, 70, 71, 72, 73, 74, 75, 76, 77, 78, 79, 20, 21, 22, 23, 24, 25, 26, 80, 81, 82, 83, 96, 97, 98, 99, 100, 101, 102, 103, 104, 105, 106, 107, 108, 109, 110, 111, 112, 113, 114, 115, 116, 117, 118, 119, 120, 121, 122, 123, 124, 125] (by decide +kernel) (by decide +kernel)
set_option maxRecDepth 20000 in
theorem gX10_lexed_X10_layChains : GoodIn wsX10_lexed (wsV RX10 246 RX10 yX10_layChains wsX10_layChains) := goodIn_app (goodIn_of _ (by decide +kernel)) ggX10_lexed_X10_layChains
set_option maxRecDepth 20000 in
theorem ggX10_lexed_X10_chainsBy : GoodIn wsX10_lexed wsX10_chainsBy := goodIn_r _ [87, 31, 38, 88, 89, 90, 5, 91, 52, 53, 54, 55, 56, 57, 58, 59, 39, 44, 45, 46, 47, 7, 48, 49, 50, 51, 92, 93, 94, 95, 96, 97, 98, 99, 100, 101, 102, 103, 104, 105, 106, 107, 108, 109, 110, 111, 112, 113, 114, 115, 116, 117, 118, 119, 120, 121, 122, 123, 124, 125] (by decide +kernel) (by decide +kernel)
set_option maxRecDepth 20000 in
theorem gX10_lexed_X10_chainsBy : GoodIn wsX10_lexed (wsV RX10 249 RX10 yX10_chainsBy wsX10_chainsBy) := goodIn_app (goodIn_of _ (by decide +kernel)) ggX10_lexed_X10_chainsBy
set_option maxRecDepth 20000 in
theorem ggX10_lexed_X10_isRising : GoodIn wsX10_lexed wsX10_isRising := goodIn_r _ [95, 38, 52, 53, 54, 5, 55, 56, 57, 58, 59, 39, 44, 45, 46, 47, 7, 48, 49, 50, 51, 96, 97, 98, 99, 100, 101, 102, 103, 104, 105, 106, 107, 108, 109, 110, 111, 112, 113, 114, 115, 116, 117, 118, 119, 120, 121, 122, 123, 124, 125] (by decide +kernel) (by decide +kernel)
set_option maxRecDepth 20000 in
theorem gX10_lexed_X10_isRising : GoodIn wsX10_lexed (wsV RX10 294 RX10 yX10_isRising wsX10_isRising) := goodIn_app (goodIn_of _ (by decide +kernel)) ggX10_lexed_X10_isRising
theorem dX10_lexed_0 : decode cX10_lexed 0 = .ok (.aload_n 0, 1) := by decide +kernel
theorem dX10_lexed_1 : decode cX10_lexed 1 = .ok (.iconst 0, 1) := by decide +kernel
theorem dX10_lexed_2 : decode cX10_lexed 2 = .ok (.putfield 82, 3) := by decide +kernel
theorem dX10_lexed_5 : decode cX10_lexed 5 = .ok (.aload_n 0, 1) := by decide +kernel
theorem dX10_lexed_6 : decode cX10_lexed 6 = .ok (.invokevirtual 208, 3) := by decide +kernel
theorem dX10_lexed_9 : decode cX10_lexed 9 = .ok (.ifCond .ne 6, 3) := by decide +kernel
theorem dX10_lexed_12 : decode cX10_lexed 12 = .ok (.bipush (-2), 2) := by decide +kernel
theorem dX10_lexed_14 : decode cX10_lexed 14 = .ok (.ireturn, 1) := by decide +kernel
theorem dX10_lexed_15 : decode cX10_lexed 15 = .ok (.iconst 0, 1) := by decide +kernel
theorem dX10_lexed_16 : decode cX10_lexed 16 = .ok (.istore_n 1, 1) := by decide +kernel
theorem dX10_lexed_17 : decode cX10_lexed 17 = .ok (.iload_n 1, 1) := by decide +kernel
theorem dX10_lexed_18 : decode cX10_lexed 18 = .ok (.bipush 9, 2) := by decide +kernel
theorem dX10_lexed_20 : decode cX10_lexed 20 = .ok (.if_icmp .ge 71, 3) := by decide +kernel
theorem dX10_lexed_23 : decode cX10_lexed 23 = .ok (.iconst 0, 1) := by decide +kernel
theorem dX10_lexed_24 : decode cX10_lexed 24 = .ok (.istore_n 2, 1) := by decide +kernel
theorem dX10_lexed_25 : decode cX10_lexed 25 = .ok (.iload_n 2, 1) := by decide +kernel
theorem dX10_lexed_26 : decode cX10_lexed 26 = .ok (.bipush 9, 2) := by decide +kernel
theorem dX10_lexed_28 : decode cX10_lexed 28 = .ok (.if_icmp .ge 57, 3) := by decide +kernel
theorem dX10_lexed_31 : decode cX10_lexed 31 = .ok (.aload_n 0, 1) := by decide +kernel
theorem dX10_lexed_32 : decode cX10_lexed 32 = .ok (.iload_n 1, 1) := by decide +kernel
theorem dX10_lexed_33 : decode cX10_lexed 33 = .ok (.iload_n 2, 1) := by decide +kernel
theorem dX10_lexed_34 : decode cX10_lexed 34 = .ok (.invokevirtual 197, 3) := by decide +kernel
theorem dX10_lexed_37 : decode cX10_lexed 37 = .ok (.ifCond .eq 42, 3) := by decide +kernel
theorem dX10_lexed_40 : decode cX10_lexed 40 = .ok (.aload_n 0, 1) := by decide +kernel
theorem dX10_lexed_41 : decode cX10_lexed 41 = .ok (.iload_n 1, 1) := by decide +kernel
theorem dX10_lexed_42 : decode cX10_lexed 42 = .ok (.iload_n 2, 1) := by decide +kernel
theorem dX10_lexed_43 : decode cX10_lexed 43 = .ok (.invokevirtual 99, 3) := by decide +kernel
theorem dX10_lexed_46 : decode cX10_lexed 46 = .ok (.ifCond .eq 33, 3) := by decide +kernel
theorem dX10_lexed_49 : decode cX10_lexed 49 = .ok (.aload_n 0, 1) := by decide +kernel
theorem dX10_lexed_50 : decode cX10_lexed 50 = .ok (.iload_n 1, 1) := by decide +kernel
theorem dX10_lexed_51 : decode cX10_lexed 51 = .ok (.iload_n 2, 1) := by decide +kernel
theorem dX10_lexed_52 : decode cX10_lexed 52 = .ok (.invokevirtual 246, 3) := by decide +kernel
theorem dX10_lexed_55 : decode cX10_lexed 55 = .ok (.aload_n 0, 1) := by decide +kernel
theorem dX10_lexed_56 : decode cX10_lexed 56 = .ok (.iconst 1, 1) := by decide +kernel
theorem dX10_lexed_57 : decode cX10_lexed 57 = .ok (.invokevirtual 249, 3) := by decide +kernel
theorem dX10_lexed_60 : decode cX10_lexed 60 = .ok (.iconst 1, 1) := by decide +kernel
theorem dX10_lexed_61 : decode cX10_lexed 61 = .ok (.if_icmp .ne 11, 3) := by decide +kernel
theorem dX10_lexed_64 : decode cX10_lexed 64 = .ok (.aload_n 0, 1) := by decide +kernel
theorem dX10_lexed_65 : decode cX10_lexed 65 = .ok (.iconst 0, 1) := by decide +kernel
theorem dX10_lexed_66 : decode cX10_lexed 66 = .ok (.invokevirtual 294, 3) := by decide +kernel
theorem dX10_lexed_69 : decode cX10_lexed 69 = .ok (.ifCond .ne 10, 3) := by decide +kernel
theorem dX10_lexed_72 : decode cX10_lexed 72 = .ok (.bipush 10, 2) := by decide +kernel
theorem dX10_lexed_74 : decode cX10_lexed 74 = .ok (.iload_n 1, 1) := by decide +kernel
theorem dX10_lexed_75 : decode cX10_lexed 75 = .ok (.imul, 1) := by decide +kernel
theorem dX10_lexed_76 : decode cX10_lexed 76 = .ok (.iload_n 2, 1) := by decide +kernel
theorem dX10_lexed_77 : decode cX10_lexed 77 = .ok (.iadd, 1) := by decide +kernel
theorem dX10_lexed_78 : decode cX10_lexed 78 = .ok (.ireturn, 1) := by decide +kernel
theorem dX10_lexed_79 : decode cX10_lexed 79 = .ok (.iinc 2 1, 3) := by decide +kernel
theorem dX10_lexed_82 : decode cX10_lexed 82 = .ok (.goto (-57), 3) := by decide +kernel
theorem dX10_lexed_85 : decode cX10_lexed 85 = .ok (.iinc 1 1, 3) := by decide +kernel
theorem dX10_lexed_88 : decode cX10_lexed 88 = .ok (.goto (-71), 3) := by decide +kernel
theorem dX10_lexed_91 : decode cX10_lexed 91 = .ok (.iconst (-1), 1) := by decide +kernel
theorem dX10_lexed_92 : decode cX10_lexed 92 = .ok (.ireturn, 1) := by decide +kernel
set_option maxRecDepth 20000 in
theorem ggX10_layMoebius_X10_between : GoodIn wsX10_layMoebius wsX10_between := goodIn_r _ [6, 7, 8, 9, 5, 10, 11, 12, 13, 14, 15, 16, 17, 18, 19, 20, 21, 22, 23, 24, 25, 26, 27, 28, 29, 30, 31, 32, 33, 34, 35, 36, 37, 38, 39, 40, 41, 42, 43, 44, 45, 46, 47, 48, 49, 50, 51, 52, 53, 54, 55, 56, 57, 58, 59, 60] (by decide +kernel) (by decide +kernel)
set_option maxRecDepth 20000 in
theorem gX10_layMoebius_X10_between : GoodIn wsX10_layMoebius (wsV RX10 288 RX10 yX10_between wsX10_between) := goodIn_app (goodIn_of _ (by decide +kernel)) ggX10_layMoebius_X10_between
set_option maxRecDepth 20000 in
theorem ggX10_layMoebius_X10_below : GoodIn wsX10_layMoebius wsX10_below := goodIn_r _ [23, 15, 24, 25, 5, 26, 27, 28, 29, 30, 31, 32, 33, 34, 35, 36, 37, 38, 39, 40, 41, 42, 43, 44, 45, 46, 47, 48, 49, 50, 51, 52, 53, 54, 55, 56, 57, 58, 59, 60] (by decide +kernel) (by decide +kernel)
set_option maxRecDepth 20000 in
theorem gX10_layMoebius_X10_below : GoodIn wsX10_layMoebius (wsV RX10 106 RX10 yX10_below wsX10_below) := goodIn_app (goodIn_of _ (by decide +kernel)) ggX10_layMoebius_X10_below
set_option maxRecDepth 20000 in
theorem ggX10_layMoebius_X10_has : GoodIn wsX10_layMoebius wsX10_has := goodIn_r _ [26] (by decide +kernel) (by decide +kernel)
set_option maxRecDepth 20000 in
theorem gX10_layMoebius_X10_has : GoodIn wsX10_layMoebius (va_wsS RX10 91 yX10_has wsX10_has) := goodIn_app (goodIn_of _ (by decide +kernel)) ggX10_layMoebius_X10_has
theorem dX10_layMoebius_0 : decode cX10_layMoebius 0 = .ok (.aload_n 0, 1) := by decide +kernel
theorem dX10_layMoebius_1 : decode cX10_layMoebius 1 = .ok (.iload_n 1, 1) := by decide +kernel
theorem dX10_layMoebius_2 : decode cX10_layMoebius 2 = .ok (.iload_n 2, 1) := by decide +kernel
theorem dX10_layMoebius_3 : decode cX10_layMoebius 3 = .ok (.invokevirtual 288, 3) := by decide +kernel
theorem dX10_layMoebius_6 : decode cX10_layMoebius 6 = .ok (.iload_n 3, 1) := by decide +kernel
theorem dX10_layMoebius_7 : decode cX10_layMoebius 7 = .ok (.iand, 1) := by decide +kernel
theorem dX10_layMoebius_8 : decode cX10_layMoebius 8 = .ok (.istore 4, 2) := by decide +kernel
theorem dX10_layMoebius_10 : decode cX10_layMoebius 10 = .ok (.iconst 0, 1) := by decide +kernel
theorem dX10_layMoebius_11 : decode cX10_layMoebius 11 = .ok (.istore 5, 2) := by decide +kernel
theorem dX10_layMoebius_13 : decode cX10_layMoebius 13 = .ok (.iconst 0, 1) := by decide +kernel
theorem dX10_layMoebius_14 : decode cX10_layMoebius 14 = .ok (.istore 6, 2) := by decide +kernel
theorem dX10_layMoebius_16 : decode cX10_layMoebius 16 = .ok (.iload 6, 2) := by decide +kernel
theorem dX10_layMoebius_18 : decode cX10_layMoebius 18 = .ok (.bipush 9, 2) := by decide +kernel
theorem dX10_layMoebius_20 : decode cX10_layMoebius 20 = .ok (.if_icmp .ge 137, 3) := by decide +kernel
theorem dX10_layMoebius_23 : decode cX10_layMoebius 23 = .ok (.iconst 0, 1) := by decide +kernel
theorem dX10_layMoebius_24 : decode cX10_layMoebius 24 = .ok (.istore 7, 2) := by decide +kernel
theorem dX10_layMoebius_26 : decode cX10_layMoebius 26 = .ok (.iload 7, 2) := by decide +kernel
theorem dX10_layMoebius_28 : decode cX10_layMoebius 28 = .ok (.bipush 9, 2) := by decide +kernel
theorem dX10_layMoebius_30 : decode cX10_layMoebius 30 = .ok (.if_icmp .ge 121, 3) := by decide +kernel
theorem dX10_layMoebius_33 : decode cX10_layMoebius 33 = .ok (.iload 4, 2) := by decide +kernel
theorem dX10_layMoebius_35 : decode cX10_layMoebius 35 = .ok (.aload_n 0, 1) := by decide +kernel
theorem dX10_layMoebius_36 : decode cX10_layMoebius 36 = .ok (.iload 7, 2) := by decide +kernel
theorem dX10_layMoebius_38 : decode cX10_layMoebius 38 = .ok (.invokevirtual 106, 3) := by decide +kernel
theorem dX10_layMoebius_41 : decode cX10_layMoebius 41 = .ok (.iand, 1) := by decide +kernel
theorem dX10_layMoebius_42 : decode cX10_layMoebius 42 = .ok (.istore 8, 2) := by decide +kernel
theorem dX10_layMoebius_44 : decode cX10_layMoebius 44 = .ok (.iload 4, 2) := by decide +kernel
theorem dX10_layMoebius_46 : decode cX10_layMoebius 46 = .ok (.iload 5, 2) := by decide +kernel
theorem dX10_layMoebius_48 : decode cX10_layMoebius 48 = .ok (.iconst (-1), 1) := by decide +kernel
theorem dX10_layMoebius_49 : decode cX10_layMoebius 49 = .ok (.ixor, 1) := by decide +kernel
theorem dX10_layMoebius_50 : decode cX10_layMoebius 50 = .ok (.iand, 1) := by decide +kernel
theorem dX10_layMoebius_51 : decode cX10_layMoebius 51 = .ok (.iload 7, 2) := by decide +kernel
theorem dX10_layMoebius_53 : decode cX10_layMoebius 53 = .ok (.invokestatic 91, 3) := by decide +kernel
theorem dX10_layMoebius_56 : decode cX10_layMoebius 56 = .ok (.ifCond .eq 89, 3) := by decide +kernel
theorem dX10_layMoebius_59 : decode cX10_layMoebius 59 = .ok (.iload 8, 2) := by decide +kernel
theorem dX10_layMoebius_61 : decode cX10_layMoebius 61 = .ok (.iload 5, 2) := by decide +kernel
theorem dX10_layMoebius_63 : decode cX10_layMoebius 63 = .ok (.iconst (-1), 1) := by decide +kernel
theorem dX10_layMoebius_64 : decode cX10_layMoebius 64 = .ok (.ixor, 1) := by decide +kernel
theorem dX10_layMoebius_65 : decode cX10_layMoebius 65 = .ok (.iand, 1) := by decide +kernel
theorem dX10_layMoebius_66 : decode cX10_layMoebius 66 = .ok (.ifCond .eq 6, 3) := by decide +kernel
theorem dX10_layMoebius_69 : decode cX10_layMoebius 69 = .ok (.goto 76, 3) := by decide +kernel
theorem dX10_layMoebius_72 : decode cX10_layMoebius 72 = .ok (.iload 7, 2) := by decide +kernel
theorem dX10_layMoebius_74 : decode cX10_layMoebius 74 = .ok (.iload_n 1, 1) := by decide +kernel
theorem dX10_layMoebius_75 : decode cX10_layMoebius 75 = .ok (.if_icmp .ne 7, 3) := by decide +kernel
theorem dX10_layMoebius_78 : decode cX10_layMoebius 78 = .ok (.iconst 1, 1) := by decide +kernel
theorem dX10_layMoebius_79 : decode cX10_layMoebius 79 = .ok (.goto 4, 3) := by decide +kernel
theorem dX10_layMoebius_82 : decode cX10_layMoebius 82 = .ok (.iconst 0, 1) := by decide +kernel
theorem dX10_layMoebius_83 : decode cX10_layMoebius 83 = .ok (.istore 9, 2) := by decide +kernel
theorem dX10_layMoebius_85 : decode cX10_layMoebius 85 = .ok (.iconst 0, 1) := by decide +kernel
theorem dX10_layMoebius_86 : decode cX10_layMoebius 86 = .ok (.istore 10, 2) := by decide +kernel
theorem dX10_layMoebius_88 : decode cX10_layMoebius 88 = .ok (.iload 10, 2) := by decide +kernel
theorem dX10_layMoebius_90 : decode cX10_layMoebius 90 = .ok (.bipush 9, 2) := by decide +kernel
theorem dX10_layMoebius_92 : decode cX10_layMoebius 92 = .ok (.if_icmp .ge 35, 3) := by decide +kernel
theorem dX10_layMoebius_95 : decode cX10_layMoebius 95 = .ok (.iload 9, 2) := by decide +kernel
theorem dX10_layMoebius_97 : decode cX10_layMoebius 97 = .ok (.iload 8, 2) := by decide +kernel
theorem dX10_layMoebius_99 : decode cX10_layMoebius 99 = .ok (.iload 10, 2) := by decide +kernel
theorem dX10_layMoebius_101 : decode cX10_layMoebius 101 = .ok (.invokestatic 91, 3) := by decide +kernel
theorem dX10_layMoebius_104 : decode cX10_layMoebius 104 = .ok (.ifCond .eq 13, 3) := by decide +kernel
theorem dX10_layMoebius_107 : decode cX10_layMoebius 107 = .ok (.aload_n 0, 1) := by decide +kernel
theorem dX10_layMoebius_108 : decode cX10_layMoebius 108 = .ok (.getfield 57, 3) := by decide +kernel
theorem dX10_layMoebius_111 : decode cX10_layMoebius 111 = .ok (.iload 10, 2) := by decide +kernel
theorem dX10_layMoebius_113 : decode cX10_layMoebius 113 = .ok (.iaload, 1) := by decide +kernel
theorem dX10_layMoebius_114 : decode cX10_layMoebius 114 = .ok (.goto 4, 3) := by decide +kernel
theorem dX10_layMoebius_117 : decode cX10_layMoebius 117 = .ok (.iconst 0, 1) := by decide +kernel
theorem dX10_layMoebius_118 : decode cX10_layMoebius 118 = .ok (.isub, 1) := by decide +kernel
theorem dX10_layMoebius_119 : decode cX10_layMoebius 119 = .ok (.istore 9, 2) := by decide +kernel
theorem dX10_layMoebius_121 : decode cX10_layMoebius 121 = .ok (.iinc 10 1, 3) := by decide +kernel
theorem dX10_layMoebius_124 : decode cX10_layMoebius 124 = .ok (.goto (-36), 3) := by decide +kernel
theorem dX10_layMoebius_127 : decode cX10_layMoebius 127 = .ok (.aload_n 0, 1) := by decide +kernel
theorem dX10_layMoebius_128 : decode cX10_layMoebius 128 = .ok (.getfield 57, 3) := by decide +kernel
theorem dX10_layMoebius_131 : decode cX10_layMoebius 131 = .ok (.iload 7, 2) := by decide +kernel
theorem dX10_layMoebius_133 : decode cX10_layMoebius 133 = .ok (.iload 9, 2) := by decide +kernel
theorem dX10_layMoebius_135 : decode cX10_layMoebius 135 = .ok (.iastore, 1) := by decide +kernel
theorem dX10_layMoebius_136 : decode cX10_layMoebius 136 = .ok (.iload 5, 2) := by decide +kernel
theorem dX10_layMoebius_138 : decode cX10_layMoebius 138 = .ok (.iconst 1, 1) := by decide +kernel
theorem dX10_layMoebius_139 : decode cX10_layMoebius 139 = .ok (.iload 7, 2) := by decide +kernel
theorem dX10_layMoebius_141 : decode cX10_layMoebius 141 = .ok (.ishl, 1) := by decide +kernel
theorem dX10_layMoebius_142 : decode cX10_layMoebius 142 = .ok (.ior, 1) := by decide +kernel
theorem dX10_layMoebius_143 : decode cX10_layMoebius 143 = .ok (.istore 5, 2) := by decide +kernel
theorem dX10_layMoebius_145 : decode cX10_layMoebius 145 = .ok (.iinc 7 1, 3) := by decide +kernel
theorem dX10_layMoebius_148 : decode cX10_layMoebius 148 = .ok (.goto (-122), 3) := by decide +kernel
theorem dX10_layMoebius_151 : decode cX10_layMoebius 151 = .ok (.iinc 6 1, 3) := by decide +kernel
theorem dX10_layMoebius_154 : decode cX10_layMoebius 154 = .ok (.goto (-138), 3) := by decide +kernel
theorem dX10_layMoebius_157 : decode cX10_layMoebius 157 = .ok (.return_, 1) := by decide +kernel
set_option maxRecDepth 20000 in
theorem ggX10_moebius_X10_refusal : GoodIn wsX10_moebius wsX10_refusal := goodIn_r _ [9, 10, 11, 12, 8, 13, 14, 15, 16, 17, 18, 3, 19, 20, 21, 22, 23, 24, 25, 26, 27, 28, 29, 30, 31, 32, 57, 58, 59, 60, 61, 62, 63, 64, 65, 66, 67, 68, 69, 70, 71, 72, 73, 74, 75, 76, 77, 78, 79, 80, 81, 82, 83, 84, 85, 86] (by decide +kernel) (by decide +kernel)
set_option maxRecDepth 20000 in
theorem gX10_moebius_X10_refusal : GoodIn wsX10_moebius (wsV RX10 300 RX10 yX10_refusal wsX10_refusal) := goodIn_app (goodIn_of _ (by decide +kernel)) ggX10_moebius_X10_refusal
set_option maxRecDepth 20000 in
theorem ggX10_moebius_X10_layMoebius : GoodIn wsX10_moebius wsX10_layMoebius := goodIn_r _ [36, 4, 37, 38, 39, 8, 40, 41, 42, 43, 44, 45, 46, 47, 48, 3, 49, 50, 51, 52, 53, 54, 55, 56, 22, 23, 24, 29, 30, 31, 32, 57, 58, 59, 60, 61, 62, 63, 64, 65, 66, 67, 68, 69, 70, 71, 72, 73, 74, 75, 76, 77, 78, 79, 80, 81, 82, 83, 84, 85, 86] (by decide +kernel) (by decide +kernel)
set_option maxRecDepth 20000 in
theorem gX10_moebius_X10_layMoebius : GoodIn wsX10_moebius (wsV RX10 323 RX10 yX10_layMoebius wsX10_layMoebius) := goodIn_app (goodIn_of _ (by decide +kernel)) ggX10_moebius_X10_layMoebius
theorem dX10_moebius_0 : decode cX10_moebius 0 = .ok (.aload_n 0, 1) := by decide +kernel
theorem dX10_moebius_1 : decode cX10_moebius 1 = .ok (.iconst 0, 1) := by decide +kernel
theorem dX10_moebius_2 : decode cX10_moebius 2 = .ok (.putfield 82, 3) := by decide +kernel
theorem dX10_moebius_5 : decode cX10_moebius 5 = .ok (.aload_n 0, 1) := by decide +kernel
theorem dX10_moebius_6 : decode cX10_moebius 6 = .ok (.iload_n 1, 1) := by decide +kernel
theorem dX10_moebius_7 : decode cX10_moebius 7 = .ok (.iload_n 2, 1) := by decide +kernel
theorem dX10_moebius_8 : decode cX10_moebius 8 = .ok (.invokevirtual 300, 3) := by decide +kernel
theorem dX10_moebius_11 : decode cX10_moebius 11 = .ok (.ifCond .ge 7, 3) := by decide +kernel
theorem dX10_moebius_14 : decode cX10_moebius 14 = .ok (.ldc_w 316, 3) := by decide +kernel
theorem dX10_moebius_17 : decode cX10_moebius 17 = .ok (.ireturn, 1) := by decide +kernel
theorem dX10_moebius_18 : decode cX10_moebius 18 = .ok (.aload_n 0, 1) := by decide +kernel
theorem dX10_moebius_19 : decode cX10_moebius 19 = .ok (.iload_n 1, 1) := by decide +kernel
theorem dX10_moebius_20 : decode cX10_moebius 20 = .ok (.iload_n 2, 1) := by decide +kernel
theorem dX10_moebius_21 : decode cX10_moebius 21 = .ok (.aload_n 0, 1) := by decide +kernel
theorem dX10_moebius_22 : decode cX10_moebius 22 = .ok (.getfield 9, 3) := by decide +kernel
theorem dX10_moebius_25 : decode cX10_moebius 25 = .ok (.iconst 1, 1) := by decide +kernel
theorem dX10_moebius_26 : decode cX10_moebius 26 = .ok (.iaload, 1) := by decide +kernel
theorem dX10_moebius_27 : decode cX10_moebius 27 = .ok (.invokevirtual 323, 3) := by decide +kernel
theorem dX10_moebius_30 : decode cX10_moebius 30 = .ok (.aload_n 0, 1) := by decide +kernel
theorem dX10_moebius_31 : decode cX10_moebius 31 = .ok (.getfield 57, 3) := by decide +kernel
theorem dX10_moebius_34 : decode cX10_moebius 34 = .ok (.iload_n 2, 1) := by decide +kernel
theorem dX10_moebius_35 : decode cX10_moebius 35 = .ok (.iaload, 1) := by decide +kernel
theorem dX10_moebius_36 : decode cX10_moebius 36 = .ok (.ireturn, 1) := by decide +kernel
set_option maxRecDepth 20000 in
theorem ggX10_whitney_X10_isThere : GoodIn wsX10_whitney wsX10_isThere := goodIn_r _ [10, 11, 4, 12, 13, 9, 14, 15, 16, 17, 50, 51, 52, 53, 54, 55, 56, 57, 58, 59, 60, 61, 62, 63, 64, 65, 66, 67, 68, 69, 70, 71, 72, 73, 74, 75, 76, 77, 78, 79] (by decide +kernel) (by decide +kernel)
set_option maxRecDepth 20000 in
theorem gX10_whitney_X10_isThere : GoodIn wsX10_whitney (wsV RX10 95 RX10 yX10_isThere wsX10_isThere) := goodIn_app (goodIn_of _ (by decide +kernel)) ggX10_whitney_X10_isThere
set_option maxRecDepth 20000 in
theorem ggX10_whitney_X10_isIn : GoodIn wsX10_whitney wsX10_isIn := goodIn_r _ [14] (by decide +kernel) (by decide +kernel)
set_option maxRecDepth 20000 in
theorem gX10_whitney_X10_isIn : GoodIn wsX10_whitney (va_wsS RX10 87 yX10_isIn wsX10_isIn) := goodIn_app (goodIn_of _ (by decide +kernel)) ggX10_whitney_X10_isIn
set_option maxRecDepth 20000 in
theorem ggX10_whitney_X10_layHeights : GoodIn wsX10_whitney wsX10_layHeights := goodIn_r _ [21, 3, 4, 15, 16, 9, 17, 22, 23, 24, 25, 50, 51, 52, 53, 54, 55, 56, 57, 58, 59, 60, 61, 62, 63, 64, 65, 66, 67, 68, 69, 70, 71, 72, 73, 74, 75, 76, 77, 78, 79] (by decide +kernel) (by decide +kernel)
set_option maxRecDepth 20000 in
theorem gX10_whitney_X10_layHeights : GoodIn wsX10_whitney (wsV RX10 225 RX10 yX10_layHeights wsX10_layHeights) := goodIn_app (goodIn_of _ (by decide +kernel)) ggX10_whitney_X10_layHeights
set_option maxRecDepth 20000 in
theorem ggX10_whitney_X10_layMoebius : GoodIn wsX10_whitney wsX10_layMoebius := goodIn_r _ [29, 5, 30, 31, 32, 9, 33, 34, 35, 36, 37, 38, 39, 40, 41, 4, 42, 43, 44, 45, 46, 47, 48, 49, 15, 16, 17, 22, 23, 24, 25, 50, 51, 52, 53, 54, 55, 56, 57, 58, 59, 60, 61, 62, 63, 64, 65, 66, 67, 68, 69, 70, 71, 72, 73, 74, 75, 76, 77, 78, 79] (by decide +kernel) (by decide +kernel)
set_option maxRecDepth 20000 in
theorem gX10_whitney_X10_layMoebius : GoodIn wsX10_whitney (wsV RX10 323 RX10 yX10_layMoebius wsX10_layMoebius) := goodIn_app (goodIn_of _ (by decide +kernel)) ggX10_whitney_X10_layMoebius
theorem dX10_whitney_0 : decode cX10_whitney 0 = .ok (.aload_n 0, 1) := by decide +kernel
theorem dX10_whitney_1 : decode cX10_whitney 1 = .ok (.iconst 0, 1) := by decide +kernel
theorem dX10_whitney_2 : decode cX10_whitney 2 = .ok (.putfield 82, 3) := by decide +kernel
theorem dX10_whitney_5 : decode cX10_whitney 5 = .ok (.aload_n 0, 1) := by decide +kernel
theorem dX10_whitney_6 : decode cX10_whitney 6 = .ok (.iload_n 1, 1) := by decide +kernel
theorem dX10_whitney_7 : decode cX10_whitney 7 = .ok (.invokevirtual 95, 3) := by decide +kernel
theorem dX10_whitney_10 : decode cX10_whitney 10 = .ok (.ifCond .eq 17, 3) := by decide +kernel
theorem dX10_whitney_13 : decode cX10_whitney 13 = .ok (.iload_n 2, 1) := by decide +kernel
theorem dX10_whitney_14 : decode cX10_whitney 14 = .ok (.ifCond .lt 13, 3) := by decide +kernel
theorem dX10_whitney_17 : decode cX10_whitney 17 = .ok (.iload_n 3, 1) := by decide +kernel
theorem dX10_whitney_18 : decode cX10_whitney 18 = .ok (.i2l, 1) := by decide +kernel
theorem dX10_whitney_19 : decode cX10_whitney 19 = .ok (.lconst 0, 1) := by decide +kernel
theorem dX10_whitney_20 : decode cX10_whitney 20 = .ok (.lconst 1, 1) := by decide +kernel
theorem dX10_whitney_21 : decode cX10_whitney 21 = .ok (.invokestatic 87, 3) := by decide +kernel
theorem dX10_whitney_24 : decode cX10_whitney 24 = .ok (.ifCond .ne 7, 3) := by decide +kernel
theorem dX10_whitney_27 : decode cX10_whitney 27 = .ok (.ldc_w 316, 3) := by decide +kernel
theorem dX10_whitney_30 : decode cX10_whitney 30 = .ok (.ireturn, 1) := by decide +kernel
theorem dX10_whitney_31 : decode cX10_whitney 31 = .ok (.aload_n 0, 1) := by decide +kernel
theorem dX10_whitney_32 : decode cX10_whitney 32 = .ok (.iload_n 1, 1) := by decide +kernel
theorem dX10_whitney_33 : decode cX10_whitney 33 = .ok (.invokevirtual 225, 3) := by decide +kernel
theorem dX10_whitney_36 : decode cX10_whitney 36 = .ok (.iconst 0, 1) := by decide +kernel
theorem dX10_whitney_37 : decode cX10_whitney 37 = .ok (.istore 4, 2) := by decide +kernel
theorem dX10_whitney_39 : decode cX10_whitney 39 = .ok (.iconst 0, 1) := by decide +kernel
theorem dX10_whitney_40 : decode cX10_whitney 40 = .ok (.istore 5, 2) := by decide +kernel
theorem dX10_whitney_42 : decode cX10_whitney 42 = .ok (.iload 5, 2) := by decide +kernel
theorem dX10_whitney_44 : decode cX10_whitney 44 = .ok (.bipush 9, 2) := by decide +kernel
theorem dX10_whitney_46 : decode cX10_whitney 46 = .ok (.if_icmp .ge 53, 3) := by decide +kernel
theorem dX10_whitney_49 : decode cX10_whitney 49 = .ok (.aload_n 0, 1) := by decide +kernel
theorem dX10_whitney_50 : decode cX10_whitney 50 = .ok (.getfield 36, 3) := by decide +kernel
theorem dX10_whitney_53 : decode cX10_whitney 53 = .ok (.iload 5, 2) := by decide +kernel
theorem dX10_whitney_55 : decode cX10_whitney 55 = .ok (.iaload, 1) := by decide +kernel
theorem dX10_whitney_56 : decode cX10_whitney 56 = .ok (.iload_n 2, 1) := by decide +kernel
theorem dX10_whitney_57 : decode cX10_whitney 57 = .ok (.if_icmp .ne 36, 3) := by decide +kernel
theorem dX10_whitney_60 : decode cX10_whitney 60 = .ok (.aload_n 0, 1) := by decide +kernel
theorem dX10_whitney_61 : decode cX10_whitney 61 = .ok (.iload_n 1, 1) := by decide +kernel
theorem dX10_whitney_62 : decode cX10_whitney 62 = .ok (.iload 5, 2) := by decide +kernel
theorem dX10_whitney_64 : decode cX10_whitney 64 = .ok (.aload_n 0, 1) := by decide +kernel
theorem dX10_whitney_65 : decode cX10_whitney 65 = .ok (.getfield 9, 3) := by decide +kernel
theorem dX10_whitney_68 : decode cX10_whitney 68 = .ok (.iconst 1, 1) := by decide +kernel
theorem dX10_whitney_69 : decode cX10_whitney 69 = .ok (.iaload, 1) := by decide +kernel
theorem dX10_whitney_70 : decode cX10_whitney 70 = .ok (.invokevirtual 323, 3) := by decide +kernel
theorem dX10_whitney_73 : decode cX10_whitney 73 = .ok (.iload 4, 2) := by decide +kernel
theorem dX10_whitney_75 : decode cX10_whitney 75 = .ok (.iload_n 3, 1) := by decide +kernel
theorem dX10_whitney_76 : decode cX10_whitney 76 = .ok (.ifCond .ne 7, 3) := by decide +kernel
theorem dX10_whitney_79 : decode cX10_whitney 79 = .ok (.iconst 1, 1) := by decide +kernel
theorem dX10_whitney_80 : decode cX10_whitney 80 = .ok (.goto 10, 3) := by decide +kernel
theorem dX10_whitney_83 : decode cX10_whitney 83 = .ok (.aload_n 0, 1) := by decide +kernel
theorem dX10_whitney_84 : decode cX10_whitney 84 = .ok (.getfield 57, 3) := by decide +kernel
theorem dX10_whitney_87 : decode cX10_whitney 87 = .ok (.iload 5, 2) := by decide +kernel
theorem dX10_whitney_89 : decode cX10_whitney 89 = .ok (.iaload, 1) := by decide +kernel
theorem dX10_whitney_90 : decode cX10_whitney 90 = .ok (.iadd, 1) := by decide +kernel
theorem dX10_whitney_91 : decode cX10_whitney 91 = .ok (.istore 4, 2) := by decide +kernel
theorem dX10_whitney_93 : decode cX10_whitney 93 = .ok (.iinc 5 1, 3) := by decide +kernel
theorem dX10_whitney_96 : decode cX10_whitney 96 = .ok (.goto (-54), 3) := by decide +kernel
theorem dX10_whitney_99 : decode cX10_whitney 99 = .ok (.iload 4, 2) := by decide +kernel
theorem dX10_whitney_101 : decode cX10_whitney 101 = .ok (.ireturn, 1) := by decide +kernel
theorem dX10_plus_0 : decode cX10_plus 0 = .ok (.lload_n 0, 1) := by decide +kernel
theorem dX10_plus_1 : decode cX10_plus 1 = .ok (.lconst 0, 1) := by decide +kernel
theorem dX10_plus_2 : decode cX10_plus 2 = .ok (.lcmp, 1) := by decide +kernel
theorem dX10_plus_3 : decode cX10_plus 3 = .ok (.ifCond .lt 19, 3) := by decide +kernel
theorem dX10_plus_6 : decode cX10_plus 6 = .ok (.lload_n 2, 1) := by decide +kernel
theorem dX10_plus_7 : decode cX10_plus 7 = .ok (.lconst 0, 1) := by decide +kernel
theorem dX10_plus_8 : decode cX10_plus 8 = .ok (.lcmp, 1) := by decide +kernel
theorem dX10_plus_9 : decode cX10_plus 9 = .ok (.ifCond .lt 13, 3) := by decide +kernel
theorem dX10_plus_12 : decode cX10_plus 12 = .ok (.lload_n 0, 1) := by decide +kernel
theorem dX10_plus_13 : decode cX10_plus 13 = .ok (.ldc2_w 329, 3) := by decide +kernel
theorem dX10_plus_16 : decode cX10_plus 16 = .ok (.lload_n 2, 1) := by decide +kernel
theorem dX10_plus_17 : decode cX10_plus 17 = .ok (.lsub, 1) := by decide +kernel
theorem dX10_plus_18 : decode cX10_plus 18 = .ok (.lcmp, 1) := by decide +kernel
theorem dX10_plus_19 : decode cX10_plus 19 = .ok (.ifCond .le 9, 3) := by decide +kernel
theorem dX10_plus_22 : decode cX10_plus 22 = .ok (.ldc2_w 331, 3) := by decide +kernel
theorem dX10_plus_25 : decode cX10_plus 25 = .ok (.goto 6, 3) := by decide +kernel
theorem dX10_plus_28 : decode cX10_plus 28 = .ok (.lload_n 0, 1) := by decide +kernel
theorem dX10_plus_29 : decode cX10_plus 29 = .ok (.lload_n 2, 1) := by decide +kernel
theorem dX10_plus_30 : decode cX10_plus 30 = .ok (.ladd, 1) := by decide +kernel
theorem dX10_plus_31 : decode cX10_plus 31 = .ok (.lreturn, 1) := by decide +kernel
set_option maxRecDepth 20000 in
theorem ggX10_zeta_X10_isIn : GoodIn wsX10_zeta wsX10_isIn := goodIn_r _ [9] (by decide +kernel) (by decide +kernel)
set_option maxRecDepth 20000 in
theorem gX10_zeta_X10_isIn : GoodIn wsX10_zeta (va_wsS RX10 87 yX10_isIn wsX10_isIn) := goodIn_app (goodIn_of _ (by decide +kernel)) ggX10_zeta_X10_isIn
set_option maxRecDepth 20000 in
theorem ggX10_zeta_X10_refusal : GoodIn wsX10_zeta wsX10_refusal := goodIn_r _ [13, 14, 15, 16, 8, 17, 18, 19, 20, 21, 22, 23, 6, 7, 9, 24, 25, 26, 27, 28, 29, 30, 31, 32, 33, 34, 60, 61, 62, 63, 64, 65, 66, 67, 68, 69, 70, 71, 72, 73, 74, 75, 76, 77, 78, 79, 80, 81, 82, 83, 84, 85, 86, 87, 88, 89] (by decide +kernel) (by decide +kernel)
set_option maxRecDepth 20000 in
theorem gX10_zeta_X10_refusal : GoodIn wsX10_zeta (wsV RX10 300 RX10 yX10_refusal wsX10_refusal) := goodIn_app (goodIn_of _ (by decide +kernel)) ggX10_zeta_X10_refusal
set_option maxRecDepth 20000 in
theorem ggX10_zeta_X10_between : GoodIn wsX10_zeta wsX10_between := goodIn_r _ [38, 39, 40, 41, 8, 42, 43, 44, 45, 46, 23, 47, 48, 49, 50, 51, 52, 53, 54, 24, 25, 26, 31, 32, 33, 34, 60, 61, 62, 63, 64, 65, 66, 67, 68, 69, 70, 71, 72, 73, 74, 75, 76, 77, 78, 79, 80, 81, 82, 83, 84, 85, 86, 87, 88, 89] (by decide +kernel) (by decide +kernel)
set_option maxRecDepth 20000 in
theorem gX10_zeta_X10_between : GoodIn wsX10_zeta (wsV RX10 288 RX10 yX10_between wsX10_between) := goodIn_app (goodIn_of _ (by decide +kernel)) ggX10_zeta_X10_between
set_option maxRecDepth 20000 in
theorem ggX10_zeta_X10_has : GoodIn wsX10_zeta wsX10_has := goodIn_r _ [26] (by decide +kernel) (by decide +kernel)
set_option maxRecDepth 20000 in
theorem gX10_zeta_X10_has : GoodIn wsX10_zeta (va_wsS RX10 91 yX10_has wsX10_has) := goodIn_app (goodIn_of _ (by decide +kernel)) ggX10_zeta_X10_has
set_option maxRecDepth 20000 in
theorem ggX10_zeta_X10_downTo : GoodIn wsX10_zeta wsX10_downTo := goodIn_r _ [50, 51, 52, 53, 8, 54, 23, 24, 25, 26, 31, 32, 33, 34, 60, 61, 62, 63, 64, 65, 66, 67, 68, 69, 70, 71, 72, 73, 74, 75, 76, 77, 78, 79, 80, 81, 82, 83, 84, 85, 86, 87, 88, 89] (by decide +kernel) (by decide +kernel)
set_option maxRecDepth 20000 in
theorem gX10_zeta_X10_downTo : GoodIn wsX10_zeta (wsV RX10 231 RX10 yX10_downTo wsX10_downTo) := goodIn_app (goodIn_of _ (by decide +kernel)) ggX10_zeta_X10_downTo
set_option maxRecDepth 20000 in
theorem ggX10_zeta_X10_plus : GoodIn wsX10_zeta wsX10_plus := goodIn_r _ [57, 58, 59] (by decide +kernel) (by decide +kernel)
set_option maxRecDepth 20000 in
theorem gX10_zeta_X10_plus : GoodIn wsX10_zeta (va_wsS RX10 335 yX10_plus wsX10_plus) := goodIn_app (goodIn_of _ (by decide +kernel)) ggX10_zeta_X10_plus
theorem dX10_zeta_0 : decode cX10_zeta 0 = .ok (.aload_n 0, 1) := by decide +kernel
theorem dX10_zeta_1 : decode cX10_zeta 1 = .ok (.iconst 0, 1) := by decide +kernel
theorem dX10_zeta_2 : decode cX10_zeta 2 = .ok (.putfield 82, 3) := by decide +kernel
theorem dX10_zeta_5 : decode cX10_zeta 5 = .ok (.iload_n 3, 1) := by decide +kernel
theorem dX10_zeta_6 : decode cX10_zeta 6 = .ok (.i2l, 1) := by decide +kernel
theorem dX10_zeta_7 : decode cX10_zeta 7 = .ok (.lconst 1, 1) := by decide +kernel
theorem dX10_zeta_8 : decode cX10_zeta 8 = .ok (.ldc2_w 333, 3) := by decide +kernel
theorem dX10_zeta_11 : decode cX10_zeta 11 = .ok (.invokestatic 87, 3) := by decide +kernel
theorem dX10_zeta_14 : decode cX10_zeta 14 = .ok (.ifCond .eq 12, 3) := by decide +kernel
theorem dX10_zeta_17 : decode cX10_zeta 17 = .ok (.aload_n 0, 1) := by decide +kernel
theorem dX10_zeta_18 : decode cX10_zeta 18 = .ok (.iload_n 1, 1) := by decide +kernel
theorem dX10_zeta_19 : decode cX10_zeta 19 = .ok (.iload_n 2, 1) := by decide +kernel
theorem dX10_zeta_20 : decode cX10_zeta 20 = .ok (.invokevirtual 300, 3) := by decide +kernel
theorem dX10_zeta_23 : decode cX10_zeta 23 = .ok (.goto 4, 3) := by decide +kernel
theorem dX10_zeta_26 : decode cX10_zeta 26 = .ok (.iconst (-1), 1) := by decide +kernel
theorem dX10_zeta_27 : decode cX10_zeta 27 = .ok (.istore 4, 2) := by decide +kernel
theorem dX10_zeta_29 : decode cX10_zeta 29 = .ok (.iload 4, 2) := by decide +kernel
theorem dX10_zeta_31 : decode cX10_zeta 31 = .ok (.ifCond .ge 7, 3) := by decide +kernel
theorem dX10_zeta_34 : decode cX10_zeta 34 = .ok (.iload 4, 2) := by decide +kernel
theorem dX10_zeta_36 : decode cX10_zeta 36 = .ok (.i2l, 1) := by decide +kernel
theorem dX10_zeta_37 : decode cX10_zeta 37 = .ok (.lreturn, 1) := by decide +kernel
theorem dX10_zeta_38 : decode cX10_zeta 38 = .ok (.aload_n 0, 1) := by decide +kernel
theorem dX10_zeta_39 : decode cX10_zeta 39 = .ok (.iload_n 1, 1) := by decide +kernel
theorem dX10_zeta_40 : decode cX10_zeta 40 = .ok (.iload_n 2, 1) := by decide +kernel
theorem dX10_zeta_41 : decode cX10_zeta 41 = .ok (.invokevirtual 288, 3) := by decide +kernel
theorem dX10_zeta_44 : decode cX10_zeta 44 = .ok (.istore 5, 2) := by decide +kernel
theorem dX10_zeta_46 : decode cX10_zeta 46 = .ok (.iconst 0, 1) := by decide +kernel
theorem dX10_zeta_47 : decode cX10_zeta 47 = .ok (.istore 6, 2) := by decide +kernel
theorem dX10_zeta_49 : decode cX10_zeta 49 = .ok (.iload 6, 2) := by decide +kernel
theorem dX10_zeta_51 : decode cX10_zeta 51 = .ok (.bipush 9, 2) := by decide +kernel
theorem dX10_zeta_53 : decode cX10_zeta 53 = .ok (.if_icmp .ge 27, 3) := by decide +kernel
theorem dX10_zeta_56 : decode cX10_zeta 56 = .ok (.aload_n 0, 1) := by decide +kernel
theorem dX10_zeta_57 : decode cX10_zeta 57 = .ok (.getfield 60, 3) := by decide +kernel
theorem dX10_zeta_60 : decode cX10_zeta 60 = .ok (.iload 6, 2) := by decide +kernel
theorem dX10_zeta_62 : decode cX10_zeta 62 = .ok (.iload 6, 2) := by decide +kernel
theorem dX10_zeta_64 : decode cX10_zeta 64 = .ok (.iload_n 1, 1) := by decide +kernel
theorem dX10_zeta_65 : decode cX10_zeta 65 = .ok (.if_icmp .ne 7, 3) := by decide +kernel
theorem dX10_zeta_68 : decode cX10_zeta 68 = .ok (.lconst 1, 1) := by decide +kernel
theorem dX10_zeta_69 : decode cX10_zeta 69 = .ok (.goto 4, 3) := by decide +kernel
theorem dX10_zeta_72 : decode cX10_zeta 72 = .ok (.lconst 0, 1) := by decide +kernel
theorem dX10_zeta_73 : decode cX10_zeta 73 = .ok (.lastore, 1) := by decide +kernel
theorem dX10_zeta_74 : decode cX10_zeta 74 = .ok (.iinc 6 1, 3) := by decide +kernel
theorem dX10_zeta_77 : decode cX10_zeta 77 = .ok (.goto (-28), 3) := by decide +kernel
theorem dX10_zeta_80 : decode cX10_zeta 80 = .ok (.iconst 0, 1) := by decide +kernel
theorem dX10_zeta_81 : decode cX10_zeta 81 = .ok (.istore 6, 2) := by decide +kernel
theorem dX10_zeta_83 : decode cX10_zeta 83 = .ok (.iload 6, 2) := by decide +kernel
theorem dX10_zeta_85 : decode cX10_zeta 85 = .ok (.iload_n 3, 1) := by decide +kernel
theorem dX10_zeta_86 : decode cX10_zeta 86 = .ok (.if_icmp .ge 140, 3) := by decide +kernel
theorem dX10_zeta_89 : decode cX10_zeta 89 = .ok (.iconst 0, 1) := by decide +kernel
theorem dX10_zeta_90 : decode cX10_zeta 90 = .ok (.istore 7, 2) := by decide +kernel
theorem dX10_zeta_92 : decode cX10_zeta 92 = .ok (.iload 7, 2) := by decide +kernel
theorem dX10_zeta_94 : decode cX10_zeta 94 = .ok (.bipush 9, 2) := by decide +kernel
theorem dX10_zeta_96 : decode cX10_zeta 96 = .ok (.if_icmp .ge 94, 3) := by decide +kernel
theorem dX10_zeta_99 : decode cX10_zeta 99 = .ok (.aload_n 0, 1) := by decide +kernel
theorem dX10_zeta_100 : decode cX10_zeta 100 = .ok (.getfield 64, 3) := by decide +kernel
theorem dX10_zeta_103 : decode cX10_zeta 103 = .ok (.iload 7, 2) := by decide +kernel
theorem dX10_zeta_105 : decode cX10_zeta 105 = .ok (.lconst 0, 1) := by decide +kernel
theorem dX10_zeta_106 : decode cX10_zeta 106 = .ok (.lastore, 1) := by decide +kernel
theorem dX10_zeta_107 : decode cX10_zeta 107 = .ok (.iconst 0, 1) := by decide +kernel
theorem dX10_zeta_108 : decode cX10_zeta 108 = .ok (.istore 8, 2) := by decide +kernel
theorem dX10_zeta_110 : decode cX10_zeta 110 = .ok (.iload 8, 2) := by decide +kernel
theorem dX10_zeta_112 : decode cX10_zeta 112 = .ok (.bipush 9, 2) := by decide +kernel
theorem dX10_zeta_114 : decode cX10_zeta 114 = .ok (.if_icmp .ge 70, 3) := by decide +kernel
theorem dX10_zeta_117 : decode cX10_zeta 117 = .ok (.iload 5, 2) := by decide +kernel
theorem dX10_zeta_119 : decode cX10_zeta 119 = .ok (.iload 7, 2) := by decide +kernel
theorem dX10_zeta_121 : decode cX10_zeta 121 = .ok (.invokestatic 91, 3) := by decide +kernel
theorem dX10_zeta_124 : decode cX10_zeta 124 = .ok (.ifCond .eq 60, 3) := by decide +kernel
theorem dX10_zeta_127 : decode cX10_zeta 127 = .ok (.aload_n 0, 1) := by decide +kernel
theorem dX10_zeta_128 : decode cX10_zeta 128 = .ok (.getfield 64, 3) := by decide +kernel
theorem dX10_zeta_131 : decode cX10_zeta 131 = .ok (.iload 7, 2) := by decide +kernel
theorem dX10_zeta_133 : decode cX10_zeta 133 = .ok (.iload 5, 2) := by decide +kernel
theorem dX10_zeta_135 : decode cX10_zeta 135 = .ok (.aload_n 0, 1) := by decide +kernel
theorem dX10_zeta_136 : decode cX10_zeta 136 = .ok (.iload 7, 2) := by decide +kernel
theorem dX10_zeta_138 : decode cX10_zeta 138 = .ok (.invokevirtual 231, 3) := by decide +kernel
theorem dX10_zeta_141 : decode cX10_zeta 141 = .ok (.iand, 1) := by decide +kernel
theorem dX10_zeta_142 : decode cX10_zeta 142 = .ok (.iload 8, 2) := by decide +kernel
theorem dX10_zeta_144 : decode cX10_zeta 144 = .ok (.invokestatic 91, 3) := by decide +kernel
theorem dX10_zeta_147 : decode cX10_zeta 147 = .ok (.ifCond .eq 23, 3) := by decide +kernel
theorem dX10_zeta_150 : decode cX10_zeta 150 = .ok (.aload_n 0, 1) := by decide +kernel
theorem dX10_zeta_151 : decode cX10_zeta 151 = .ok (.getfield 64, 3) := by decide +kernel
theorem dX10_zeta_154 : decode cX10_zeta 154 = .ok (.iload 7, 2) := by decide +kernel
theorem dX10_zeta_156 : decode cX10_zeta 156 = .ok (.laload, 1) := by decide +kernel
theorem dX10_zeta_157 : decode cX10_zeta 157 = .ok (.aload_n 0, 1) := by decide +kernel
theorem dX10_zeta_158 : decode cX10_zeta 158 = .ok (.getfield 60, 3) := by decide +kernel
theorem dX10_zeta_161 : decode cX10_zeta 161 = .ok (.iload 8, 2) := by decide +kernel
theorem dX10_zeta_163 : decode cX10_zeta 163 = .ok (.laload, 1) := by decide +kernel
theorem dX10_zeta_164 : decode cX10_zeta 164 = .ok (.invokestatic 335, 3) := by decide +kernel
theorem dX10_zeta_167 : decode cX10_zeta 167 = .ok (.goto 10, 3) := by decide +kernel
theorem dX10_zeta_170 : decode cX10_zeta 170 = .ok (.aload_n 0, 1) := by decide +kernel
theorem dX10_zeta_171 : decode cX10_zeta 171 = .ok (.getfield 64, 3) := by decide +kernel
theorem dX10_zeta_174 : decode cX10_zeta 174 = .ok (.iload 7, 2) := by decide +kernel
theorem dX10_zeta_176 : decode cX10_zeta 176 = .ok (.laload, 1) := by decide +kernel
theorem dX10_zeta_177 : decode cX10_zeta 177 = .ok (.lastore, 1) := by decide +kernel
theorem dX10_zeta_178 : decode cX10_zeta 178 = .ok (.iinc 8 1, 3) := by decide +kernel
theorem dX10_zeta_181 : decode cX10_zeta 181 = .ok (.goto (-71), 3) := by decide +kernel
theorem dX10_zeta_184 : decode cX10_zeta 184 = .ok (.iinc 7 1, 3) := by decide +kernel
theorem dX10_zeta_187 : decode cX10_zeta 187 = .ok (.goto (-95), 3) := by decide +kernel
theorem dX10_zeta_190 : decode cX10_zeta 190 = .ok (.iconst 0, 1) := by decide +kernel
theorem dX10_zeta_191 : decode cX10_zeta 191 = .ok (.istore 7, 2) := by decide +kernel
theorem dX10_zeta_193 : decode cX10_zeta 193 = .ok (.iload 7, 2) := by decide +kernel
theorem dX10_zeta_195 : decode cX10_zeta 195 = .ok (.bipush 9, 2) := by decide +kernel
theorem dX10_zeta_197 : decode cX10_zeta 197 = .ok (.if_icmp .ge 23, 3) := by decide +kernel
theorem dX10_zeta_200 : decode cX10_zeta 200 = .ok (.aload_n 0, 1) := by decide +kernel
theorem dX10_zeta_201 : decode cX10_zeta 201 = .ok (.getfield 60, 3) := by decide +kernel
theorem dX10_zeta_204 : decode cX10_zeta 204 = .ok (.iload 7, 2) := by decide +kernel
theorem dX10_zeta_206 : decode cX10_zeta 206 = .ok (.aload_n 0, 1) := by decide +kernel
theorem dX10_zeta_207 : decode cX10_zeta 207 = .ok (.getfield 64, 3) := by decide +kernel
theorem dX10_zeta_210 : decode cX10_zeta 210 = .ok (.iload 7, 2) := by decide +kernel
theorem dX10_zeta_212 : decode cX10_zeta 212 = .ok (.laload, 1) := by decide +kernel
theorem dX10_zeta_213 : decode cX10_zeta 213 = .ok (.lastore, 1) := by decide +kernel
theorem dX10_zeta_214 : decode cX10_zeta 214 = .ok (.iinc 7 1, 3) := by decide +kernel
theorem dX10_zeta_217 : decode cX10_zeta 217 = .ok (.goto (-24), 3) := by decide +kernel
theorem dX10_zeta_220 : decode cX10_zeta 220 = .ok (.iinc 6 1, 3) := by decide +kernel
theorem dX10_zeta_223 : decode cX10_zeta 223 = .ok (.goto (-140), 3) := by decide +kernel
theorem dX10_zeta_226 : decode cX10_zeta 226 = .ok (.aload_n 0, 1) := by decide +kernel
theorem dX10_zeta_227 : decode cX10_zeta 227 = .ok (.getfield 60, 3) := by decide +kernel
theorem dX10_zeta_230 : decode cX10_zeta 230 = .ok (.iload_n 2, 1) := by decide +kernel
theorem dX10_zeta_231 : decode cX10_zeta 231 = .ok (.laload, 1) := by decide +kernel
theorem dX10_zeta_232 : decode cX10_zeta 232 = .ok (.lconst 0, 1) := by decide +kernel
theorem dX10_zeta_233 : decode cX10_zeta 233 = .ok (.lcmp, 1) := by decide +kernel
theorem dX10_zeta_234 : decode cX10_zeta 234 = .ok (.ifCond .ge 9, 3) := by decide +kernel
theorem dX10_zeta_237 : decode cX10_zeta 237 = .ok (.ldc2_w 339, 3) := by decide +kernel
theorem dX10_zeta_240 : decode cX10_zeta 240 = .ok (.goto 9, 3) := by decide +kernel
theorem dX10_zeta_243 : decode cX10_zeta 243 = .ok (.aload_n 0, 1) := by decide +kernel
theorem dX10_zeta_244 : decode cX10_zeta 244 = .ok (.getfield 60, 3) := by decide +kernel
theorem dX10_zeta_247 : decode cX10_zeta 247 = .ok (.iload_n 2, 1) := by decide +kernel
theorem dX10_zeta_248 : decode cX10_zeta 248 = .ok (.laload, 1) := by decide +kernel
theorem dX10_zeta_249 : decode cX10_zeta 249 = .ok (.lreturn, 1) := by decide +kernel
set_option maxRecDepth 20000 in
theorem ggX10_steps_X10_refusal : GoodIn wsX10_steps wsX10_refusal := goodIn_r _ [8, 9, 10, 11, 7, 12, 13, 14, 15, 16, 17, 18, 19, 20, 21, 22, 23, 24, 25, 26, 27, 28, 29, 30, 31, 32, 53, 54, 55, 56, 57, 58, 59, 60, 61, 62, 63, 64, 65, 66, 67, 68, 69, 70, 71, 72, 73, 74, 75, 76, 77, 78, 79, 80, 81, 82] (by decide +kernel) (by decide +kernel)
set_option maxRecDepth 20000 in
theorem gX10_steps_X10_refusal : GoodIn wsX10_steps (wsV RX10 300 RX10 yX10_refusal wsX10_refusal) := goodIn_app (goodIn_of _ (by decide +kernel)) ggX10_steps_X10_refusal
set_option maxRecDepth 20000 in
theorem ggX10_steps_X10_between : GoodIn wsX10_steps wsX10_between := goodIn_r _ [36, 37, 38, 39, 7, 40, 41, 42, 43, 44, 18, 45, 46, 47, 48, 49, 50, 51, 52, 22, 23, 24, 29, 30, 31, 32, 53, 54, 55, 56, 57, 58, 59, 60, 61, 62, 63, 64, 65, 66, 67, 68, 69, 70, 71, 72, 73, 74, 75, 76, 77, 78, 79, 80, 81, 82] (by decide +kernel) (by decide +kernel)
set_option maxRecDepth 20000 in
theorem gX10_steps_X10_between : GoodIn wsX10_steps (wsV RX10 288 RX10 yX10_between wsX10_between) := goodIn_app (goodIn_of _ (by decide +kernel)) ggX10_steps_X10_between
set_option maxRecDepth 20000 in
theorem ggX10_steps_X10_has : GoodIn wsX10_steps wsX10_has := goodIn_r _ [24] (by decide +kernel) (by decide +kernel)
set_option maxRecDepth 20000 in
theorem gX10_steps_X10_has : GoodIn wsX10_steps (va_wsS RX10 91 yX10_has wsX10_has) := goodIn_app (goodIn_of _ (by decide +kernel)) ggX10_steps_X10_has
set_option maxRecDepth 20000 in
theorem ggX10_steps_X10_below : GoodIn wsX10_steps wsX10_below := goodIn_r _ [52, 18, 22, 23, 7, 24, 29, 30, 31, 32, 53, 54, 55, 56, 57, 58, 59, 60, 61, 62, 63, 64, 65, 66, 67, 68, 69, 70, 71, 72, 73, 74, 75, 76, 77, 78, 79, 80, 81, 82] (by decide +kernel) (by decide +kernel)
set_option maxRecDepth 20000 in
theorem gX10_steps_X10_below : GoodIn wsX10_steps (wsV RX10 106 RX10 yX10_below wsX10_below) := goodIn_app (goodIn_of _ (by decide +kernel)) ggX10_steps_X10_below
theorem dX10_steps_0 : decode cX10_steps 0 = .ok (.aload_n 0, 1) := by decide +kernel
theorem dX10_steps_1 : decode cX10_steps 1 = .ok (.iconst 0, 1) := by decide +kernel
theorem dX10_steps_2 : decode cX10_steps 2 = .ok (.putfield 82, 3) := by decide +kernel
theorem dX10_steps_5 : decode cX10_steps 5 = .ok (.iload_n 3, 1) := by decide +kernel
theorem dX10_steps_6 : decode cX10_steps 6 = .ok (.ifCond .lt 12, 3) := by decide +kernel
theorem dX10_steps_9 : decode cX10_steps 9 = .ok (.aload_n 0, 1) := by decide +kernel
theorem dX10_steps_10 : decode cX10_steps 10 = .ok (.iload_n 1, 1) := by decide +kernel
theorem dX10_steps_11 : decode cX10_steps 11 = .ok (.iload_n 2, 1) := by decide +kernel
theorem dX10_steps_12 : decode cX10_steps 12 = .ok (.invokevirtual 300, 3) := by decide +kernel
theorem dX10_steps_15 : decode cX10_steps 15 = .ok (.goto 4, 3) := by decide +kernel
theorem dX10_steps_18 : decode cX10_steps 18 = .ok (.iconst (-1), 1) := by decide +kernel
theorem dX10_steps_19 : decode cX10_steps 19 = .ok (.istore 4, 2) := by decide +kernel
theorem dX10_steps_21 : decode cX10_steps 21 = .ok (.iload 4, 2) := by decide +kernel
theorem dX10_steps_23 : decode cX10_steps 23 = .ok (.ifCond .ge 6, 3) := by decide +kernel
theorem dX10_steps_26 : decode cX10_steps 26 = .ok (.iload 4, 2) := by decide +kernel
theorem dX10_steps_28 : decode cX10_steps 28 = .ok (.ireturn, 1) := by decide +kernel
theorem dX10_steps_29 : decode cX10_steps 29 = .ok (.aload_n 0, 1) := by decide +kernel
theorem dX10_steps_30 : decode cX10_steps 30 = .ok (.iload_n 1, 1) := by decide +kernel
theorem dX10_steps_31 : decode cX10_steps 31 = .ok (.iload_n 2, 1) := by decide +kernel
theorem dX10_steps_32 : decode cX10_steps 32 = .ok (.invokevirtual 288, 3) := by decide +kernel
theorem dX10_steps_35 : decode cX10_steps 35 = .ok (.istore 5, 2) := by decide +kernel
theorem dX10_steps_37 : decode cX10_steps 37 = .ok (.iconst 0, 1) := by decide +kernel
theorem dX10_steps_38 : decode cX10_steps 38 = .ok (.istore 6, 2) := by decide +kernel
theorem dX10_steps_40 : decode cX10_steps 40 = .ok (.iload 6, 2) := by decide +kernel
theorem dX10_steps_42 : decode cX10_steps 42 = .ok (.bipush 9, 2) := by decide +kernel
theorem dX10_steps_44 : decode cX10_steps 44 = .ok (.if_icmp .ge 27, 3) := by decide +kernel
theorem dX10_steps_47 : decode cX10_steps 47 = .ok (.aload_n 0, 1) := by decide +kernel
theorem dX10_steps_48 : decode cX10_steps 48 = .ok (.getfield 54, 3) := by decide +kernel
theorem dX10_steps_51 : decode cX10_steps 51 = .ok (.iload 6, 2) := by decide +kernel
theorem dX10_steps_53 : decode cX10_steps 53 = .ok (.iload 6, 2) := by decide +kernel
theorem dX10_steps_55 : decode cX10_steps 55 = .ok (.iload_n 1, 1) := by decide +kernel
theorem dX10_steps_56 : decode cX10_steps 56 = .ok (.if_icmp .ne 7, 3) := by decide +kernel
theorem dX10_steps_59 : decode cX10_steps 59 = .ok (.iconst 1, 1) := by decide +kernel
theorem dX10_steps_60 : decode cX10_steps 60 = .ok (.goto 4, 3) := by decide +kernel
theorem dX10_steps_63 : decode cX10_steps 63 = .ok (.iconst 0, 1) := by decide +kernel
theorem dX10_steps_64 : decode cX10_steps 64 = .ok (.iastore, 1) := by decide +kernel
theorem dX10_steps_65 : decode cX10_steps 65 = .ok (.iinc 6 1, 3) := by decide +kernel
theorem dX10_steps_68 : decode cX10_steps 68 = .ok (.goto (-28), 3) := by decide +kernel
theorem dX10_steps_71 : decode cX10_steps 71 = .ok (.iconst 0, 1) := by decide +kernel
theorem dX10_steps_72 : decode cX10_steps 72 = .ok (.istore 6, 2) := by decide +kernel
theorem dX10_steps_74 : decode cX10_steps 74 = .ok (.iload 6, 2) := by decide +kernel
theorem dX10_steps_76 : decode cX10_steps 76 = .ok (.iload_n 3, 1) := by decide +kernel
theorem dX10_steps_77 : decode cX10_steps 77 = .ok (.if_icmp .ge 134, 3) := by decide +kernel
theorem dX10_steps_80 : decode cX10_steps 80 = .ok (.iload 6, 2) := by decide +kernel
theorem dX10_steps_82 : decode cX10_steps 82 = .ok (.bipush 9, 2) := by decide +kernel
theorem dX10_steps_84 : decode cX10_steps 84 = .ok (.if_icmp .ge 127, 3) := by decide +kernel
theorem dX10_steps_87 : decode cX10_steps 87 = .ok (.iconst 0, 1) := by decide +kernel
theorem dX10_steps_88 : decode cX10_steps 88 = .ok (.istore 7, 2) := by decide +kernel
theorem dX10_steps_90 : decode cX10_steps 90 = .ok (.iload 7, 2) := by decide +kernel
theorem dX10_steps_92 : decode cX10_steps 92 = .ok (.bipush 9, 2) := by decide +kernel
theorem dX10_steps_94 : decode cX10_steps 94 = .ok (.if_icmp .ge 81, 3) := by decide +kernel
theorem dX10_steps_97 : decode cX10_steps 97 = .ok (.aload_n 0, 1) := by decide +kernel
theorem dX10_steps_98 : decode cX10_steps 98 = .ok (.getfield 39, 3) := by decide +kernel
theorem dX10_steps_101 : decode cX10_steps 101 = .ok (.iload 7, 2) := by decide +kernel
theorem dX10_steps_103 : decode cX10_steps 103 = .ok (.iconst 0, 1) := by decide +kernel
theorem dX10_steps_104 : decode cX10_steps 104 = .ok (.iastore, 1) := by decide +kernel
theorem dX10_steps_105 : decode cX10_steps 105 = .ok (.iconst 0, 1) := by decide +kernel
theorem dX10_steps_106 : decode cX10_steps 106 = .ok (.istore 8, 2) := by decide +kernel
theorem dX10_steps_108 : decode cX10_steps 108 = .ok (.iload 8, 2) := by decide +kernel
theorem dX10_steps_110 : decode cX10_steps 110 = .ok (.bipush 9, 2) := by decide +kernel
theorem dX10_steps_112 : decode cX10_steps 112 = .ok (.if_icmp .ge 57, 3) := by decide +kernel
theorem dX10_steps_115 : decode cX10_steps 115 = .ok (.iload 5, 2) := by decide +kernel
theorem dX10_steps_117 : decode cX10_steps 117 = .ok (.iload 7, 2) := by decide +kernel
theorem dX10_steps_119 : decode cX10_steps 119 = .ok (.invokestatic 91, 3) := by decide +kernel
theorem dX10_steps_122 : decode cX10_steps 122 = .ok (.ifCond .eq 47, 3) := by decide +kernel
theorem dX10_steps_125 : decode cX10_steps 125 = .ok (.aload_n 0, 1) := by decide +kernel
theorem dX10_steps_126 : decode cX10_steps 126 = .ok (.getfield 39, 3) := by decide +kernel
theorem dX10_steps_129 : decode cX10_steps 129 = .ok (.iload 7, 2) := by decide +kernel
theorem dX10_steps_131 : decode cX10_steps 131 = .ok (.dup2, 1) := by decide +kernel
theorem dX10_steps_132 : decode cX10_steps 132 = .ok (.iaload, 1) := by decide +kernel
theorem dX10_steps_133 : decode cX10_steps 133 = .ok (.iload 5, 2) := by decide +kernel
theorem dX10_steps_135 : decode cX10_steps 135 = .ok (.aload_n 0, 1) := by decide +kernel
theorem dX10_steps_136 : decode cX10_steps 136 = .ok (.iload 7, 2) := by decide +kernel
theorem dX10_steps_138 : decode cX10_steps 138 = .ok (.invokevirtual 106, 3) := by decide +kernel
theorem dX10_steps_141 : decode cX10_steps 141 = .ok (.iand, 1) := by decide +kernel
theorem dX10_steps_142 : decode cX10_steps 142 = .ok (.iload 8, 2) := by decide +kernel
theorem dX10_steps_144 : decode cX10_steps 144 = .ok (.invokestatic 91, 3) := by decide +kernel
theorem dX10_steps_147 : decode cX10_steps 147 = .ok (.ifCond .eq 13, 3) := by decide +kernel
theorem dX10_steps_150 : decode cX10_steps 150 = .ok (.aload_n 0, 1) := by decide +kernel
theorem dX10_steps_151 : decode cX10_steps 151 = .ok (.getfield 54, 3) := by decide +kernel
theorem dX10_steps_154 : decode cX10_steps 154 = .ok (.iload 8, 2) := by decide +kernel
theorem dX10_steps_156 : decode cX10_steps 156 = .ok (.iaload, 1) := by decide +kernel
theorem dX10_steps_157 : decode cX10_steps 157 = .ok (.goto 4, 3) := by decide +kernel
theorem dX10_steps_160 : decode cX10_steps 160 = .ok (.iconst 0, 1) := by decide +kernel
theorem dX10_steps_161 : decode cX10_steps 161 = .ok (.iadd, 1) := by decide +kernel
theorem dX10_steps_162 : decode cX10_steps 162 = .ok (.iastore, 1) := by decide +kernel
theorem dX10_steps_163 : decode cX10_steps 163 = .ok (.iinc 8 1, 3) := by decide +kernel
theorem dX10_steps_166 : decode cX10_steps 166 = .ok (.goto (-58), 3) := by decide +kernel
theorem dX10_steps_169 : decode cX10_steps 169 = .ok (.iinc 7 1, 3) := by decide +kernel
theorem dX10_steps_172 : decode cX10_steps 172 = .ok (.goto (-82), 3) := by decide +kernel
theorem dX10_steps_175 : decode cX10_steps 175 = .ok (.iconst 0, 1) := by decide +kernel
theorem dX10_steps_176 : decode cX10_steps 176 = .ok (.istore 7, 2) := by decide +kernel
theorem dX10_steps_178 : decode cX10_steps 178 = .ok (.iload 7, 2) := by decide +kernel
theorem dX10_steps_180 : decode cX10_steps 180 = .ok (.bipush 9, 2) := by decide +kernel
theorem dX10_steps_182 : decode cX10_steps 182 = .ok (.if_icmp .ge 23, 3) := by decide +kernel
theorem dX10_steps_185 : decode cX10_steps 185 = .ok (.aload_n 0, 1) := by decide +kernel
theorem dX10_steps_186 : decode cX10_steps 186 = .ok (.getfield 54, 3) := by decide +kernel
theorem dX10_steps_189 : decode cX10_steps 189 = .ok (.iload 7, 2) := by decide +kernel
theorem dX10_steps_191 : decode cX10_steps 191 = .ok (.aload_n 0, 1) := by decide +kernel
theorem dX10_steps_192 : decode cX10_steps 192 = .ok (.getfield 39, 3) := by decide +kernel
theorem dX10_steps_195 : decode cX10_steps 195 = .ok (.iload 7, 2) := by decide +kernel
theorem dX10_steps_197 : decode cX10_steps 197 = .ok (.iaload, 1) := by decide +kernel
theorem dX10_steps_198 : decode cX10_steps 198 = .ok (.iastore, 1) := by decide +kernel
theorem dX10_steps_199 : decode cX10_steps 199 = .ok (.iinc 7 1, 3) := by decide +kernel
theorem dX10_steps_202 : decode cX10_steps 202 = .ok (.goto (-24), 3) := by decide +kernel
theorem dX10_steps_205 : decode cX10_steps 205 = .ok (.iinc 6 1, 3) := by decide +kernel
theorem dX10_steps_208 : decode cX10_steps 208 = .ok (.goto (-134), 3) := by decide +kernel
theorem dX10_steps_211 : decode cX10_steps 211 = .ok (.aload_n 0, 1) := by decide +kernel
theorem dX10_steps_212 : decode cX10_steps 212 = .ok (.getfield 54, 3) := by decide +kernel
theorem dX10_steps_215 : decode cX10_steps 215 = .ok (.iload_n 2, 1) := by decide +kernel
theorem dX10_steps_216 : decode cX10_steps 216 = .ok (.iaload, 1) := by decide +kernel
theorem dX10_steps_217 : decode cX10_steps 217 = .ok (.ireturn, 1) := by decide +kernel
set_option maxRecDepth 20000 in
theorem ggX10_isFace_X10_has : GoodIn wsX10_isFace wsX10_has := goodIn_r _ [4] (by decide +kernel) (by decide +kernel)
set_option maxRecDepth 20000 in
theorem gX10_isFace_X10_has : GoodIn wsX10_isFace (va_wsS RX10 91 yX10_has wsX10_has) := goodIn_app (goodIn_of _ (by decide +kernel)) ggX10_isFace_X10_has
set_option maxRecDepth 20000 in
theorem ggX10_isFace_X10_upTo : GoodIn wsX10_isFace wsX10_upTo := goodIn_r _ [8, 9, 10, 11, 3, 12, 13, 22, 23, 24, 25, 26, 27, 28, 29, 30, 31, 32, 33, 34, 35, 36, 37, 38, 39, 40, 41, 42, 43, 44, 45, 46, 47, 48, 49, 50, 51] (by decide +kernel) (by decide +kernel)
set_option maxRecDepth 20000 in
theorem gX10_isFace_X10_upTo : GoodIn wsX10_isFace (wsV RX10 228 RX10 yX10_upTo wsX10_upTo) := goodIn_app (goodIn_of _ (by decide +kernel)) ggX10_isFace_X10_upTo
set_option maxRecDepth 20000 in
theorem ggX10_isFace_X10_below : GoodIn wsX10_isFace wsX10_below := goodIn_r _ [17, 13, 1, 2, 3, 4, 18, 19, 20, 21, 22, 23, 24, 25, 26, 27, 28, 29, 30, 31, 32, 33, 34, 35, 36, 37, 38, 39, 40, 41, 42, 43, 44, 45, 46, 47, 48, 49, 50, 51] (by decide +kernel) (by decide +kernel)
set_option maxRecDepth 20000 in
theorem gX10_isFace_X10_below : GoodIn wsX10_isFace (wsV RX10 106 RX10 yX10_below wsX10_below) := goodIn_app (goodIn_of _ (by decide +kernel)) ggX10_isFace_X10_below
theorem dX10_isFace_0 : decode cX10_isFace 0 = .ok (.iconst 0, 1) := by decide +kernel
theorem dX10_isFace_1 : decode cX10_isFace 1 = .ok (.istore_n 2, 1) := by decide +kernel
theorem dX10_isFace_2 : decode cX10_isFace 2 = .ok (.iload_n 2, 1) := by decide +kernel
theorem dX10_isFace_3 : decode cX10_isFace 3 = .ok (.bipush 9, 2) := by decide +kernel
theorem dX10_isFace_5 : decode cX10_isFace 5 = .ok (.if_icmp .ge 37, 3) := by decide +kernel
theorem dX10_isFace_8 : decode cX10_isFace 8 = .ok (.iload_n 1, 1) := by decide +kernel
theorem dX10_isFace_9 : decode cX10_isFace 9 = .ok (.iload_n 2, 1) := by decide +kernel
theorem dX10_isFace_10 : decode cX10_isFace 10 = .ok (.invokestatic 91, 3) := by decide +kernel
theorem dX10_isFace_13 : decode cX10_isFace 13 = .ok (.ifCond .eq 23, 3) := by decide +kernel
theorem dX10_isFace_16 : decode cX10_isFace 16 = .ok (.iload_n 1, 1) := by decide +kernel
theorem dX10_isFace_17 : decode cX10_isFace 17 = .ok (.aload_n 0, 1) := by decide +kernel
theorem dX10_isFace_18 : decode cX10_isFace 18 = .ok (.iload_n 2, 1) := by decide +kernel
theorem dX10_isFace_19 : decode cX10_isFace 19 = .ok (.invokevirtual 228, 3) := by decide +kernel
theorem dX10_isFace_22 : decode cX10_isFace 22 = .ok (.aload_n 0, 1) := by decide +kernel
theorem dX10_isFace_23 : decode cX10_isFace 23 = .ok (.iload_n 2, 1) := by decide +kernel
theorem dX10_isFace_24 : decode cX10_isFace 24 = .ok (.invokevirtual 106, 3) := by decide +kernel
theorem dX10_isFace_27 : decode cX10_isFace 27 = .ok (.ior, 1) := by decide +kernel
theorem dX10_isFace_28 : decode cX10_isFace 28 = .ok (.iconst (-1), 1) := by decide +kernel
theorem dX10_isFace_29 : decode cX10_isFace 29 = .ok (.ixor, 1) := by decide +kernel
theorem dX10_isFace_30 : decode cX10_isFace 30 = .ok (.iand, 1) := by decide +kernel
theorem dX10_isFace_31 : decode cX10_isFace 31 = .ok (.ifCond .eq 5, 3) := by decide +kernel
theorem dX10_isFace_34 : decode cX10_isFace 34 = .ok (.iconst 0, 1) := by decide +kernel
theorem dX10_isFace_35 : decode cX10_isFace 35 = .ok (.ireturn, 1) := by decide +kernel
theorem dX10_isFace_36 : decode cX10_isFace 36 = .ok (.iinc 2 1, 3) := by decide +kernel
theorem dX10_isFace_39 : decode cX10_isFace 39 = .ok (.goto (-37), 3) := by decide +kernel
theorem dX10_isFace_42 : decode cX10_isFace 42 = .ok (.iconst 1, 1) := by decide +kernel
theorem dX10_isFace_43 : decode cX10_isFace 43 = .ok (.ireturn, 1) := by decide +kernel
set_option maxRecDepth 20000 in
theorem ggX10_layFaces_X10_bits : GoodIn wsX10_layFaces wsX10_bits := goodIn_r _ [4] (by decide +kernel) (by decide +kernel)
set_option maxRecDepth 20000 in
theorem gX10_layFaces_X10_bits : GoodIn wsX10_layFaces (va_wsS RX10 194 yX10_bits wsX10_bits) := goodIn_app (goodIn_of _ (by decide +kernel)) ggX10_layFaces_X10_bits
set_option maxRecDepth 20000 in
theorem ggX10_layFaces_X10_isFace : GoodIn wsX10_layFaces wsX10_isFace := goodIn_r _ [8, 9, 10, 3, 11, 12, 13, 14, 15, 16, 17, 18, 19, 20, 21, 22, 23, 24, 25, 26, 27, 28, 29, 30, 31, 32, 33, 34, 35, 36, 37, 38, 39, 40, 41, 42, 43, 44, 45, 46, 47, 48, 49, 50, 51, 52, 53, 54, 55, 56, 57, 58] (by decide +kernel) (by decide +kernel)
set_option maxRecDepth 20000 in
theorem gX10_layFaces_X10_isFace : GoodIn wsX10_layFaces (wsV RX10 341 RX10 yX10_isFace wsX10_isFace) := goodIn_app (goodIn_of _ (by decide +kernel)) ggX10_layFaces_X10_isFace
theorem dX10_layFaces_0 : decode cX10_layFaces 0 = .ok (.iconst 0, 1) := by decide +kernel
theorem dX10_layFaces_1 : decode cX10_layFaces 1 = .ok (.istore 4, 2) := by decide +kernel
theorem dX10_layFaces_3 : decode cX10_layFaces 3 = .ok (.iconst 0, 1) := by decide +kernel
theorem dX10_layFaces_4 : decode cX10_layFaces 4 = .ok (.istore 5, 2) := by decide +kernel
theorem dX10_layFaces_6 : decode cX10_layFaces 6 = .ok (.iload 5, 2) := by decide +kernel
theorem dX10_layFaces_8 : decode cX10_layFaces 8 = .ok (.sipush 512, 3) := by decide +kernel
theorem dX10_layFaces_11 : decode cX10_layFaces 11 = .ok (.if_icmp .ge 45, 3) := by decide +kernel
theorem dX10_layFaces_14 : decode cX10_layFaces 14 = .ok (.iload 5, 2) := by decide +kernel
theorem dX10_layFaces_16 : decode cX10_layFaces 16 = .ok (.iload_n 2, 1) := by decide +kernel
theorem dX10_layFaces_17 : decode cX10_layFaces 17 = .ok (.iconst (-1), 1) := by decide +kernel
theorem dX10_layFaces_18 : decode cX10_layFaces 18 = .ok (.ixor, 1) := by decide +kernel
theorem dX10_layFaces_19 : decode cX10_layFaces 19 = .ok (.iand, 1) := by decide +kernel
theorem dX10_layFaces_20 : decode cX10_layFaces 20 = .ok (.ifCond .ne 30, 3) := by decide +kernel
theorem dX10_layFaces_23 : decode cX10_layFaces 23 = .ok (.iload 5, 2) := by decide +kernel
theorem dX10_layFaces_25 : decode cX10_layFaces 25 = .ok (.invokestatic 194, 3) := by decide +kernel
theorem dX10_layFaces_28 : decode cX10_layFaces 28 = .ok (.iload_n 3, 1) := by decide +kernel
theorem dX10_layFaces_29 : decode cX10_layFaces 29 = .ok (.if_icmp .ne 21, 3) := by decide +kernel
theorem dX10_layFaces_32 : decode cX10_layFaces 32 = .ok (.aload_n 0, 1) := by decide +kernel
theorem dX10_layFaces_33 : decode cX10_layFaces 33 = .ok (.iload 5, 2) := by decide +kernel
theorem dX10_layFaces_35 : decode cX10_layFaces 35 = .ok (.invokevirtual 341, 3) := by decide +kernel
theorem dX10_layFaces_38 : decode cX10_layFaces 38 = .ok (.ifCond .eq 12, 3) := by decide +kernel
theorem dX10_layFaces_41 : decode cX10_layFaces 41 = .ok (.aload_n 1, 1) := by decide +kernel
theorem dX10_layFaces_42 : decode cX10_layFaces 42 = .ok (.iload 4, 2) := by decide +kernel
theorem dX10_layFaces_44 : decode cX10_layFaces 44 = .ok (.iload 5, 2) := by decide +kernel
theorem dX10_layFaces_46 : decode cX10_layFaces 46 = .ok (.iastore, 1) := by decide +kernel
theorem dX10_layFaces_47 : decode cX10_layFaces 47 = .ok (.iinc 4 1, 3) := by decide +kernel
theorem dX10_layFaces_50 : decode cX10_layFaces 50 = .ok (.iinc 5 1, 3) := by decide +kernel
theorem dX10_layFaces_53 : decode cX10_layFaces 53 = .ok (.goto (-47), 3) := by decide +kernel
theorem dX10_layFaces_56 : decode cX10_layFaces 56 = .ok (.iload 4, 2) := by decide +kernel
theorem dX10_layFaces_58 : decode cX10_layFaces 58 = .ok (.ireturn, 1) := by decide +kernel
set_option maxRecDepth 20000 in
theorem ggX10_inner_X10_between : GoodIn wsX10_inner wsX10_between := goodIn_r _ [5, 6, 7, 8, 4, 9, 10, 11, 12, 13, 14, 15, 16, 17, 18, 19, 20, 21, 22, 23, 24, 25, 26, 27, 28, 29, 30, 31, 32, 33, 34, 35, 36, 37, 38, 39, 40, 41, 42, 43, 44, 45, 46, 47, 48, 49, 50, 51, 52, 53, 54, 55, 56, 57, 58, 59] (by decide +kernel) (by decide +kernel)
set_option maxRecDepth 20000 in
theorem gX10_inner_X10_between : GoodIn wsX10_inner (wsV RX10 288 RX10 yX10_between wsX10_between) := goodIn_app (goodIn_of _ (by decide +kernel)) ggX10_inner_X10_between
theorem dX10_inner_0 : decode cX10_inner 0 = .ok (.aload_n 0, 1) := by decide +kernel
theorem dX10_inner_1 : decode cX10_inner 1 = .ok (.iload_n 1, 1) := by decide +kernel
theorem dX10_inner_2 : decode cX10_inner 2 = .ok (.iload_n 2, 1) := by decide +kernel
theorem dX10_inner_3 : decode cX10_inner 3 = .ok (.invokevirtual 288, 3) := by decide +kernel
theorem dX10_inner_6 : decode cX10_inner 6 = .ok (.iconst 1, 1) := by decide +kernel
theorem dX10_inner_7 : decode cX10_inner 7 = .ok (.iload_n 1, 1) := by decide +kernel
theorem dX10_inner_8 : decode cX10_inner 8 = .ok (.ishl, 1) := by decide +kernel
theorem dX10_inner_9 : decode cX10_inner 9 = .ok (.iconst 1, 1) := by decide +kernel
theorem dX10_inner_10 : decode cX10_inner 10 = .ok (.iload_n 2, 1) := by decide +kernel
theorem dX10_inner_11 : decode cX10_inner 11 = .ok (.ishl, 1) := by decide +kernel
theorem dX10_inner_12 : decode cX10_inner 12 = .ok (.ior, 1) := by decide +kernel
theorem dX10_inner_13 : decode cX10_inner 13 = .ok (.iconst (-1), 1) := by decide +kernel
theorem dX10_inner_14 : decode cX10_inner 14 = .ok (.ixor, 1) := by decide +kernel
theorem dX10_inner_15 : decode cX10_inner 15 = .ok (.iand, 1) := by decide +kernel
theorem dX10_inner_16 : decode cX10_inner 16 = .ok (.ireturn, 1) := by decide +kernel
set_option maxRecDepth 20000 in
theorem ggX10_noInner_X10_refusal : GoodIn wsX10_noInner wsX10_refusal := goodIn_r _ [5, 6, 7, 8, 4, 9, 10, 11, 12, 13, 14, 15, 16, 17, 18, 19, 20, 21, 22, 23, 24, 25, 26, 27, 28, 29, 30, 31, 32, 33, 34, 35, 36, 37, 38, 39, 40, 41, 42, 43, 44, 45, 46, 47, 48, 49, 50, 51, 52, 53, 54, 55, 56, 57, 58, 59] (by decide +kernel) (by decide +kernel)
set_option maxRecDepth 20000 in
theorem gX10_noInner_X10_refusal : GoodIn wsX10_noInner (wsV RX10 300 RX10 yX10_refusal wsX10_refusal) := goodIn_app (goodIn_of _ (by decide +kernel)) ggX10_noInner_X10_refusal
theorem dX10_noInner_0 : decode cX10_noInner 0 = .ok (.iload_n 3, 1) := by decide +kernel
theorem dX10_noInner_1 : decode cX10_noInner 1 = .ok (.ifCond .eq 12, 3) := by decide +kernel
theorem dX10_noInner_4 : decode cX10_noInner 4 = .ok (.aload_n 0, 1) := by decide +kernel
theorem dX10_noInner_5 : decode cX10_noInner 5 = .ok (.iload_n 1, 1) := by decide +kernel
theorem dX10_noInner_6 : decode cX10_noInner 6 = .ok (.iload_n 2, 1) := by decide +kernel
theorem dX10_noInner_7 : decode cX10_noInner 7 = .ok (.invokevirtual 300, 3) := by decide +kernel
theorem dX10_noInner_10 : decode cX10_noInner 10 = .ok (.goto 4, 3) := by decide +kernel
theorem dX10_noInner_13 : decode cX10_noInner 13 = .ok (.iconst (-1), 1) := by decide +kernel
theorem dX10_noInner_14 : decode cX10_noInner 14 = .ok (.istore 4, 2) := by decide +kernel
theorem dX10_noInner_16 : decode cX10_noInner 16 = .ok (.iload 4, 2) := by decide +kernel
theorem dX10_noInner_18 : decode cX10_noInner 18 = .ok (.ifCond .ne 13, 3) := by decide +kernel
theorem dX10_noInner_21 : decode cX10_noInner 21 = .ok (.iload_n 1, 1) := by decide +kernel
theorem dX10_noInner_22 : decode cX10_noInner 22 = .ok (.iload_n 2, 1) := by decide +kernel
theorem dX10_noInner_23 : decode cX10_noInner 23 = .ok (.if_icmp .ne 8, 3) := by decide +kernel
theorem dX10_noInner_26 : decode cX10_noInner 26 = .ok (.bipush (-2), 2) := by decide +kernel
theorem dX10_noInner_28 : decode cX10_noInner 28 = .ok (.goto 5, 3) := by decide +kernel
theorem dX10_noInner_31 : decode cX10_noInner 31 = .ok (.iload 4, 2) := by decide +kernel
theorem dX10_noInner_33 : decode cX10_noInner 33 = .ok (.ireturn, 1) := by decide +kernel
theorem dX10_sizeOf_0 : decode cX10_sizeOf 0 = .ok (.iload_n 0, 1) := by decide +kernel
theorem dX10_sizeOf_1 : decode cX10_sizeOf 1 = .ok (.bipush 9, 2) := by decide +kernel
theorem dX10_sizeOf_3 : decode cX10_sizeOf 3 = .ok (.if_icmp .ge 9, 3) := by decide +kernel
theorem dX10_sizeOf_6 : decode cX10_sizeOf 6 = .ok (.iload_n 0, 1) := by decide +kernel
theorem dX10_sizeOf_7 : decode cX10_sizeOf 7 = .ok (.iconst 1, 1) := by decide +kernel
theorem dX10_sizeOf_8 : decode cX10_sizeOf 8 = .ok (.iadd, 1) := by decide +kernel
theorem dX10_sizeOf_9 : decode cX10_sizeOf 9 = .ok (.goto 5, 3) := by decide +kernel
theorem dX10_sizeOf_12 : decode cX10_sizeOf 12 = .ok (.bipush 9, 2) := by decide +kernel
theorem dX10_sizeOf_14 : decode cX10_sizeOf 14 = .ok (.ireturn, 1) := by decide +kernel
set_option maxRecDepth 20000 in
theorem ggX10_faces_X10_noInner : GoodIn wsX10_faces wsX10_noInner := goodIn_r _ [7, 8, 9, 10, 6, 11, 12, 13, 14, 15, 16, 17, 18, 19, 20, 21, 22, 23, 24, 25, 26, 27, 28, 29, 30, 31, 32, 33, 34, 35, 74, 75, 76, 77, 78, 79, 80, 81, 82, 83, 84, 85, 86, 87, 88, 89, 90, 91, 92, 93, 94, 95, 96, 97, 98, 99, 100, 101, 102, 103] (by decide +kernel) (by decide +kernel)
set_option maxRecDepth 20000 in
theorem gX10_faces_X10_noInner : GoodIn wsX10_faces (wsV RX10 344 RX10 yX10_noInner wsX10_noInner) := goodIn_app (goodIn_of _ (by decide +kernel)) ggX10_faces_X10_noInner
set_option maxRecDepth 20000 in
theorem ggX10_faces_X10_inner : GoodIn wsX10_faces wsX10_inner := goodIn_r _ [39, 40, 41, 42, 6, 43, 44, 45, 46, 47, 48, 49, 50, 51, 21, 52, 53, 54, 55, 56, 57, 58, 59, 25, 26, 27, 32, 33, 34, 35, 74, 75, 76, 77, 78, 79, 80, 81, 82, 83, 84, 85, 86, 87, 88, 89, 90, 91, 92, 93, 94, 95, 96, 97, 98, 99, 100, 101, 102, 103] (by decide +kernel) (by decide +kernel)
set_option maxRecDepth 20000 in
theorem gX10_faces_X10_inner : GoodIn wsX10_faces (wsV RX10 348 RX10 yX10_inner wsX10_inner) := goodIn_app (goodIn_of _ (by decide +kernel)) ggX10_faces_X10_inner
set_option maxRecDepth 20000 in
theorem ggX10_faces_X10_sizeOf : GoodIn wsX10_faces wsX10_sizeOf := goodIn_r _ [62] (by decide +kernel) (by decide +kernel)
set_option maxRecDepth 20000 in
theorem gX10_faces_X10_sizeOf : GoodIn wsX10_faces (va_wsS RX10 351 yX10_sizeOf wsX10_sizeOf) := goodIn_app (goodIn_of _ (by decide +kernel)) ggX10_faces_X10_sizeOf
set_option maxRecDepth 20000 in
theorem ggX10_faces_X10_layFaces : GoodIn wsX10_faces wsX10_layFaces := goodIn_r _ [66, 67, 68, 6, 69, 70, 71, 72, 73, 25, 26, 27, 44, 45, 46, 47, 48, 49, 50, 51, 21, 56, 57, 58, 59, 32, 33, 34, 35, 74, 75, 76, 77, 78, 79, 80, 81, 82, 83, 84, 85, 86, 87, 88, 89, 90, 91, 92, 93, 94, 95, 96, 97, 98, 99, 100, 101, 102, 103] (by decide +kernel) (by decide +kernel)
set_option maxRecDepth 20000 in
theorem gX10_faces_X10_layFaces : GoodIn wsX10_faces (wsV RX10 354 RX10 yX10_layFaces wsX10_layFaces) := goodIn_app (goodIn_of _ (by decide +kernel)) ggX10_faces_X10_layFaces
theorem dX10_faces_0 : decode cX10_faces 0 = .ok (.aload_n 0, 1) := by decide +kernel
theorem dX10_faces_1 : decode cX10_faces 1 = .ok (.iconst 0, 1) := by decide +kernel
theorem dX10_faces_2 : decode cX10_faces 2 = .ok (.putfield 82, 3) := by decide +kernel
theorem dX10_faces_5 : decode cX10_faces 5 = .ok (.aload_n 0, 1) := by decide +kernel
theorem dX10_faces_6 : decode cX10_faces 6 = .ok (.iload_n 1, 1) := by decide +kernel
theorem dX10_faces_7 : decode cX10_faces 7 = .ok (.iload_n 2, 1) := by decide +kernel
theorem dX10_faces_8 : decode cX10_faces 8 = .ok (.iload_n 3, 1) := by decide +kernel
theorem dX10_faces_9 : decode cX10_faces 9 = .ok (.iconst (-1), 1) := by decide +kernel
theorem dX10_faces_10 : decode cX10_faces 10 = .ok (.if_icmp .lt 7, 3) := by decide +kernel
theorem dX10_faces_13 : decode cX10_faces 13 = .ok (.iconst 1, 1) := by decide +kernel
theorem dX10_faces_14 : decode cX10_faces 14 = .ok (.goto 4, 3) := by decide +kernel
theorem dX10_faces_17 : decode cX10_faces 17 = .ok (.iconst 0, 1) := by decide +kernel
theorem dX10_faces_18 : decode cX10_faces 18 = .ok (.invokevirtual 344, 3) := by decide +kernel
theorem dX10_faces_21 : decode cX10_faces 21 = .ok (.istore 4, 2) := by decide +kernel
theorem dX10_faces_23 : decode cX10_faces 23 = .ok (.iload 4, 2) := by decide +kernel
theorem dX10_faces_25 : decode cX10_faces 25 = .ok (.ifCond .ge 8, 3) := by decide +kernel
theorem dX10_faces_28 : decode cX10_faces 28 = .ok (.iload 4, 2) := by decide +kernel
theorem dX10_faces_30 : decode cX10_faces 30 = .ok (.goto 21, 3) := by decide +kernel
theorem dX10_faces_33 : decode cX10_faces 33 = .ok (.aload_n 0, 1) := by decide +kernel
theorem dX10_faces_34 : decode cX10_faces 34 = .ok (.aload_n 0, 1) := by decide +kernel
theorem dX10_faces_35 : decode cX10_faces 35 = .ok (.getfield 67, 3) := by decide +kernel
theorem dX10_faces_38 : decode cX10_faces 38 = .ok (.aload_n 0, 1) := by decide +kernel
theorem dX10_faces_39 : decode cX10_faces 39 = .ok (.iload_n 1, 1) := by decide +kernel
theorem dX10_faces_40 : decode cX10_faces 40 = .ok (.iload_n 2, 1) := by decide +kernel
theorem dX10_faces_41 : decode cX10_faces 41 = .ok (.invokevirtual 348, 3) := by decide +kernel
theorem dX10_faces_44 : decode cX10_faces 44 = .ok (.iload_n 3, 1) := by decide +kernel
theorem dX10_faces_45 : decode cX10_faces 45 = .ok (.invokestatic 351, 3) := by decide +kernel
theorem dX10_faces_48 : decode cX10_faces 48 = .ok (.invokevirtual 354, 3) := by decide +kernel
theorem dX10_faces_51 : decode cX10_faces 51 = .ok (.ireturn, 1) := by decide +kernel
set_option maxRecDepth 20000 in
theorem ggX10_rank_X10_layFaces : GoodIn wsX10_rank wsX10_layFaces := goodIn_r _ [8, 9, 10, 7, 11, 12, 13, 14, 15, 16, 17, 18, 19, 20, 21, 22, 23, 24, 25, 26, 27, 28, 29, 30, 31, 32, 33, 34, 35, 43, 44, 45, 46, 47, 48, 49, 50, 51, 52, 53, 54, 55, 56, 57, 58, 59, 60, 61, 62, 63, 64, 65, 66, 67, 68, 69, 70, 71, 72] (by decide +kernel) (by decide +kernel)
set_option maxRecDepth 20000 in
theorem gX10_rank_X10_layFaces : GoodIn wsX10_rank (wsV RX10 354 RX10 yX10_layFaces wsX10_layFaces) := goodIn_app (goodIn_of _ (by decide +kernel)) ggX10_rank_X10_layFaces
set_option maxRecDepth 20000 in
theorem ggX10_rank_X10_has : GoodIn wsX10_rank wsX10_has := goodIn_r _ [18] (by decide +kernel) (by decide +kernel)
set_option maxRecDepth 20000 in
theorem gX10_rank_X10_has : GoodIn wsX10_rank (va_wsS RX10 91 yX10_has wsX10_has) := goodIn_app (goodIn_of _ (by decide +kernel)) ggX10_rank_X10_has
set_option maxRecDepth 20000 in
theorem ggX10_rank_X10_below : GoodIn wsX10_rank wsX10_below := goodIn_r _ [31, 27, 16, 17, 7, 18, 32, 33, 34, 35, 43, 44, 45, 46, 47, 48, 49, 50, 51, 52, 53, 54, 55, 56, 57, 58, 59, 60, 61, 62, 63, 64, 65, 66, 67, 68, 69, 70, 71, 72] (by decide +kernel) (by decide +kernel)
set_option maxRecDepth 20000 in
theorem gX10_rank_X10_below : GoodIn wsX10_rank (wsV RX10 106 RX10 yX10_below wsX10_below) := goodIn_app (goodIn_of _ (by decide +kernel)) ggX10_rank_X10_below
set_option maxRecDepth 20000 in
theorem ggX10_rank_X10_bits : GoodIn wsX10_rank wsX10_bits := goodIn_r _ [11] (by decide +kernel) (by decide +kernel)
set_option maxRecDepth 20000 in
theorem gX10_rank_X10_bits : GoodIn wsX10_rank (va_wsS RX10 194 yX10_bits wsX10_bits) := goodIn_app (goodIn_of _ (by decide +kernel)) ggX10_rank_X10_bits
set_option maxRecDepth 20000 in
theorem ggX10_rank_X10_reduced : GoodIn wsX10_rank wsX10_reduced := goodIn_r _ [39, 3, 40, 41, 7, 42, 43, 44, 45, 46, 47, 48, 49, 50, 51, 52, 53, 54, 55, 56, 57, 58, 59, 60, 61, 62, 63, 64, 65, 66, 67, 68, 69, 70, 71, 72] (by decide +kernel) (by decide +kernel)
set_option maxRecDepth 20000 in
theorem gX10_rank_X10_reduced : GoodIn wsX10_rank (wsV RX10 358 RX10 yX10_reduced wsX10_reduced) := goodIn_app (goodIn_of _ (by decide +kernel)) ggX10_rank_X10_reduced
theorem dX10_rank_0 : decode cX10_rank 0 = .ok (.iload_n 2, 1) := by decide +kernel
theorem dX10_rank_1 : decode cX10_rank 1 = .ok (.ifCond .ne 5, 3) := by decide +kernel
theorem dX10_rank_4 : decode cX10_rank 4 = .ok (.iconst 0, 1) := by decide +kernel
theorem dX10_rank_5 : decode cX10_rank 5 = .ok (.ireturn, 1) := by decide +kernel
theorem dX10_rank_6 : decode cX10_rank 6 = .ok (.aload_n 0, 1) := by decide +kernel
theorem dX10_rank_7 : decode cX10_rank 7 = .ok (.aload_n 0, 1) := by decide +kernel
theorem dX10_rank_8 : decode cX10_rank 8 = .ok (.getfield 67, 3) := by decide +kernel
theorem dX10_rank_11 : decode cX10_rank 11 = .ok (.iload_n 1, 1) := by decide +kernel
theorem dX10_rank_12 : decode cX10_rank 12 = .ok (.iload_n 2, 1) := by decide +kernel
theorem dX10_rank_13 : decode cX10_rank 13 = .ok (.invokevirtual 354, 3) := by decide +kernel
theorem dX10_rank_16 : decode cX10_rank 16 = .ok (.istore 4, 2) := by decide +kernel
theorem dX10_rank_18 : decode cX10_rank 18 = .ok (.aload_n 0, 1) := by decide +kernel
theorem dX10_rank_19 : decode cX10_rank 19 = .ok (.aload_n 0, 1) := by decide +kernel
theorem dX10_rank_20 : decode cX10_rank 20 = .ok (.getfield 70, 3) := by decide +kernel
theorem dX10_rank_23 : decode cX10_rank 23 = .ok (.iload_n 1, 1) := by decide +kernel
theorem dX10_rank_24 : decode cX10_rank 24 = .ok (.iload_n 2, 1) := by decide +kernel
theorem dX10_rank_25 : decode cX10_rank 25 = .ok (.iconst 1, 1) := by decide +kernel
theorem dX10_rank_26 : decode cX10_rank 26 = .ok (.isub, 1) := by decide +kernel
theorem dX10_rank_27 : decode cX10_rank 27 = .ok (.invokevirtual 354, 3) := by decide +kernel
theorem dX10_rank_30 : decode cX10_rank 30 = .ok (.istore 5, 2) := by decide +kernel
theorem dX10_rank_32 : decode cX10_rank 32 = .ok (.iconst 0, 1) := by decide +kernel
theorem dX10_rank_33 : decode cX10_rank 33 = .ok (.istore 6, 2) := by decide +kernel
theorem dX10_rank_35 : decode cX10_rank 35 = .ok (.iload 6, 2) := by decide +kernel
theorem dX10_rank_37 : decode cX10_rank 37 = .ok (.iload 4, 2) := by decide +kernel
theorem dX10_rank_39 : decode cX10_rank 39 = .ok (.if_icmp .ge 167, 3) := by decide +kernel
theorem dX10_rank_42 : decode cX10_rank 42 = .ok (.iconst 0, 1) := by decide +kernel
theorem dX10_rank_43 : decode cX10_rank 43 = .ok (.istore 7, 2) := by decide +kernel
theorem dX10_rank_45 : decode cX10_rank 45 = .ok (.iload 7, 2) := by decide +kernel
theorem dX10_rank_47 : decode cX10_rank 47 = .ok (.iload 5, 2) := by decide +kernel
theorem dX10_rank_49 : decode cX10_rank 49 = .ok (.if_icmp .ge 151, 3) := by decide +kernel
theorem dX10_rank_52 : decode cX10_rank 52 = .ok (.aload_n 0, 1) := by decide +kernel
theorem dX10_rank_53 : decode cX10_rank 53 = .ok (.getfield 67, 3) := by decide +kernel
theorem dX10_rank_56 : decode cX10_rank 56 = .ok (.iload 6, 2) := by decide +kernel
theorem dX10_rank_58 : decode cX10_rank 58 = .ok (.iaload, 1) := by decide +kernel
theorem dX10_rank_59 : decode cX10_rank 59 = .ok (.aload_n 0, 1) := by decide +kernel
theorem dX10_rank_60 : decode cX10_rank 60 = .ok (.getfield 70, 3) := by decide +kernel
theorem dX10_rank_63 : decode cX10_rank 63 = .ok (.iload 7, 2) := by decide +kernel
theorem dX10_rank_65 : decode cX10_rank 65 = .ok (.iaload, 1) := by decide +kernel
theorem dX10_rank_66 : decode cX10_rank 66 = .ok (.iconst (-1), 1) := by decide +kernel
theorem dX10_rank_67 : decode cX10_rank 67 = .ok (.ixor, 1) := by decide +kernel
theorem dX10_rank_68 : decode cX10_rank 68 = .ok (.iand, 1) := by decide +kernel
theorem dX10_rank_69 : decode cX10_rank 69 = .ok (.istore 8, 2) := by decide +kernel
theorem dX10_rank_71 : decode cX10_rank 71 = .ok (.aload_n 0, 1) := by decide +kernel
theorem dX10_rank_72 : decode cX10_rank 72 = .ok (.getfield 70, 3) := by decide +kernel
theorem dX10_rank_75 : decode cX10_rank 75 = .ok (.iload 7, 2) := by decide +kernel
theorem dX10_rank_77 : decode cX10_rank 77 = .ok (.iaload, 1) := by decide +kernel
theorem dX10_rank_78 : decode cX10_rank 78 = .ok (.aload_n 0, 1) := by decide +kernel
theorem dX10_rank_79 : decode cX10_rank 79 = .ok (.getfield 67, 3) := by decide +kernel
theorem dX10_rank_82 : decode cX10_rank 82 = .ok (.iload 6, 2) := by decide +kernel
theorem dX10_rank_84 : decode cX10_rank 84 = .ok (.iaload, 1) := by decide +kernel
theorem dX10_rank_85 : decode cX10_rank 85 = .ok (.iconst (-1), 1) := by decide +kernel
theorem dX10_rank_86 : decode cX10_rank 86 = .ok (.ixor, 1) := by decide +kernel
theorem dX10_rank_87 : decode cX10_rank 87 = .ok (.iand, 1) := by decide +kernel
theorem dX10_rank_88 : decode cX10_rank 88 = .ok (.ifCond .ne 7, 3) := by decide +kernel
theorem dX10_rank_91 : decode cX10_rank 91 = .ok (.iconst 1, 1) := by decide +kernel
theorem dX10_rank_92 : decode cX10_rank 92 = .ok (.goto 4, 3) := by decide +kernel
theorem dX10_rank_95 : decode cX10_rank 95 = .ok (.iconst 0, 1) := by decide +kernel
theorem dX10_rank_96 : decode cX10_rank 96 = .ok (.istore 9, 2) := by decide +kernel
theorem dX10_rank_98 : decode cX10_rank 98 = .ok (.iconst 0, 1) := by decide +kernel
theorem dX10_rank_99 : decode cX10_rank 99 = .ok (.istore 10, 2) := by decide +kernel
theorem dX10_rank_101 : decode cX10_rank 101 = .ok (.iconst 0, 1) := by decide +kernel
theorem dX10_rank_102 : decode cX10_rank 102 = .ok (.istore 11, 2) := by decide +kernel
theorem dX10_rank_104 : decode cX10_rank 104 = .ok (.iload 11, 2) := by decide +kernel
theorem dX10_rank_106 : decode cX10_rank 106 = .ok (.bipush 9, 2) := by decide +kernel
theorem dX10_rank_108 : decode cX10_rank 108 = .ok (.if_icmp .ge 50, 3) := by decide +kernel
theorem dX10_rank_111 : decode cX10_rank 111 = .ok (.iload 9, 2) := by decide +kernel
theorem dX10_rank_113 : decode cX10_rank 113 = .ok (.ifCond .eq 45, 3) := by decide +kernel
theorem dX10_rank_116 : decode cX10_rank 116 = .ok (.iload 10, 2) := by decide +kernel
theorem dX10_rank_118 : decode cX10_rank 118 = .ok (.iload 8, 2) := by decide +kernel
theorem dX10_rank_120 : decode cX10_rank 120 = .ok (.iload 11, 2) := by decide +kernel
theorem dX10_rank_122 : decode cX10_rank 122 = .ok (.invokestatic 91, 3) := by decide +kernel
theorem dX10_rank_125 : decode cX10_rank 125 = .ok (.ifCond .eq 23, 3) := by decide +kernel
theorem dX10_rank_128 : decode cX10_rank 128 = .ok (.aload_n 0, 1) := by decide +kernel
theorem dX10_rank_129 : decode cX10_rank 129 = .ok (.iload 11, 2) := by decide +kernel
theorem dX10_rank_131 : decode cX10_rank 131 = .ok (.invokevirtual 106, 3) := by decide +kernel
theorem dX10_rank_134 : decode cX10_rank 134 = .ok (.aload_n 0, 1) := by decide +kernel
theorem dX10_rank_135 : decode cX10_rank 135 = .ok (.getfield 67, 3) := by decide +kernel
theorem dX10_rank_138 : decode cX10_rank 138 = .ok (.iload 6, 2) := by decide +kernel
theorem dX10_rank_140 : decode cX10_rank 140 = .ok (.iaload, 1) := by decide +kernel
theorem dX10_rank_141 : decode cX10_rank 141 = .ok (.iand, 1) := by decide +kernel
theorem dX10_rank_142 : decode cX10_rank 142 = .ok (.invokestatic 194, 3) := by decide +kernel
theorem dX10_rank_145 : decode cX10_rank 145 = .ok (.goto 4, 3) := by decide +kernel
theorem dX10_rank_148 : decode cX10_rank 148 = .ok (.iconst 0, 1) := by decide +kernel
theorem dX10_rank_149 : decode cX10_rank 149 = .ok (.iadd, 1) := by decide +kernel
theorem dX10_rank_150 : decode cX10_rank 150 = .ok (.istore 10, 2) := by decide +kernel
theorem dX10_rank_152 : decode cX10_rank 152 = .ok (.iinc 11 1, 3) := by decide +kernel
theorem dX10_rank_155 : decode cX10_rank 155 = .ok (.goto (-51), 3) := by decide +kernel
theorem dX10_rank_158 : decode cX10_rank 158 = .ok (.aload_n 0, 1) := by decide +kernel
theorem dX10_rank_159 : decode cX10_rank 159 = .ok (.getfield 73, 3) := by decide +kernel
theorem dX10_rank_162 : decode cX10_rank 162 = .ok (.bipush 40, 2) := by decide +kernel
theorem dX10_rank_164 : decode cX10_rank 164 = .ok (.iload 6, 2) := by decide +kernel
theorem dX10_rank_166 : decode cX10_rank 166 = .ok (.imul, 1) := by decide +kernel
theorem dX10_rank_167 : decode cX10_rank 167 = .ok (.iload 7, 2) := by decide +kernel
theorem dX10_rank_169 : decode cX10_rank 169 = .ok (.iadd, 1) := by decide +kernel
theorem dX10_rank_170 : decode cX10_rank 170 = .ok (.iload 9, 2) := by decide +kernel
theorem dX10_rank_172 : decode cX10_rank 172 = .ok (.ifCond .ne 7, 3) := by decide +kernel
theorem dX10_rank_175 : decode cX10_rank 175 = .ok (.iconst 0, 1) := by decide +kernel
theorem dX10_rank_176 : decode cX10_rank 176 = .ok (.goto 17, 3) := by decide +kernel
theorem dX10_rank_179 : decode cX10_rank 179 = .ok (.iload 10, 2) := by decide +kernel
theorem dX10_rank_181 : decode cX10_rank 181 = .ok (.iconst 2, 1) := by decide +kernel
theorem dX10_rank_182 : decode cX10_rank 182 = .ok (.irem, 1) := by decide +kernel
theorem dX10_rank_183 : decode cX10_rank 183 = .ok (.ifCond .ne 7, 3) := by decide +kernel
theorem dX10_rank_186 : decode cX10_rank 186 = .ok (.iconst 1, 1) := by decide +kernel
theorem dX10_rank_187 : decode cX10_rank 187 = .ok (.goto 6, 3) := by decide +kernel
theorem dX10_rank_190 : decode cX10_rank 190 = .ok (.iload_n 3, 1) := by decide +kernel
theorem dX10_rank_191 : decode cX10_rank 191 = .ok (.iconst 1, 1) := by decide +kernel
theorem dX10_rank_192 : decode cX10_rank 192 = .ok (.isub, 1) := by decide +kernel
theorem dX10_rank_193 : decode cX10_rank 193 = .ok (.iastore, 1) := by decide +kernel
theorem dX10_rank_194 : decode cX10_rank 194 = .ok (.iinc 7 1, 3) := by decide +kernel
theorem dX10_rank_197 : decode cX10_rank 197 = .ok (.goto (-152), 3) := by decide +kernel
theorem dX10_rank_200 : decode cX10_rank 200 = .ok (.iinc 6 1, 3) := by decide +kernel
theorem dX10_rank_203 : decode cX10_rank 203 = .ok (.goto (-168), 3) := by decide +kernel
theorem dX10_rank_206 : decode cX10_rank 206 = .ok (.aload_n 0, 1) := by decide +kernel
theorem dX10_rank_207 : decode cX10_rank 207 = .ok (.iload 4, 2) := by decide +kernel
theorem dX10_rank_209 : decode cX10_rank 209 = .ok (.iload 5, 2) := by decide +kernel
theorem dX10_rank_211 : decode cX10_rank 211 = .ok (.iload_n 3, 1) := by decide +kernel
theorem dX10_rank_212 : decode cX10_rank 212 = .ok (.invokevirtual 358, 3) := by decide +kernel
theorem dX10_rank_215 : decode cX10_rank 215 = .ok (.ireturn, 1) := by decide +kernel
theorem dX10_inverse_0 : decode cX10_inverse 0 = .ok (.iconst 1, 1) := by decide +kernel
theorem dX10_inverse_1 : decode cX10_inverse 1 = .ok (.istore_n 2, 1) := by decide +kernel
theorem dX10_inverse_2 : decode cX10_inverse 2 = .ok (.iload_n 0, 1) := by decide +kernel
theorem dX10_inverse_3 : decode cX10_inverse 3 = .ok (.iload_n 2, 1) := by decide +kernel
theorem dX10_inverse_4 : decode cX10_inverse 4 = .ok (.imul, 1) := by decide +kernel
theorem dX10_inverse_5 : decode cX10_inverse 5 = .ok (.iload_n 1, 1) := by decide +kernel
theorem dX10_inverse_6 : decode cX10_inverse 6 = .ok (.irem, 1) := by decide +kernel
theorem dX10_inverse_7 : decode cX10_inverse 7 = .ok (.iconst 1, 1) := by decide +kernel
theorem dX10_inverse_8 : decode cX10_inverse 8 = .ok (.if_icmp .eq 9, 3) := by decide +kernel
theorem dX10_inverse_11 : decode cX10_inverse 11 = .ok (.iinc 2 1, 3) := by decide +kernel
theorem dX10_inverse_14 : decode cX10_inverse 14 = .ok (.goto (-12), 3) := by decide +kernel
theorem dX10_inverse_17 : decode cX10_inverse 17 = .ok (.iload_n 2, 1) := by decide +kernel
theorem dX10_inverse_18 : decode cX10_inverse 18 = .ok (.ireturn, 1) := by decide +kernel
set_option maxRecDepth 20000 in
theorem ggX10_reduced_X10_inverse : GoodIn wsX10_reduced wsX10_inverse := goodIn_r _ [5] (by decide +kernel) (by decide +kernel)
set_option maxRecDepth 20000 in
theorem gX10_reduced_X10_inverse : GoodIn wsX10_reduced (va_wsS RX10 361 yX10_inverse wsX10_inverse) := goodIn_app (goodIn_of _ (by decide +kernel)) ggX10_reduced_X10_inverse
theorem dX10_reduced_0 : decode cX10_reduced 0 = .ok (.iconst 0, 1) := by decide +kernel
theorem dX10_reduced_1 : decode cX10_reduced 1 = .ok (.istore 4, 2) := by decide +kernel
theorem dX10_reduced_3 : decode cX10_reduced 3 = .ok (.iconst 0, 1) := by decide +kernel
theorem dX10_reduced_4 : decode cX10_reduced 4 = .ok (.istore 5, 2) := by decide +kernel
theorem dX10_reduced_6 : decode cX10_reduced 6 = .ok (.iload 5, 2) := by decide +kernel
theorem dX10_reduced_8 : decode cX10_reduced 8 = .ok (.iload_n 2, 1) := by decide +kernel
theorem dX10_reduced_9 : decode cX10_reduced 9 = .ok (.if_icmp .ge 249, 3) := by decide +kernel
theorem dX10_reduced_12 : decode cX10_reduced 12 = .ok (.iload 4, 2) := by decide +kernel
theorem dX10_reduced_14 : decode cX10_reduced 14 = .ok (.iload_n 1, 1) := by decide +kernel
theorem dX10_reduced_15 : decode cX10_reduced 15 = .ok (.if_icmp .ge 243, 3) := by decide +kernel
theorem dX10_reduced_18 : decode cX10_reduced 18 = .ok (.iload 4, 2) := by decide +kernel
theorem dX10_reduced_20 : decode cX10_reduced 20 = .ok (.istore 6, 2) := by decide +kernel
theorem dX10_reduced_22 : decode cX10_reduced 22 = .ok (.iload 6, 2) := by decide +kernel
theorem dX10_reduced_24 : decode cX10_reduced 24 = .ok (.iload_n 1, 1) := by decide +kernel
theorem dX10_reduced_25 : decode cX10_reduced 25 = .ok (.if_icmp .ge 25, 3) := by decide +kernel
theorem dX10_reduced_28 : decode cX10_reduced 28 = .ok (.aload_n 0, 1) := by decide +kernel
theorem dX10_reduced_29 : decode cX10_reduced 29 = .ok (.getfield 73, 3) := by decide +kernel
theorem dX10_reduced_32 : decode cX10_reduced 32 = .ok (.bipush 40, 2) := by decide +kernel
theorem dX10_reduced_34 : decode cX10_reduced 34 = .ok (.iload 6, 2) := by decide +kernel
theorem dX10_reduced_36 : decode cX10_reduced 36 = .ok (.imul, 1) := by decide +kernel
theorem dX10_reduced_37 : decode cX10_reduced 37 = .ok (.iload 5, 2) := by decide +kernel
theorem dX10_reduced_39 : decode cX10_reduced 39 = .ok (.iadd, 1) := by decide +kernel
theorem dX10_reduced_40 : decode cX10_reduced 40 = .ok (.iaload, 1) := by decide +kernel
theorem dX10_reduced_41 : decode cX10_reduced 41 = .ok (.ifCond .ne 9, 3) := by decide +kernel
theorem dX10_reduced_44 : decode cX10_reduced 44 = .ok (.iinc 6 1, 3) := by decide +kernel
theorem dX10_reduced_47 : decode cX10_reduced 47 = .ok (.goto (-25), 3) := by decide +kernel
theorem dX10_reduced_50 : decode cX10_reduced 50 = .ok (.iload 6, 2) := by decide +kernel
theorem dX10_reduced_52 : decode cX10_reduced 52 = .ok (.iload_n 1, 1) := by decide +kernel
theorem dX10_reduced_53 : decode cX10_reduced 53 = .ok (.if_icmp .ne 6, 3) := by decide +kernel
theorem dX10_reduced_56 : decode cX10_reduced 56 = .ok (.goto 196, 3) := by decide +kernel
theorem dX10_reduced_59 : decode cX10_reduced 59 = .ok (.iconst 0, 1) := by decide +kernel
theorem dX10_reduced_60 : decode cX10_reduced 60 = .ok (.istore 7, 2) := by decide +kernel
theorem dX10_reduced_62 : decode cX10_reduced 62 = .ok (.iload 7, 2) := by decide +kernel
theorem dX10_reduced_64 : decode cX10_reduced 64 = .ok (.iload_n 2, 1) := by decide +kernel
theorem dX10_reduced_65 : decode cX10_reduced 65 = .ok (.if_icmp .ge 65, 3) := by decide +kernel
theorem dX10_reduced_68 : decode cX10_reduced 68 = .ok (.aload_n 0, 1) := by decide +kernel
theorem dX10_reduced_69 : decode cX10_reduced 69 = .ok (.getfield 73, 3) := by decide +kernel
theorem dX10_reduced_72 : decode cX10_reduced 72 = .ok (.bipush 40, 2) := by decide +kernel
theorem dX10_reduced_74 : decode cX10_reduced 74 = .ok (.iload 6, 2) := by decide +kernel
theorem dX10_reduced_76 : decode cX10_reduced 76 = .ok (.imul, 1) := by decide +kernel
theorem dX10_reduced_77 : decode cX10_reduced 77 = .ok (.iload 7, 2) := by decide +kernel
theorem dX10_reduced_79 : decode cX10_reduced 79 = .ok (.iadd, 1) := by decide +kernel
theorem dX10_reduced_80 : decode cX10_reduced 80 = .ok (.iaload, 1) := by decide +kernel
theorem dX10_reduced_81 : decode cX10_reduced 81 = .ok (.istore 8, 2) := by decide +kernel
theorem dX10_reduced_83 : decode cX10_reduced 83 = .ok (.aload_n 0, 1) := by decide +kernel
theorem dX10_reduced_84 : decode cX10_reduced 84 = .ok (.getfield 73, 3) := by decide +kernel
theorem dX10_reduced_87 : decode cX10_reduced 87 = .ok (.bipush 40, 2) := by decide +kernel
theorem dX10_reduced_89 : decode cX10_reduced 89 = .ok (.iload 6, 2) := by decide +kernel
theorem dX10_reduced_91 : decode cX10_reduced 91 = .ok (.imul, 1) := by decide +kernel
theorem dX10_reduced_92 : decode cX10_reduced 92 = .ok (.iload 7, 2) := by decide +kernel
theorem dX10_reduced_94 : decode cX10_reduced 94 = .ok (.iadd, 1) := by decide +kernel
theorem dX10_reduced_95 : decode cX10_reduced 95 = .ok (.aload_n 0, 1) := by decide +kernel
theorem dX10_reduced_96 : decode cX10_reduced 96 = .ok (.getfield 73, 3) := by decide +kernel
theorem dX10_reduced_99 : decode cX10_reduced 99 = .ok (.bipush 40, 2) := by decide +kernel
theorem dX10_reduced_101 : decode cX10_reduced 101 = .ok (.iload 4, 2) := by decide +kernel
theorem dX10_reduced_103 : decode cX10_reduced 103 = .ok (.imul, 1) := by decide +kernel
theorem dX10_reduced_104 : decode cX10_reduced 104 = .ok (.iload 7, 2) := by decide +kernel
theorem dX10_reduced_106 : decode cX10_reduced 106 = .ok (.iadd, 1) := by decide +kernel
theorem dX10_reduced_107 : decode cX10_reduced 107 = .ok (.iaload, 1) := by decide +kernel
theorem dX10_reduced_108 : decode cX10_reduced 108 = .ok (.iastore, 1) := by decide +kernel
theorem dX10_reduced_109 : decode cX10_reduced 109 = .ok (.aload_n 0, 1) := by decide +kernel
theorem dX10_reduced_110 : decode cX10_reduced 110 = .ok (.getfield 73, 3) := by decide +kernel
theorem dX10_reduced_113 : decode cX10_reduced 113 = .ok (.bipush 40, 2) := by decide +kernel
theorem dX10_reduced_115 : decode cX10_reduced 115 = .ok (.iload 4, 2) := by decide +kernel
theorem dX10_reduced_117 : decode cX10_reduced 117 = .ok (.imul, 1) := by decide +kernel
theorem dX10_reduced_118 : decode cX10_reduced 118 = .ok (.iload 7, 2) := by decide +kernel
theorem dX10_reduced_120 : decode cX10_reduced 120 = .ok (.iadd, 1) := by decide +kernel
theorem dX10_reduced_121 : decode cX10_reduced 121 = .ok (.iload 8, 2) := by decide +kernel
theorem dX10_reduced_123 : decode cX10_reduced 123 = .ok (.iastore, 1) := by decide +kernel
theorem dX10_reduced_124 : decode cX10_reduced 124 = .ok (.iinc 7 1, 3) := by decide +kernel
theorem dX10_reduced_127 : decode cX10_reduced 127 = .ok (.goto (-65), 3) := by decide +kernel
theorem dX10_reduced_130 : decode cX10_reduced 130 = .ok (.aload_n 0, 1) := by decide +kernel
theorem dX10_reduced_131 : decode cX10_reduced 131 = .ok (.getfield 73, 3) := by decide +kernel
theorem dX10_reduced_134 : decode cX10_reduced 134 = .ok (.bipush 40, 2) := by decide +kernel
theorem dX10_reduced_136 : decode cX10_reduced 136 = .ok (.iload 4, 2) := by decide +kernel
theorem dX10_reduced_138 : decode cX10_reduced 138 = .ok (.imul, 1) := by decide +kernel
theorem dX10_reduced_139 : decode cX10_reduced 139 = .ok (.iload 5, 2) := by decide +kernel
theorem dX10_reduced_141 : decode cX10_reduced 141 = .ok (.iadd, 1) := by decide +kernel
theorem dX10_reduced_142 : decode cX10_reduced 142 = .ok (.iaload, 1) := by decide +kernel
theorem dX10_reduced_143 : decode cX10_reduced 143 = .ok (.iload_n 3, 1) := by decide +kernel
theorem dX10_reduced_144 : decode cX10_reduced 144 = .ok (.invokestatic 361, 3) := by decide +kernel
theorem dX10_reduced_147 : decode cX10_reduced 147 = .ok (.istore 7, 2) := by decide +kernel
theorem dX10_reduced_149 : decode cX10_reduced 149 = .ok (.iload 4, 2) := by decide +kernel
theorem dX10_reduced_151 : decode cX10_reduced 151 = .ok (.iconst 1, 1) := by decide +kernel
theorem dX10_reduced_152 : decode cX10_reduced 152 = .ok (.iadd, 1) := by decide +kernel
theorem dX10_reduced_153 : decode cX10_reduced 153 = .ok (.istore 8, 2) := by decide +kernel
theorem dX10_reduced_155 : decode cX10_reduced 155 = .ok (.iload 8, 2) := by decide +kernel
theorem dX10_reduced_157 : decode cX10_reduced 157 = .ok (.iload_n 1, 1) := by decide +kernel
theorem dX10_reduced_158 : decode cX10_reduced 158 = .ok (.if_icmp .ge 91, 3) := by decide +kernel
theorem dX10_reduced_161 : decode cX10_reduced 161 = .ok (.aload_n 0, 1) := by decide +kernel
theorem dX10_reduced_162 : decode cX10_reduced 162 = .ok (.getfield 73, 3) := by decide +kernel
theorem dX10_reduced_165 : decode cX10_reduced 165 = .ok (.bipush 40, 2) := by decide +kernel
theorem dX10_reduced_167 : decode cX10_reduced 167 = .ok (.iload 8, 2) := by decide +kernel
theorem dX10_reduced_169 : decode cX10_reduced 169 = .ok (.imul, 1) := by decide +kernel
theorem dX10_reduced_170 : decode cX10_reduced 170 = .ok (.iload 5, 2) := by decide +kernel
theorem dX10_reduced_172 : decode cX10_reduced 172 = .ok (.iadd, 1) := by decide +kernel
theorem dX10_reduced_173 : decode cX10_reduced 173 = .ok (.iaload, 1) := by decide +kernel
theorem dX10_reduced_174 : decode cX10_reduced 174 = .ok (.iload 7, 2) := by decide +kernel
theorem dX10_reduced_176 : decode cX10_reduced 176 = .ok (.imul, 1) := by decide +kernel
theorem dX10_reduced_177 : decode cX10_reduced 177 = .ok (.iload_n 3, 1) := by decide +kernel
theorem dX10_reduced_178 : decode cX10_reduced 178 = .ok (.irem, 1) := by decide +kernel
theorem dX10_reduced_179 : decode cX10_reduced 179 = .ok (.istore 9, 2) := by decide +kernel
theorem dX10_reduced_181 : decode cX10_reduced 181 = .ok (.iconst 0, 1) := by decide +kernel
theorem dX10_reduced_182 : decode cX10_reduced 182 = .ok (.istore 10, 2) := by decide +kernel
theorem dX10_reduced_184 : decode cX10_reduced 184 = .ok (.iload 10, 2) := by decide +kernel
theorem dX10_reduced_186 : decode cX10_reduced 186 = .ok (.iload_n 2, 1) := by decide +kernel
theorem dX10_reduced_187 : decode cX10_reduced 187 = .ok (.if_icmp .ge 56, 3) := by decide +kernel
theorem dX10_reduced_190 : decode cX10_reduced 190 = .ok (.aload_n 0, 1) := by decide +kernel
theorem dX10_reduced_191 : decode cX10_reduced 191 = .ok (.getfield 73, 3) := by decide +kernel
theorem dX10_reduced_194 : decode cX10_reduced 194 = .ok (.bipush 40, 2) := by decide +kernel
theorem dX10_reduced_196 : decode cX10_reduced 196 = .ok (.iload 8, 2) := by decide +kernel
theorem dX10_reduced_198 : decode cX10_reduced 198 = .ok (.imul, 1) := by decide +kernel
theorem dX10_reduced_199 : decode cX10_reduced 199 = .ok (.iload 10, 2) := by decide +kernel
theorem dX10_reduced_201 : decode cX10_reduced 201 = .ok (.iadd, 1) := by decide +kernel
theorem dX10_reduced_202 : decode cX10_reduced 202 = .ok (.aload_n 0, 1) := by decide +kernel
theorem dX10_reduced_203 : decode cX10_reduced 203 = .ok (.getfield 73, 3) := by decide +kernel
theorem dX10_reduced_206 : decode cX10_reduced 206 = .ok (.bipush 40, 2) := by decide +kernel
theorem dX10_reduced_208 : decode cX10_reduced 208 = .ok (.iload 8, 2) := by decide +kernel
theorem dX10_reduced_210 : decode cX10_reduced 210 = .ok (.imul, 1) := by decide +kernel
theorem dX10_reduced_211 : decode cX10_reduced 211 = .ok (.iload 10, 2) := by decide +kernel
theorem dX10_reduced_213 : decode cX10_reduced 213 = .ok (.iadd, 1) := by decide +kernel
theorem dX10_reduced_214 : decode cX10_reduced 214 = .ok (.iaload, 1) := by decide +kernel
theorem dX10_reduced_215 : decode cX10_reduced 215 = .ok (.iload_n 3, 1) := by decide +kernel
theorem dX10_reduced_216 : decode cX10_reduced 216 = .ok (.iload 9, 2) := by decide +kernel
theorem dX10_reduced_218 : decode cX10_reduced 218 = .ok (.isub, 1) := by decide +kernel
theorem dX10_reduced_219 : decode cX10_reduced 219 = .ok (.aload_n 0, 1) := by decide +kernel
theorem dX10_reduced_220 : decode cX10_reduced 220 = .ok (.getfield 73, 3) := by decide +kernel
theorem dX10_reduced_223 : decode cX10_reduced 223 = .ok (.bipush 40, 2) := by decide +kernel
theorem dX10_reduced_225 : decode cX10_reduced 225 = .ok (.iload 4, 2) := by decide +kernel
theorem dX10_reduced_227 : decode cX10_reduced 227 = .ok (.imul, 1) := by decide +kernel
theorem dX10_reduced_228 : decode cX10_reduced 228 = .ok (.iload 10, 2) := by decide +kernel
theorem dX10_reduced_230 : decode cX10_reduced 230 = .ok (.iadd, 1) := by decide +kernel
theorem dX10_reduced_231 : decode cX10_reduced 231 = .ok (.iaload, 1) := by decide +kernel
theorem dX10_reduced_232 : decode cX10_reduced 232 = .ok (.imul, 1) := by decide +kernel
theorem dX10_reduced_233 : decode cX10_reduced 233 = .ok (.iadd, 1) := by decide +kernel
theorem dX10_reduced_234 : decode cX10_reduced 234 = .ok (.iload_n 3, 1) := by decide +kernel
theorem dX10_reduced_235 : decode cX10_reduced 235 = .ok (.irem, 1) := by decide +kernel
theorem dX10_reduced_236 : decode cX10_reduced 236 = .ok (.iastore, 1) := by decide +kernel
theorem dX10_reduced_237 : decode cX10_reduced 237 = .ok (.iinc 10 1, 3) := by decide +kernel
theorem dX10_reduced_240 : decode cX10_reduced 240 = .ok (.goto (-56), 3) := by decide +kernel
theorem dX10_reduced_243 : decode cX10_reduced 243 = .ok (.iinc 8 1, 3) := by decide +kernel
theorem dX10_reduced_246 : decode cX10_reduced 246 = .ok (.goto (-91), 3) := by decide +kernel
theorem dX10_reduced_249 : decode cX10_reduced 249 = .ok (.iinc 4 1, 3) := by decide +kernel
theorem dX10_reduced_252 : decode cX10_reduced 252 = .ok (.iinc 5 1, 3) := by decide +kernel
theorem dX10_reduced_255 : decode cX10_reduced 255 = .ok (.goto (-249), 3) := by decide +kernel
theorem dX10_reduced_258 : decode cX10_reduced 258 = .ok (.iload 4, 2) := by decide +kernel
theorem dX10_reduced_260 : decode cX10_reduced 260 = .ok (.ireturn, 1) := by decide +kernel
set_option maxRecDepth 20000 in
theorem ggX10_holes_X10_noInner : GoodIn wsX10_holes wsX10_noInner := goodIn_r _ [7, 8, 9, 10, 6, 11, 12, 13, 14, 15, 16, 17, 18, 19, 20, 21, 22, 23, 24, 25, 26, 27, 28, 29, 30, 31, 32, 33, 34, 35, 87, 88, 89, 90, 91, 92, 93, 94, 95, 96, 97, 98, 99, 100, 101, 102, 103, 104, 105, 106, 107, 108, 109, 110, 111, 112, 113, 114, 115, 116] (by decide +kernel) (by decide +kernel)
set_option maxRecDepth 20000 in
theorem gX10_holes_X10_noInner : GoodIn wsX10_holes (wsV RX10 344 RX10 yX10_noInner wsX10_noInner) := goodIn_app (goodIn_of _ (by decide +kernel)) ggX10_holes_X10_noInner
set_option maxRecDepth 20000 in
theorem ggX10_holes_X10_inner : GoodIn wsX10_holes wsX10_inner := goodIn_r _ [39, 40, 41, 42, 6, 43, 44, 45, 46, 47, 48, 49, 50, 51, 21, 52, 53, 54, 55, 56, 57, 58, 59, 25, 26, 27, 32, 33, 34, 35, 87, 88, 89, 90, 91, 92, 93, 94, 95, 96, 97, 98, 99, 100, 101, 102, 103, 104, 105, 106, 107, 108, 109, 110, 111, 112, 113, 114, 115, 116] (by decide +kernel) (by decide +kernel)
set_option maxRecDepth 20000 in
theorem gX10_holes_X10_inner : GoodIn wsX10_holes (wsV RX10 348 RX10 yX10_inner wsX10_inner) := goodIn_app (goodIn_of _ (by decide +kernel)) ggX10_holes_X10_inner
set_option maxRecDepth 20000 in
theorem ggX10_holes_X10_sizeOf : GoodIn wsX10_holes wsX10_sizeOf := goodIn_r _ [62] (by decide +kernel) (by decide +kernel)
set_option maxRecDepth 20000 in
theorem gX10_holes_X10_sizeOf : GoodIn wsX10_holes (va_wsS RX10 351 yX10_sizeOf wsX10_sizeOf) := goodIn_app (goodIn_of _ (by decide +kernel)) ggX10_holes_X10_sizeOf
set_option maxRecDepth 20000 in
theorem ggX10_holes_X10_layFaces : GoodIn wsX10_holes wsX10_layFaces := goodIn_r _ [66, 67, 68, 6, 69, 70, 71, 72, 73, 25, 26, 27, 44, 45, 46, 47, 48, 49, 50, 51, 21, 56, 57, 58, 59, 32, 33, 34, 35, 87, 88, 89, 90, 91, 92, 93, 94, 95, 96, 97, 98, 99, 100, 101, 102, 103, 104, 105, 106, 107, 108, 109, 110, 111, 112, 113, 114, 115, 116] (by decide +kernel) (by decide +kernel)
set_option maxRecDepth 20000 in
theorem gX10_holes_X10_layFaces : GoodIn wsX10_holes (wsV RX10 354 RX10 yX10_layFaces wsX10_layFaces) := goodIn_app (goodIn_of _ (by decide +kernel)) ggX10_holes_X10_layFaces
set_option maxRecDepth 20000 in
theorem ggX10_holes_X10_rank : GoodIn wsX10_holes wsX10_rank := goodIn_r _ [77, 2, 78, 79, 63, 64, 65, 6, 66, 67, 68, 69, 70, 71, 72, 73, 25, 26, 27, 44, 45, 46, 47, 48, 49, 50, 51, 21, 56, 57, 58, 59, 32, 33, 34, 35, 80, 81, 82, 83, 84, 85, 86, 87, 88, 89, 90, 91, 92, 93, 94, 95, 96, 97, 98, 99, 100, 101, 102, 103, 104, 105, 106, 107, 108, 109, 110, 111, 112, 113, 114, 115, 116] (by decide +kernel) (by decide +kernel)
set_option maxRecDepth 20000 in
theorem gX10_holes_X10_rank : GoodIn wsX10_holes (wsV RX10 364 RX10 yX10_rank wsX10_rank) := goodIn_app (goodIn_of _ (by decide +kernel)) ggX10_holes_X10_rank
theorem dX10_holes_0 : decode cX10_holes 0 = .ok (.aload_n 0, 1) := by decide +kernel
theorem dX10_holes_1 : decode cX10_holes 1 = .ok (.iconst 0, 1) := by decide +kernel
theorem dX10_holes_2 : decode cX10_holes 2 = .ok (.putfield 82, 3) := by decide +kernel
theorem dX10_holes_5 : decode cX10_holes 5 = .ok (.aload_n 0, 1) := by decide +kernel
theorem dX10_holes_6 : decode cX10_holes 6 = .ok (.iload_n 1, 1) := by decide +kernel
theorem dX10_holes_7 : decode cX10_holes 7 = .ok (.iload_n 2, 1) := by decide +kernel
theorem dX10_holes_8 : decode cX10_holes 8 = .ok (.iload_n 3, 1) := by decide +kernel
theorem dX10_holes_9 : decode cX10_holes 9 = .ok (.iconst (-1), 1) := by decide +kernel
theorem dX10_holes_10 : decode cX10_holes 10 = .ok (.if_icmp .lt 32, 3) := by decide +kernel
theorem dX10_holes_13 : decode cX10_holes 13 = .ok (.iload 4, 2) := by decide +kernel
theorem dX10_holes_15 : decode cX10_holes 15 = .ok (.iconst 2, 1) := by decide +kernel
theorem dX10_holes_16 : decode cX10_holes 16 = .ok (.if_icmp .eq 22, 3) := by decide +kernel
theorem dX10_holes_19 : decode cX10_holes 19 = .ok (.iload 4, 2) := by decide +kernel
theorem dX10_holes_21 : decode cX10_holes 21 = .ok (.iconst 3, 1) := by decide +kernel
theorem dX10_holes_22 : decode cX10_holes 22 = .ok (.if_icmp .eq 16, 3) := by decide +kernel
theorem dX10_holes_25 : decode cX10_holes 25 = .ok (.iload 4, 2) := by decide +kernel
theorem dX10_holes_27 : decode cX10_holes 27 = .ok (.iconst 5, 1) := by decide +kernel
theorem dX10_holes_28 : decode cX10_holes 28 = .ok (.if_icmp .eq 10, 3) := by decide +kernel
theorem dX10_holes_31 : decode cX10_holes 31 = .ok (.iload 4, 2) := by decide +kernel
theorem dX10_holes_33 : decode cX10_holes 33 = .ok (.bipush 7, 2) := by decide +kernel
theorem dX10_holes_35 : decode cX10_holes 35 = .ok (.if_icmp .ne 7, 3) := by decide +kernel
theorem dX10_holes_38 : decode cX10_holes 38 = .ok (.iconst 1, 1) := by decide +kernel
theorem dX10_holes_39 : decode cX10_holes 39 = .ok (.goto 4, 3) := by decide +kernel
theorem dX10_holes_42 : decode cX10_holes 42 = .ok (.iconst 0, 1) := by decide +kernel
theorem dX10_holes_43 : decode cX10_holes 43 = .ok (.invokevirtual 344, 3) := by decide +kernel
theorem dX10_holes_46 : decode cX10_holes 46 = .ok (.istore 5, 2) := by decide +kernel
theorem dX10_holes_48 : decode cX10_holes 48 = .ok (.iload 5, 2) := by decide +kernel
theorem dX10_holes_50 : decode cX10_holes 50 = .ok (.ifCond .ge 6, 3) := by decide +kernel
theorem dX10_holes_53 : decode cX10_holes 53 = .ok (.iload 5, 2) := by decide +kernel
theorem dX10_holes_55 : decode cX10_holes 55 = .ok (.ireturn, 1) := by decide +kernel
theorem dX10_holes_56 : decode cX10_holes 56 = .ok (.aload_n 0, 1) := by decide +kernel
theorem dX10_holes_57 : decode cX10_holes 57 = .ok (.iload_n 1, 1) := by decide +kernel
theorem dX10_holes_58 : decode cX10_holes 58 = .ok (.iload_n 2, 1) := by decide +kernel
theorem dX10_holes_59 : decode cX10_holes 59 = .ok (.invokevirtual 348, 3) := by decide +kernel
theorem dX10_holes_62 : decode cX10_holes 62 = .ok (.istore 6, 2) := by decide +kernel
theorem dX10_holes_64 : decode cX10_holes 64 = .ok (.iload_n 3, 1) := by decide +kernel
theorem dX10_holes_65 : decode cX10_holes 65 = .ok (.invokestatic 351, 3) := by decide +kernel
theorem dX10_holes_68 : decode cX10_holes 68 = .ok (.istore 7, 2) := by decide +kernel
theorem dX10_holes_70 : decode cX10_holes 70 = .ok (.aload_n 0, 1) := by decide +kernel
theorem dX10_holes_71 : decode cX10_holes 71 = .ok (.aload_n 0, 1) := by decide +kernel
theorem dX10_holes_72 : decode cX10_holes 72 = .ok (.getfield 67, 3) := by decide +kernel
theorem dX10_holes_75 : decode cX10_holes 75 = .ok (.iload 6, 2) := by decide +kernel
theorem dX10_holes_77 : decode cX10_holes 77 = .ok (.iload 7, 2) := by decide +kernel
theorem dX10_holes_79 : decode cX10_holes 79 = .ok (.invokevirtual 354, 3) := by decide +kernel
theorem dX10_holes_82 : decode cX10_holes 82 = .ok (.istore 8, 2) := by decide +kernel
theorem dX10_holes_84 : decode cX10_holes 84 = .ok (.iload 8, 2) := by decide +kernel
theorem dX10_holes_86 : decode cX10_holes 86 = .ok (.aload_n 0, 1) := by decide +kernel
theorem dX10_holes_87 : decode cX10_holes 87 = .ok (.iload 6, 2) := by decide +kernel
theorem dX10_holes_89 : decode cX10_holes 89 = .ok (.iload 7, 2) := by decide +kernel
theorem dX10_holes_91 : decode cX10_holes 91 = .ok (.iload 4, 2) := by decide +kernel
theorem dX10_holes_93 : decode cX10_holes 93 = .ok (.invokevirtual 364, 3) := by decide +kernel
theorem dX10_holes_96 : decode cX10_holes 96 = .ok (.isub, 1) := by decide +kernel
theorem dX10_holes_97 : decode cX10_holes 97 = .ok (.aload_n 0, 1) := by decide +kernel
theorem dX10_holes_98 : decode cX10_holes 98 = .ok (.iload 6, 2) := by decide +kernel
theorem dX10_holes_100 : decode cX10_holes 100 = .ok (.iload 7, 2) := by decide +kernel
theorem dX10_holes_102 : decode cX10_holes 102 = .ok (.iconst 1, 1) := by decide +kernel
theorem dX10_holes_103 : decode cX10_holes 103 = .ok (.iadd, 1) := by decide +kernel
theorem dX10_holes_104 : decode cX10_holes 104 = .ok (.iload 4, 2) := by decide +kernel
theorem dX10_holes_106 : decode cX10_holes 106 = .ok (.invokevirtual 364, 3) := by decide +kernel
theorem dX10_holes_109 : decode cX10_holes 109 = .ok (.isub, 1) := by decide +kernel
theorem dX10_holes_110 : decode cX10_holes 110 = .ok (.ireturn, 1) := by decide +kernel
set_option maxRecDepth 20000 in
theorem ggX10_isLaid_X10_chainSet : GoodIn wsX10_isLaid wsX10_chainSet := goodIn_r _ [6, 1, 7, 8, 9, 5, 10, 11, 15, 16, 17, 18, 19, 20, 21, 22, 23, 24, 25, 26, 27, 28, 29, 30, 31, 32, 33, 34, 35, 36, 37, 38, 39, 40, 41, 42, 43, 44] (by decide +kernel) (by decide +kernel)
set_option maxRecDepth 20000 in
theorem gX10_isLaid_X10_chainSet : GoodIn wsX10_isLaid (wsV RX10 367 RX10 yX10_chainSet wsX10_chainSet) := goodIn_app (goodIn_of _ (by decide +kernel)) ggX10_isLaid_X10_chainSet
set_option maxRecDepth 20000 in
theorem ggX10_isLaid_X10_bits : GoodIn wsX10_isLaid wsX10_bits := goodIn_r _ [14] (by decide +kernel) (by decide +kernel)
set_option maxRecDepth 20000 in
theorem gX10_isLaid_X10_bits : GoodIn wsX10_isLaid (va_wsS RX10 194 yX10_bits wsX10_bits) := goodIn_app (goodIn_of _ (by decide +kernel)) ggX10_isLaid_X10_bits
theorem dX10_isLaid_0 : decode cX10_isLaid 0 = .ok (.iconst 0, 1) := by decide +kernel
theorem dX10_isLaid_1 : decode cX10_isLaid 1 = .ok (.istore_n 2, 1) := by decide +kernel
theorem dX10_isLaid_2 : decode cX10_isLaid 2 = .ok (.iload_n 2, 1) := by decide +kernel
theorem dX10_isLaid_3 : decode cX10_isLaid 3 = .ok (.iload_n 1, 1) := by decide +kernel
theorem dX10_isLaid_4 : decode cX10_isLaid 4 = .ok (.if_icmp .ge 95, 3) := by decide +kernel
theorem dX10_isLaid_7 : decode cX10_isLaid 7 = .ok (.iconst 0, 1) := by decide +kernel
theorem dX10_isLaid_8 : decode cX10_isLaid 8 = .ok (.istore_n 3, 1) := by decide +kernel
theorem dX10_isLaid_9 : decode cX10_isLaid 9 = .ok (.aload_n 0, 1) := by decide +kernel
theorem dX10_isLaid_10 : decode cX10_isLaid 10 = .ok (.iload_n 2, 1) := by decide +kernel
theorem dX10_isLaid_11 : decode cX10_isLaid 11 = .ok (.invokevirtual 367, 3) := by decide +kernel
theorem dX10_isLaid_14 : decode cX10_isLaid 14 = .ok (.aload_n 0, 1) := by decide +kernel
theorem dX10_isLaid_15 : decode cX10_isLaid 15 = .ok (.iload_n 1, 1) := by decide +kernel
theorem dX10_isLaid_16 : decode cX10_isLaid 16 = .ok (.invokevirtual 367, 3) := by decide +kernel
theorem dX10_isLaid_19 : decode cX10_isLaid 19 = .ok (.iand, 1) := by decide +kernel
theorem dX10_isLaid_20 : decode cX10_isLaid 20 = .ok (.istore 4, 2) := by decide +kernel
theorem dX10_isLaid_22 : decode cX10_isLaid 22 = .ok (.iconst 0, 1) := by decide +kernel
theorem dX10_isLaid_23 : decode cX10_isLaid 23 = .ok (.istore 5, 2) := by decide +kernel
theorem dX10_isLaid_25 : decode cX10_isLaid 25 = .ok (.iload 5, 2) := by decide +kernel
theorem dX10_isLaid_27 : decode cX10_isLaid 27 = .ok (.iload_n 1, 1) := by decide +kernel
theorem dX10_isLaid_28 : decode cX10_isLaid 28 = .ok (.if_icmp .ge 59, 3) := by decide +kernel
theorem dX10_isLaid_31 : decode cX10_isLaid 31 = .ok (.aload_n 0, 1) := by decide +kernel
theorem dX10_isLaid_32 : decode cX10_isLaid 32 = .ok (.iload 5, 2) := by decide +kernel
theorem dX10_isLaid_34 : decode cX10_isLaid 34 = .ok (.invokevirtual 367, 3) := by decide +kernel
theorem dX10_isLaid_37 : decode cX10_isLaid 37 = .ok (.aload_n 0, 1) := by decide +kernel
theorem dX10_isLaid_38 : decode cX10_isLaid 38 = .ok (.iload_n 1, 1) := by decide +kernel
theorem dX10_isLaid_39 : decode cX10_isLaid 39 = .ok (.invokevirtual 367, 3) := by decide +kernel
theorem dX10_isLaid_42 : decode cX10_isLaid 42 = .ok (.iand, 1) := by decide +kernel
theorem dX10_isLaid_43 : decode cX10_isLaid 43 = .ok (.istore 6, 2) := by decide +kernel
theorem dX10_isLaid_45 : decode cX10_isLaid 45 = .ok (.iload_n 3, 1) := by decide +kernel
theorem dX10_isLaid_46 : decode cX10_isLaid 46 = .ok (.ifCond .ne 29, 3) := by decide +kernel
theorem dX10_isLaid_49 : decode cX10_isLaid 49 = .ok (.iload 6, 2) := by decide +kernel
theorem dX10_isLaid_51 : decode cX10_isLaid 51 = .ok (.invokestatic 194, 3) := by decide +kernel
theorem dX10_isLaid_54 : decode cX10_isLaid 54 = .ok (.aload_n 0, 1) := by decide +kernel
theorem dX10_isLaid_55 : decode cX10_isLaid 55 = .ok (.getfield 45, 3) := by decide +kernel
theorem dX10_isLaid_58 : decode cX10_isLaid 58 = .ok (.iload_n 1, 1) := by decide +kernel
theorem dX10_isLaid_59 : decode cX10_isLaid 59 = .ok (.iaload, 1) := by decide +kernel
theorem dX10_isLaid_60 : decode cX10_isLaid 60 = .ok (.iconst 1, 1) := by decide +kernel
theorem dX10_isLaid_61 : decode cX10_isLaid 61 = .ok (.isub, 1) := by decide +kernel
theorem dX10_isLaid_62 : decode cX10_isLaid 62 = .ok (.if_icmp .ne 17, 3) := by decide +kernel
theorem dX10_isLaid_65 : decode cX10_isLaid 65 = .ok (.iload 4, 2) := by decide +kernel
theorem dX10_isLaid_67 : decode cX10_isLaid 67 = .ok (.iload 6, 2) := by decide +kernel
theorem dX10_isLaid_69 : decode cX10_isLaid 69 = .ok (.iconst (-1), 1) := by decide +kernel
theorem dX10_isLaid_70 : decode cX10_isLaid 70 = .ok (.ixor, 1) := by decide +kernel
theorem dX10_isLaid_71 : decode cX10_isLaid 71 = .ok (.iand, 1) := by decide +kernel
theorem dX10_isLaid_72 : decode cX10_isLaid 72 = .ok (.ifCond .ne 7, 3) := by decide +kernel
theorem dX10_isLaid_75 : decode cX10_isLaid 75 = .ok (.iconst 1, 1) := by decide +kernel
theorem dX10_isLaid_76 : decode cX10_isLaid 76 = .ok (.goto 4, 3) := by decide +kernel
theorem dX10_isLaid_79 : decode cX10_isLaid 79 = .ok (.iconst 0, 1) := by decide +kernel
theorem dX10_isLaid_80 : decode cX10_isLaid 80 = .ok (.istore_n 3, 1) := by decide +kernel
theorem dX10_isLaid_81 : decode cX10_isLaid 81 = .ok (.iinc 5 1, 3) := by decide +kernel
theorem dX10_isLaid_84 : decode cX10_isLaid 84 = .ok (.goto (-59), 3) := by decide +kernel
theorem dX10_isLaid_87 : decode cX10_isLaid 87 = .ok (.iload_n 3, 1) := by decide +kernel
theorem dX10_isLaid_88 : decode cX10_isLaid 88 = .ok (.ifCond .ne 5, 3) := by decide +kernel
theorem dX10_isLaid_91 : decode cX10_isLaid 91 = .ok (.iconst 0, 1) := by decide +kernel
theorem dX10_isLaid_92 : decode cX10_isLaid 92 = .ok (.ireturn, 1) := by decide +kernel
theorem dX10_isLaid_93 : decode cX10_isLaid 93 = .ok (.iinc 2 1, 3) := by decide +kernel
theorem dX10_isLaid_96 : decode cX10_isLaid 96 = .ok (.goto (-94), 3) := by decide +kernel
theorem dX10_isLaid_99 : decode cX10_isLaid 99 = .ok (.iconst 1, 1) := by decide +kernel
theorem dX10_isLaid_100 : decode cX10_isLaid 100 = .ok (.ireturn, 1) := by decide +kernel
set_option maxRecDepth 20000 in
theorem ggX10_shelled_X10_noInner : GoodIn wsX10_shelled wsX10_noInner := goodIn_r _ [7, 8, 9, 10, 6, 11, 12, 13, 14, 15, 16, 17, 18, 19, 20, 21, 22, 23, 24, 25, 26, 27, 28, 29, 30, 31, 32, 33, 34, 35, 103, 104, 105, 106, 107, 108, 109, 110, 111, 112, 113, 114, 115, 116, 117, 118, 119, 120, 121, 122, 123, 124, 125, 126, 127, 128, 129, 130, 131, 132] (by decide +kernel) (by decide +kernel)
set_option maxRecDepth 20000 in
theorem gX10_shelled_X10_noInner : GoodIn wsX10_shelled (wsV RX10 344 RX10 yX10_noInner wsX10_noInner) := goodIn_app (goodIn_of _ (by decide +kernel)) ggX10_shelled_X10_noInner
set_option maxRecDepth 20000 in
theorem ggX10_shelled_X10_layChains : GoodIn wsX10_shelled wsX10_layChains := goodIn_r _ [39, 2, 40, 41, 42, 43, 44, 6, 45, 46, 47, 48, 49, 50, 51, 52, 53, 54, 55, 21, 56, 57, 58, 59, 60, 61, 62, 63, 64, 65, 66, 67, 68, 69, 70, 71, 72, 73, 74, 75, 76, 77, 78, 79, 80, 81, 82, 83, 84, 85, 86, 87, 25, 26, 27, 32, 33, 34, 35, 88, 89, 90, 91, 103, 104, 105, 106, 107, 108, 109, 110, 111, 112, 113, 114, 115, 116, 117, 118, 119, 120, 121, 122, 123, 124, 125, 126, 127, 128, 129, 130, 131, 132] (by decide +kernel) (by decide +kernel)
set_option maxRecDepth 20000 in
theorem gX10_shelled_X10_layChains : GoodIn wsX10_shelled (wsV RX10 246 RX10 yX10_layChains wsX10_layChains) := goodIn_app (goodIn_of _ (by decide +kernel)) ggX10_shelled_X10_layChains
set_option maxRecDepth 20000 in
theorem ggX10_shelled_X10_isLaid : GoodIn wsX10_shelled wsX10_isLaid := goodIn_r _ [95, 46, 96, 97, 98, 6, 99, 64, 65, 66, 67, 47, 100, 101, 102, 103, 104, 105, 106, 107, 108, 109, 110, 111, 112, 113, 114, 115, 116, 117, 118, 119, 120, 121, 122, 123, 124, 125, 126, 127, 128, 129, 130, 131, 132] (by decide +kernel) (by decide +kernel)
set_option maxRecDepth 20000 in
theorem gX10_shelled_X10_isLaid : GoodIn wsX10_shelled (wsV RX10 370 RX10 yX10_isLaid wsX10_isLaid) := goodIn_app (goodIn_of _ (by decide +kernel)) ggX10_shelled_X10_isLaid
theorem dX10_shelled_0 : decode cX10_shelled 0 = .ok (.aload_n 0, 1) := by decide +kernel
theorem dX10_shelled_1 : decode cX10_shelled 1 = .ok (.iconst 0, 1) := by decide +kernel
theorem dX10_shelled_2 : decode cX10_shelled 2 = .ok (.putfield 82, 3) := by decide +kernel
theorem dX10_shelled_5 : decode cX10_shelled 5 = .ok (.aload_n 0, 1) := by decide +kernel
theorem dX10_shelled_6 : decode cX10_shelled 6 = .ok (.iload_n 1, 1) := by decide +kernel
theorem dX10_shelled_7 : decode cX10_shelled 7 = .ok (.iload_n 2, 1) := by decide +kernel
theorem dX10_shelled_8 : decode cX10_shelled 8 = .ok (.iconst 1, 1) := by decide +kernel
theorem dX10_shelled_9 : decode cX10_shelled 9 = .ok (.invokevirtual 344, 3) := by decide +kernel
theorem dX10_shelled_12 : decode cX10_shelled 12 = .ok (.istore_n 3, 1) := by decide +kernel
theorem dX10_shelled_13 : decode cX10_shelled 13 = .ok (.iload_n 3, 1) := by decide +kernel
theorem dX10_shelled_14 : decode cX10_shelled 14 = .ok (.ifCond .ge 15, 3) := by decide +kernel
theorem dX10_shelled_17 : decode cX10_shelled 17 = .ok (.iload_n 3, 1) := by decide +kernel
theorem dX10_shelled_18 : decode cX10_shelled 18 = .ok (.iconst (-1), 1) := by decide +kernel
theorem dX10_shelled_19 : decode cX10_shelled 19 = .ok (.if_icmp .ne 8, 3) := by decide +kernel
theorem dX10_shelled_22 : decode cX10_shelled 22 = .ok (.bipush (-3), 2) := by decide +kernel
theorem dX10_shelled_24 : decode cX10_shelled 24 = .ok (.goto 4, 3) := by decide +kernel
theorem dX10_shelled_27 : decode cX10_shelled 27 = .ok (.iload_n 3, 1) := by decide +kernel
theorem dX10_shelled_28 : decode cX10_shelled 28 = .ok (.ireturn, 1) := by decide +kernel
theorem dX10_shelled_29 : decode cX10_shelled 29 = .ok (.aload_n 0, 1) := by decide +kernel
theorem dX10_shelled_30 : decode cX10_shelled 30 = .ok (.iload_n 1, 1) := by decide +kernel
theorem dX10_shelled_31 : decode cX10_shelled 31 = .ok (.iload_n 2, 1) := by decide +kernel
theorem dX10_shelled_32 : decode cX10_shelled 32 = .ok (.invokevirtual 246, 3) := by decide +kernel
theorem dX10_shelled_35 : decode cX10_shelled 35 = .ok (.iconst 1, 1) := by decide +kernel
theorem dX10_shelled_36 : decode cX10_shelled 36 = .ok (.istore 4, 2) := by decide +kernel
theorem dX10_shelled_38 : decode cX10_shelled 38 = .ok (.iload 4, 2) := by decide +kernel
theorem dX10_shelled_40 : decode cX10_shelled 40 = .ok (.aload_n 0, 1) := by decide +kernel
theorem dX10_shelled_41 : decode cX10_shelled 41 = .ok (.getfield 279, 3) := by decide +kernel
theorem dX10_shelled_44 : decode cX10_shelled 44 = .ok (.if_icmp .ge 21, 3) := by decide +kernel
theorem dX10_shelled_47 : decode cX10_shelled 47 = .ok (.aload_n 0, 1) := by decide +kernel
theorem dX10_shelled_48 : decode cX10_shelled 48 = .ok (.iload 4, 2) := by decide +kernel
theorem dX10_shelled_50 : decode cX10_shelled 50 = .ok (.invokevirtual 370, 3) := by decide +kernel
theorem dX10_shelled_53 : decode cX10_shelled 53 = .ok (.ifCond .ne 6, 3) := by decide +kernel
theorem dX10_shelled_56 : decode cX10_shelled 56 = .ok (.iload 4, 2) := by decide +kernel
theorem dX10_shelled_58 : decode cX10_shelled 58 = .ok (.ireturn, 1) := by decide +kernel
theorem dX10_shelled_59 : decode cX10_shelled 59 = .ok (.iinc 4 1, 3) := by decide +kernel
theorem dX10_shelled_62 : decode cX10_shelled 62 = .ok (.goto (-24), 3) := by decide +kernel
theorem dX10_shelled_65 : decode cX10_shelled 65 = .ok (.iconst (-1), 1) := by decide +kernel
theorem dX10_shelled_66 : decode cX10_shelled 66 = .ok (.ireturn, 1) := by decide +kernel
set_option maxRecDepth 20000 in
theorem ggX10_creaseOf_X10_chainSet : GoodIn wsX10_creaseOf wsX10_chainSet := goodIn_r _ [5, 6, 7, 8, 9, 4, 10, 11, 15, 16, 17, 18, 19, 20, 21, 22, 23, 24, 25, 26, 27, 28, 29, 30, 31, 32, 33, 34, 35, 36, 37, 38, 39, 40, 41, 42, 43, 44] (by decide +kernel) (by decide +kernel)
set_option maxRecDepth 20000 in
theorem gX10_creaseOf_X10_chainSet : GoodIn wsX10_creaseOf (wsV RX10 367 RX10 yX10_chainSet wsX10_chainSet) := goodIn_app (goodIn_of _ (by decide +kernel)) ggX10_creaseOf_X10_chainSet
set_option maxRecDepth 20000 in
theorem ggX10_creaseOf_X10_has : GoodIn wsX10_creaseOf wsX10_has := goodIn_r _ [14] (by decide +kernel) (by decide +kernel)
set_option maxRecDepth 20000 in
theorem gX10_creaseOf_X10_has : GoodIn wsX10_creaseOf (va_wsS RX10 91 yX10_has wsX10_has) := goodIn_app (goodIn_of _ (by decide +kernel)) ggX10_creaseOf_X10_has
theorem dX10_creaseOf_0 : decode cX10_creaseOf 0 = .ok (.iconst 0, 1) := by decide +kernel
theorem dX10_creaseOf_1 : decode cX10_creaseOf 1 = .ok (.istore_n 2, 1) := by decide +kernel
theorem dX10_creaseOf_2 : decode cX10_creaseOf 2 = .ok (.iconst 0, 1) := by decide +kernel
theorem dX10_creaseOf_3 : decode cX10_creaseOf 3 = .ok (.istore_n 3, 1) := by decide +kernel
theorem dX10_creaseOf_4 : decode cX10_creaseOf 4 = .ok (.iload_n 3, 1) := by decide +kernel
theorem dX10_creaseOf_5 : decode cX10_creaseOf 5 = .ok (.bipush 9, 2) := by decide +kernel
theorem dX10_creaseOf_7 : decode cX10_creaseOf 7 = .ok (.if_icmp .ge 89, 3) := by decide +kernel
theorem dX10_creaseOf_10 : decode cX10_creaseOf 10 = .ok (.iconst 0, 1) := by decide +kernel
theorem dX10_creaseOf_11 : decode cX10_creaseOf 11 = .ok (.istore 4, 2) := by decide +kernel
theorem dX10_creaseOf_13 : decode cX10_creaseOf 13 = .ok (.iconst 0, 1) := by decide +kernel
theorem dX10_creaseOf_14 : decode cX10_creaseOf 14 = .ok (.istore 5, 2) := by decide +kernel
theorem dX10_creaseOf_16 : decode cX10_creaseOf 16 = .ok (.iload 5, 2) := by decide +kernel
theorem dX10_creaseOf_18 : decode cX10_creaseOf 18 = .ok (.iload_n 1, 1) := by decide +kernel
theorem dX10_creaseOf_19 : decode cX10_creaseOf 19 = .ok (.if_icmp .ge 56, 3) := by decide +kernel
theorem dX10_creaseOf_22 : decode cX10_creaseOf 22 = .ok (.aload_n 0, 1) := by decide +kernel
theorem dX10_creaseOf_23 : decode cX10_creaseOf 23 = .ok (.iload_n 1, 1) := by decide +kernel
theorem dX10_creaseOf_24 : decode cX10_creaseOf 24 = .ok (.invokevirtual 367, 3) := by decide +kernel
theorem dX10_creaseOf_27 : decode cX10_creaseOf 27 = .ok (.iload_n 3, 1) := by decide +kernel
theorem dX10_creaseOf_28 : decode cX10_creaseOf 28 = .ok (.invokestatic 91, 3) := by decide +kernel
theorem dX10_creaseOf_31 : decode cX10_creaseOf 31 = .ok (.ifCond .eq 44, 3) := by decide +kernel
theorem dX10_creaseOf_34 : decode cX10_creaseOf 34 = .ok (.iload 4, 2) := by decide +kernel
theorem dX10_creaseOf_36 : decode cX10_creaseOf 36 = .ok (.ifCond .ne 26, 3) := by decide +kernel
theorem dX10_creaseOf_39 : decode cX10_creaseOf 39 = .ok (.aload_n 0, 1) := by decide +kernel
theorem dX10_creaseOf_40 : decode cX10_creaseOf 40 = .ok (.iload_n 1, 1) := by decide +kernel
theorem dX10_creaseOf_41 : decode cX10_creaseOf 41 = .ok (.invokevirtual 367, 3) := by decide +kernel
theorem dX10_creaseOf_44 : decode cX10_creaseOf 44 = .ok (.iconst 1, 1) := by decide +kernel
theorem dX10_creaseOf_45 : decode cX10_creaseOf 45 = .ok (.iload_n 3, 1) := by decide +kernel
theorem dX10_creaseOf_46 : decode cX10_creaseOf 46 = .ok (.ishl, 1) := by decide +kernel
theorem dX10_creaseOf_47 : decode cX10_creaseOf 47 = .ok (.iconst (-1), 1) := by decide +kernel
theorem dX10_creaseOf_48 : decode cX10_creaseOf 48 = .ok (.ixor, 1) := by decide +kernel
theorem dX10_creaseOf_49 : decode cX10_creaseOf 49 = .ok (.iand, 1) := by decide +kernel
theorem dX10_creaseOf_50 : decode cX10_creaseOf 50 = .ok (.aload_n 0, 1) := by decide +kernel
theorem dX10_creaseOf_51 : decode cX10_creaseOf 51 = .ok (.iload 5, 2) := by decide +kernel
theorem dX10_creaseOf_53 : decode cX10_creaseOf 53 = .ok (.invokevirtual 367, 3) := by decide +kernel
theorem dX10_creaseOf_56 : decode cX10_creaseOf 56 = .ok (.iconst (-1), 1) := by decide +kernel
theorem dX10_creaseOf_57 : decode cX10_creaseOf 57 = .ok (.ixor, 1) := by decide +kernel
theorem dX10_creaseOf_58 : decode cX10_creaseOf 58 = .ok (.iand, 1) := by decide +kernel
theorem dX10_creaseOf_59 : decode cX10_creaseOf 59 = .ok (.ifCond .ne 7, 3) := by decide +kernel
theorem dX10_creaseOf_62 : decode cX10_creaseOf 62 = .ok (.iconst 1, 1) := by decide +kernel
theorem dX10_creaseOf_63 : decode cX10_creaseOf 63 = .ok (.goto 4, 3) := by decide +kernel
theorem dX10_creaseOf_66 : decode cX10_creaseOf 66 = .ok (.iconst 0, 1) := by decide +kernel
theorem dX10_creaseOf_67 : decode cX10_creaseOf 67 = .ok (.istore 4, 2) := by decide +kernel
theorem dX10_creaseOf_69 : decode cX10_creaseOf 69 = .ok (.iinc 5 1, 3) := by decide +kernel
theorem dX10_creaseOf_72 : decode cX10_creaseOf 72 = .ok (.goto (-56), 3) := by decide +kernel
theorem dX10_creaseOf_75 : decode cX10_creaseOf 75 = .ok (.iload_n 2, 1) := by decide +kernel
theorem dX10_creaseOf_76 : decode cX10_creaseOf 76 = .ok (.iload 4, 2) := by decide +kernel
theorem dX10_creaseOf_78 : decode cX10_creaseOf 78 = .ok (.ifCond .eq 9, 3) := by decide +kernel
theorem dX10_creaseOf_81 : decode cX10_creaseOf 81 = .ok (.iconst 1, 1) := by decide +kernel
theorem dX10_creaseOf_82 : decode cX10_creaseOf 82 = .ok (.iload_n 3, 1) := by decide +kernel
theorem dX10_creaseOf_83 : decode cX10_creaseOf 83 = .ok (.ishl, 1) := by decide +kernel
theorem dX10_creaseOf_84 : decode cX10_creaseOf 84 = .ok (.goto 4, 3) := by decide +kernel
theorem dX10_creaseOf_87 : decode cX10_creaseOf 87 = .ok (.iconst 0, 1) := by decide +kernel
theorem dX10_creaseOf_88 : decode cX10_creaseOf 88 = .ok (.ior, 1) := by decide +kernel
theorem dX10_creaseOf_89 : decode cX10_creaseOf 89 = .ok (.istore_n 2, 1) := by decide +kernel
theorem dX10_creaseOf_90 : decode cX10_creaseOf 90 = .ok (.iinc 3 1, 3) := by decide +kernel
theorem dX10_creaseOf_93 : decode cX10_creaseOf 93 = .ok (.goto (-89), 3) := by decide +kernel
theorem dX10_creaseOf_96 : decode cX10_creaseOf 96 = .ok (.iload_n 2, 1) := by decide +kernel
theorem dX10_creaseOf_97 : decode cX10_creaseOf 97 = .ok (.ireturn, 1) := by decide +kernel
set_option maxRecDepth 20000 in
theorem ggX10_crease_X10_laidTo : GoodIn wsX10_crease wsX10_laidTo := goodIn_r _ [6, 7, 8, 9, 10, 5, 11, 12, 13, 14, 15, 16, 17, 18, 19, 20, 21, 22, 23, 24, 25, 26, 27, 28, 29, 30, 31, 32, 33, 34, 35, 36, 37, 38, 39, 40, 41, 42, 43, 44, 45, 46, 47, 48, 49, 50, 51, 52, 53, 54, 55, 56, 57, 58, 59, 60, 61, 62, 63, 64, 65, 66, 67, 68, 69, 70, 71, 72, 73, 74, 75, 76, 77, 78, 79, 80, 81, 82, 83, 84, 85, 86, 87, 88, 89, 90, 91, 100, 101, 102, 103, 104, 105, 106, 107, 108, 109, 110, 111, 112, 113, 114, 115, 116, 117, 118, 119, 120, 121, 122, 123, 124, 125, 126, 127, 128, 129] (by decide +kernel) (by decide +kernel)
set_option maxRecDepth 20000 in
theorem gX10_crease_X10_laidTo : GoodIn wsX10_crease (wsV RX10 305 RX10 yX10_laidTo wsX10_laidTo) := goodIn_app (goodIn_of _ (by decide +kernel)) ggX10_crease_X10_laidTo
set_option maxRecDepth 20000 in
theorem ggX10_crease_X10_creaseOf : GoodIn wsX10_crease wsX10_creaseOf := goodIn_r _ [95, 96, 97, 98, 5, 99, 46, 64, 65, 66, 67, 47, 25, 26, 27, 100, 101, 102, 103, 104, 105, 106, 107, 108, 109, 110, 111, 112, 113, 114, 115, 116, 117, 118, 119, 120, 121, 122, 123, 124, 125, 126, 127, 128, 129] (by decide +kernel) (by decide +kernel)
set_option maxRecDepth 20000 in
theorem gX10_crease_X10_creaseOf : GoodIn wsX10_crease (wsV RX10 373 RX10 yX10_creaseOf wsX10_creaseOf) := goodIn_app (goodIn_of _ (by decide +kernel)) ggX10_crease_X10_creaseOf
theorem dX10_crease_0 : decode cX10_crease 0 = .ok (.aload_n 0, 1) := by decide +kernel
theorem dX10_crease_1 : decode cX10_crease 1 = .ok (.iconst 0, 1) := by decide +kernel
theorem dX10_crease_2 : decode cX10_crease 2 = .ok (.putfield 82, 3) := by decide +kernel
theorem dX10_crease_5 : decode cX10_crease 5 = .ok (.aload_n 0, 1) := by decide +kernel
theorem dX10_crease_6 : decode cX10_crease 6 = .ok (.iload_n 1, 1) := by decide +kernel
theorem dX10_crease_7 : decode cX10_crease 7 = .ok (.iload_n 2, 1) := by decide +kernel
theorem dX10_crease_8 : decode cX10_crease 8 = .ok (.iload_n 3, 1) := by decide +kernel
theorem dX10_crease_9 : decode cX10_crease 9 = .ok (.invokevirtual 305, 3) := by decide +kernel
theorem dX10_crease_12 : decode cX10_crease 12 = .ok (.istore 4, 2) := by decide +kernel
theorem dX10_crease_14 : decode cX10_crease 14 = .ok (.iload 4, 2) := by decide +kernel
theorem dX10_crease_16 : decode cX10_crease 16 = .ok (.ifCond .ge 8, 3) := by decide +kernel
theorem dX10_crease_19 : decode cX10_crease 19 = .ok (.iload 4, 2) := by decide +kernel
theorem dX10_crease_21 : decode cX10_crease 21 = .ok (.goto 18, 3) := by decide +kernel
theorem dX10_crease_24 : decode cX10_crease 24 = .ok (.iload_n 1, 1) := by decide +kernel
theorem dX10_crease_25 : decode cX10_crease 25 = .ok (.iload_n 2, 1) := by decide +kernel
theorem dX10_crease_26 : decode cX10_crease 26 = .ok (.if_icmp .ne 8, 3) := by decide +kernel
theorem dX10_crease_29 : decode cX10_crease 29 = .ok (.bipush (-2), 2) := by decide +kernel
theorem dX10_crease_31 : decode cX10_crease 31 = .ok (.goto 8, 3) := by decide +kernel
theorem dX10_crease_34 : decode cX10_crease 34 = .ok (.aload_n 0, 1) := by decide +kernel
theorem dX10_crease_35 : decode cX10_crease 35 = .ok (.iload_n 3, 1) := by decide +kernel
theorem dX10_crease_36 : decode cX10_crease 36 = .ok (.invokevirtual 373, 3) := by decide +kernel
theorem dX10_crease_39 : decode cX10_crease 39 = .ok (.ireturn, 1) := by decide +kernel
set_option maxRecDepth 20000 in
theorem ggX10_creased_X10_noInner : GoodIn wsX10_creased wsX10_noInner := goodIn_r _ [7, 8, 9, 10, 6, 11, 12, 13, 14, 15, 16, 17, 18, 19, 20, 21, 22, 23, 24, 25, 26, 27, 28, 29, 30, 31, 32, 33, 34, 35, 103, 104, 105, 106, 107, 108, 109, 110, 111, 112, 113, 114, 115, 116, 117, 118, 119, 120, 121, 122, 123, 124, 125, 126, 127, 128, 129, 130, 131, 132] (by decide +kernel) (by decide +kernel)
set_option maxRecDepth 20000 in
theorem gX10_creased_X10_noInner : GoodIn wsX10_creased (wsV RX10 344 RX10 yX10_noInner wsX10_noInner) := goodIn_app (goodIn_of _ (by decide +kernel)) ggX10_creased_X10_noInner
set_option maxRecDepth 20000 in
theorem ggX10_creased_X10_layChains : GoodIn wsX10_creased wsX10_layChains := goodIn_r _ [39, 2, 40, 41, 42, 43, 44, 6, 45, 46, 47, 48, 49, 50, 51, 52, 53, 54, 55, 21, 56, 57, 58, 59, 60, 61, 62, 63, 64, 65, 66, 67, 68, 69, 70, 71, 72, 73, 74, 75, 76, 77, 78, 79, 80, 81, 82, 83, 84, 85, 86, 87, 25, 26, 27, 32, 33, 34, 35, 88, 89, 90, 91, 103, 104, 105, 106, 107, 108, 109, 110, 111, 112, 113, 114, 115, 116, 117, 118, 119, 120, 121, 122, 123, 124, 125, 126, 127, 128, 129, 130, 131, 132] (by decide +kernel) (by decide +kernel)
set_option maxRecDepth 20000 in
theorem gX10_creased_X10_layChains : GoodIn wsX10_creased (wsV RX10 246 RX10 yX10_layChains wsX10_layChains) := goodIn_app (goodIn_of _ (by decide +kernel)) ggX10_creased_X10_layChains
set_option maxRecDepth 20000 in
theorem ggX10_creased_X10_creaseOf : GoodIn wsX10_creased wsX10_creaseOf := goodIn_r _ [95, 96, 97, 98, 6, 99, 46, 64, 65, 66, 67, 47, 25, 26, 27, 103, 104, 105, 106, 107, 108, 109, 110, 111, 112, 113, 114, 115, 116, 117, 118, 119, 120, 121, 122, 123, 124, 125, 126, 127, 128, 129, 130, 131, 132] (by decide +kernel) (by decide +kernel)
set_option maxRecDepth 20000 in
theorem gX10_creased_X10_creaseOf : GoodIn wsX10_creased (wsV RX10 373 RX10 yX10_creaseOf wsX10_creaseOf) := goodIn_app (goodIn_of _ (by decide +kernel)) ggX10_creased_X10_creaseOf
set_option maxRecDepth 20000 in
theorem ggX10_creased_X10_bits : GoodIn wsX10_creased wsX10_bits := goodIn_r _ [102] (by decide +kernel) (by decide +kernel)
set_option maxRecDepth 20000 in
theorem gX10_creased_X10_bits : GoodIn wsX10_creased (va_wsS RX10 194 yX10_bits wsX10_bits) := goodIn_app (goodIn_of _ (by decide +kernel)) ggX10_creased_X10_bits
theorem dX10_creased_0 : decode cX10_creased 0 = .ok (.aload_n 0, 1) := by decide +kernel
theorem dX10_creased_1 : decode cX10_creased 1 = .ok (.iconst 0, 1) := by decide +kernel
theorem dX10_creased_2 : decode cX10_creased 2 = .ok (.putfield 82, 3) := by decide +kernel
theorem dX10_creased_5 : decode cX10_creased 5 = .ok (.aload_n 0, 1) := by decide +kernel
theorem dX10_creased_6 : decode cX10_creased 6 = .ok (.iload_n 1, 1) := by decide +kernel
theorem dX10_creased_7 : decode cX10_creased 7 = .ok (.iload_n 2, 1) := by decide +kernel
theorem dX10_creased_8 : decode cX10_creased 8 = .ok (.iload_n 3, 1) := by decide +kernel
theorem dX10_creased_9 : decode cX10_creased 9 = .ok (.ifCond .lt 7, 3) := by decide +kernel
theorem dX10_creased_12 : decode cX10_creased 12 = .ok (.iconst 1, 1) := by decide +kernel
theorem dX10_creased_13 : decode cX10_creased 13 = .ok (.goto 4, 3) := by decide +kernel
theorem dX10_creased_16 : decode cX10_creased 16 = .ok (.iconst 0, 1) := by decide +kernel
theorem dX10_creased_17 : decode cX10_creased 17 = .ok (.invokevirtual 344, 3) := by decide +kernel
theorem dX10_creased_20 : decode cX10_creased 20 = .ok (.istore 4, 2) := by decide +kernel
theorem dX10_creased_22 : decode cX10_creased 22 = .ok (.iload 4, 2) := by decide +kernel
theorem dX10_creased_24 : decode cX10_creased 24 = .ok (.ifCond .ge 6, 3) := by decide +kernel
theorem dX10_creased_27 : decode cX10_creased 27 = .ok (.iload 4, 2) := by decide +kernel
theorem dX10_creased_29 : decode cX10_creased 29 = .ok (.ireturn, 1) := by decide +kernel
theorem dX10_creased_30 : decode cX10_creased 30 = .ok (.aload_n 0, 1) := by decide +kernel
theorem dX10_creased_31 : decode cX10_creased 31 = .ok (.iload_n 1, 1) := by decide +kernel
theorem dX10_creased_32 : decode cX10_creased 32 = .ok (.iload_n 2, 1) := by decide +kernel
theorem dX10_creased_33 : decode cX10_creased 33 = .ok (.invokevirtual 246, 3) := by decide +kernel
theorem dX10_creased_36 : decode cX10_creased 36 = .ok (.iconst 0, 1) := by decide +kernel
theorem dX10_creased_37 : decode cX10_creased 37 = .ok (.istore 5, 2) := by decide +kernel
theorem dX10_creased_39 : decode cX10_creased 39 = .ok (.iconst 0, 1) := by decide +kernel
theorem dX10_creased_40 : decode cX10_creased 40 = .ok (.istore 6, 2) := by decide +kernel
theorem dX10_creased_42 : decode cX10_creased 42 = .ok (.iload 6, 2) := by decide +kernel
theorem dX10_creased_44 : decode cX10_creased 44 = .ok (.aload_n 0, 1) := by decide +kernel
theorem dX10_creased_45 : decode cX10_creased 45 = .ok (.getfield 279, 3) := by decide +kernel
theorem dX10_creased_48 : decode cX10_creased 48 = .ok (.if_icmp .ge 32, 3) := by decide +kernel
theorem dX10_creased_51 : decode cX10_creased 51 = .ok (.iload 5, 2) := by decide +kernel
theorem dX10_creased_53 : decode cX10_creased 53 = .ok (.aload_n 0, 1) := by decide +kernel
theorem dX10_creased_54 : decode cX10_creased 54 = .ok (.iload 6, 2) := by decide +kernel
theorem dX10_creased_56 : decode cX10_creased 56 = .ok (.invokevirtual 373, 3) := by decide +kernel
theorem dX10_creased_59 : decode cX10_creased 59 = .ok (.invokestatic 194, 3) := by decide +kernel
theorem dX10_creased_62 : decode cX10_creased 62 = .ok (.iload_n 3, 1) := by decide +kernel
theorem dX10_creased_63 : decode cX10_creased 63 = .ok (.if_icmp .ne 7, 3) := by decide +kernel
theorem dX10_creased_66 : decode cX10_creased 66 = .ok (.iconst 1, 1) := by decide +kernel
theorem dX10_creased_67 : decode cX10_creased 67 = .ok (.goto 4, 3) := by decide +kernel
theorem dX10_creased_70 : decode cX10_creased 70 = .ok (.iconst 0, 1) := by decide +kernel
theorem dX10_creased_71 : decode cX10_creased 71 = .ok (.iadd, 1) := by decide +kernel
theorem dX10_creased_72 : decode cX10_creased 72 = .ok (.istore 5, 2) := by decide +kernel
theorem dX10_creased_74 : decode cX10_creased 74 = .ok (.iinc 6 1, 3) := by decide +kernel
theorem dX10_creased_77 : decode cX10_creased 77 = .ok (.goto (-35), 3) := by decide +kernel
theorem dX10_creased_80 : decode cX10_creased 80 = .ok (.iload 5, 2) := by decide +kernel
theorem dX10_creased_82 : decode cX10_creased 82 = .ok (.ireturn, 1) := by decide +kernel
set_option maxRecDepth 20000 in
theorem ggX10_moebiusWithout_X10_layMoebius : GoodIn wsX10_moebiusWithout wsX10_layMoebius := goodIn_r _ [7, 2, 8, 9, 10, 6, 11, 12, 13, 14, 15, 16, 17, 18, 19, 1, 20, 21, 22, 23, 24, 25, 26, 27, 28, 29, 30, 31, 32, 33, 34, 35, 36, 37, 38, 39, 40, 41, 42, 43, 44, 45, 46, 47, 48, 49, 50, 51, 52, 53, 54, 55, 56, 57, 58, 59, 60, 61, 62, 63, 64] (by decide +kernel) (by decide +kernel)
set_option maxRecDepth 20000 in
theorem gX10_moebiusWithout_X10_layMoebius : GoodIn wsX10_moebiusWithout (wsV RX10 323 RX10 yX10_layMoebius wsX10_layMoebius) := goodIn_app (goodIn_of _ (by decide +kernel)) ggX10_moebiusWithout_X10_layMoebius
theorem dX10_moebiusWithout_0 : decode cX10_moebiusWithout 0 = .ok (.aload_n 0, 1) := by decide +kernel
theorem dX10_moebiusWithout_1 : decode cX10_moebiusWithout 1 = .ok (.iload_n 1, 1) := by decide +kernel
theorem dX10_moebiusWithout_2 : decode cX10_moebiusWithout 2 = .ok (.iload_n 2, 1) := by decide +kernel
theorem dX10_moebiusWithout_3 : decode cX10_moebiusWithout 3 = .ok (.aload_n 0, 1) := by decide +kernel
theorem dX10_moebiusWithout_4 : decode cX10_moebiusWithout 4 = .ok (.getfield 9, 3) := by decide +kernel
theorem dX10_moebiusWithout_7 : decode cX10_moebiusWithout 7 = .ok (.iconst 1, 1) := by decide +kernel
theorem dX10_moebiusWithout_8 : decode cX10_moebiusWithout 8 = .ok (.iaload, 1) := by decide +kernel
theorem dX10_moebiusWithout_9 : decode cX10_moebiusWithout 9 = .ok (.iconst 1, 1) := by decide +kernel
theorem dX10_moebiusWithout_10 : decode cX10_moebiusWithout 10 = .ok (.iload_n 3, 1) := by decide +kernel
theorem dX10_moebiusWithout_11 : decode cX10_moebiusWithout 11 = .ok (.ishl, 1) := by decide +kernel
theorem dX10_moebiusWithout_12 : decode cX10_moebiusWithout 12 = .ok (.iconst (-1), 1) := by decide +kernel
theorem dX10_moebiusWithout_13 : decode cX10_moebiusWithout 13 = .ok (.ixor, 1) := by decide +kernel
theorem dX10_moebiusWithout_14 : decode cX10_moebiusWithout 14 = .ok (.iand, 1) := by decide +kernel
theorem dX10_moebiusWithout_15 : decode cX10_moebiusWithout 15 = .ok (.invokevirtual 323, 3) := by decide +kernel
theorem dX10_moebiusWithout_18 : decode cX10_moebiusWithout 18 = .ok (.aload_n 0, 1) := by decide +kernel
theorem dX10_moebiusWithout_19 : decode cX10_moebiusWithout 19 = .ok (.getfield 57, 3) := by decide +kernel
theorem dX10_moebiusWithout_22 : decode cX10_moebiusWithout 22 = .ok (.iload_n 2, 1) := by decide +kernel
theorem dX10_moebiusWithout_23 : decode cX10_moebiusWithout 23 = .ok (.iaload, 1) := by decide +kernel
theorem dX10_moebiusWithout_24 : decode cX10_moebiusWithout 24 = .ok (.ireturn, 1) := by decide +kernel
set_option maxRecDepth 20000 in
theorem ggX10_without_X10_refusal : GoodIn wsX10_without wsX10_refusal := goodIn_r _ [8, 9, 10, 11, 7, 12, 13, 14, 15, 16, 2, 17, 18, 19, 20, 21, 22, 23, 24, 25, 26, 27, 28, 29, 30, 31, 65, 66, 67, 68, 69, 70, 71, 72, 73, 74, 75, 76, 77, 78, 79, 80, 81, 82, 83, 84, 85, 86, 87, 88, 89, 90, 91, 92, 93, 94] (by decide +kernel) (by decide +kernel)
set_option maxRecDepth 20000 in
theorem gX10_without_X10_refusal : GoodIn wsX10_without (wsV RX10 300 RX10 yX10_refusal wsX10_refusal) := goodIn_app (goodIn_of _ (by decide +kernel)) ggX10_without_X10_refusal
set_option maxRecDepth 20000 in
theorem ggX10_without_X10_isIn : GoodIn wsX10_without wsX10_isIn := goodIn_r _ [20] (by decide +kernel) (by decide +kernel)
set_option maxRecDepth 20000 in
theorem gX10_without_X10_isIn : GoodIn wsX10_without (va_wsS RX10 87 yX10_isIn wsX10_isIn) := goodIn_app (goodIn_of _ (by decide +kernel)) ggX10_without_X10_isIn
set_option maxRecDepth 20000 in
theorem ggX10_without_X10_inner : GoodIn wsX10_without wsX10_inner := goodIn_r _ [35, 36, 37, 38, 7, 39, 40, 41, 42, 43, 44, 45, 46, 47, 17, 48, 49, 50, 51, 52, 53, 54, 55, 21, 22, 23, 28, 29, 30, 31, 65, 66, 67, 68, 69, 70, 71, 72, 73, 74, 75, 76, 77, 78, 79, 80, 81, 82, 83, 84, 85, 86, 87, 88, 89, 90, 91, 92, 93, 94] (by decide +kernel) (by decide +kernel)
set_option maxRecDepth 20000 in
theorem gX10_without_X10_inner : GoodIn wsX10_without (wsV RX10 348 RX10 yX10_inner wsX10_inner) := goodIn_app (goodIn_of _ (by decide +kernel)) ggX10_without_X10_inner
set_option maxRecDepth 20000 in
theorem ggX10_without_X10_has : GoodIn wsX10_without wsX10_has := goodIn_r _ [23] (by decide +kernel) (by decide +kernel)
set_option maxRecDepth 20000 in
theorem gX10_without_X10_has : GoodIn wsX10_without (va_wsS RX10 91 yX10_has wsX10_has) := goodIn_app (goodIn_of _ (by decide +kernel)) ggX10_without_X10_has
set_option maxRecDepth 20000 in
theorem ggX10_without_X10_moebiusWithout : GoodIn wsX10_without wsX10_moebiusWithout := goodIn_r _ [59, 17, 60, 61, 62, 63, 7, 64, 36, 37, 38, 39, 40, 41, 42, 43, 44, 45, 46, 47, 48, 49, 50, 51, 52, 53, 54, 55, 21, 22, 23, 28, 29, 30, 31, 65, 66, 67, 68, 69, 70, 71, 72, 73, 74, 75, 76, 77, 78, 79, 80, 81, 82, 83, 84, 85, 86, 87, 88, 89, 90, 91, 92, 93, 94] (by decide +kernel) (by decide +kernel)
set_option maxRecDepth 20000 in
theorem gX10_without_X10_moebiusWithout : GoodIn wsX10_without (wsV RX10 376 RX10 yX10_moebiusWithout wsX10_moebiusWithout) := goodIn_app (goodIn_of _ (by decide +kernel)) ggX10_without_X10_moebiusWithout
theorem dX10_without_0 : decode cX10_without 0 = .ok (.aload_n 0, 1) := by decide +kernel
theorem dX10_without_1 : decode cX10_without 1 = .ok (.iconst 0, 1) := by decide +kernel
theorem dX10_without_2 : decode cX10_without 2 = .ok (.putfield 82, 3) := by decide +kernel
theorem dX10_without_5 : decode cX10_without 5 = .ok (.aload_n 0, 1) := by decide +kernel
theorem dX10_without_6 : decode cX10_without 6 = .ok (.iload_n 1, 1) := by decide +kernel
theorem dX10_without_7 : decode cX10_without 7 = .ok (.iload_n 2, 1) := by decide +kernel
theorem dX10_without_8 : decode cX10_without 8 = .ok (.invokevirtual 300, 3) := by decide +kernel
theorem dX10_without_11 : decode cX10_without 11 = .ok (.ifCond .lt 28, 3) := by decide +kernel
theorem dX10_without_14 : decode cX10_without 14 = .ok (.iload_n 3, 1) := by decide +kernel
theorem dX10_without_15 : decode cX10_without 15 = .ok (.i2l, 1) := by decide +kernel
theorem dX10_without_16 : decode cX10_without 16 = .ok (.lconst 0, 1) := by decide +kernel
theorem dX10_without_17 : decode cX10_without 17 = .ok (.ldc2_w 85, 3) := by decide +kernel
theorem dX10_without_20 : decode cX10_without 20 = .ok (.invokestatic 87, 3) := by decide +kernel
theorem dX10_without_23 : decode cX10_without 23 = .ok (.ifCond .eq 16, 3) := by decide +kernel
theorem dX10_without_26 : decode cX10_without 26 = .ok (.aload_n 0, 1) := by decide +kernel
theorem dX10_without_27 : decode cX10_without 27 = .ok (.iload_n 1, 1) := by decide +kernel
theorem dX10_without_28 : decode cX10_without 28 = .ok (.iload_n 2, 1) := by decide +kernel
theorem dX10_without_29 : decode cX10_without 29 = .ok (.invokevirtual 348, 3) := by decide +kernel
theorem dX10_without_32 : decode cX10_without 32 = .ok (.iload_n 3, 1) := by decide +kernel
theorem dX10_without_33 : decode cX10_without 33 = .ok (.invokestatic 91, 3) := by decide +kernel
theorem dX10_without_36 : decode cX10_without 36 = .ok (.ifCond .ne 7, 3) := by decide +kernel
theorem dX10_without_39 : decode cX10_without 39 = .ok (.ldc_w 316, 3) := by decide +kernel
theorem dX10_without_42 : decode cX10_without 42 = .ok (.ireturn, 1) := by decide +kernel
theorem dX10_without_43 : decode cX10_without 43 = .ok (.aload_n 0, 1) := by decide +kernel
theorem dX10_without_44 : decode cX10_without 44 = .ok (.iload_n 1, 1) := by decide +kernel
theorem dX10_without_45 : decode cX10_without 45 = .ok (.iload_n 2, 1) := by decide +kernel
theorem dX10_without_46 : decode cX10_without 46 = .ok (.iload_n 3, 1) := by decide +kernel
theorem dX10_without_47 : decode cX10_without 47 = .ok (.invokevirtual 376, 3) := by decide +kernel
theorem dX10_without_50 : decode cX10_without 50 = .ok (.ireturn, 1) := by decide +kernel
set_option maxRecDepth 20000 in
theorem ggX10_counted_X10_refusal : GoodIn wsX10_counted wsX10_refusal := goodIn_r _ [8, 9, 10, 11, 7, 12, 13, 14, 15, 16, 17, 2, 18, 19, 20, 21, 22, 23, 24, 25, 26, 27, 28, 29, 30, 31, 64, 65, 66, 67, 68, 69, 70, 71, 72, 73, 74, 75, 76, 77, 78, 79, 80, 81, 82, 83, 84, 85, 86, 87, 88, 89, 90, 91, 92, 93] (by decide +kernel) (by decide +kernel)
set_option maxRecDepth 20000 in
theorem gX10_counted_X10_refusal : GoodIn wsX10_counted (wsV RX10 300 RX10 yX10_refusal wsX10_refusal) := goodIn_app (goodIn_of _ (by decide +kernel)) ggX10_counted_X10_refusal
set_option maxRecDepth 20000 in
theorem ggX10_counted_X10_layMoebius : GoodIn wsX10_counted wsX10_layMoebius := goodIn_r _ [35, 3, 36, 37, 38, 7, 39, 40, 41, 42, 43, 44, 45, 46, 47, 2, 48, 49, 50, 51, 52, 53, 54, 55, 21, 22, 23, 28, 29, 30, 31, 64, 65, 66, 67, 68, 69, 70, 71, 72, 73, 74, 75, 76, 77, 78, 79, 80, 81, 82, 83, 84, 85, 86, 87, 88, 89, 90, 91, 92, 93] (by decide +kernel) (by decide +kernel)
set_option maxRecDepth 20000 in
theorem gX10_counted_X10_layMoebius : GoodIn wsX10_counted (wsV RX10 323 RX10 yX10_layMoebius wsX10_layMoebius) := goodIn_app (goodIn_of _ (by decide +kernel)) ggX10_counted_X10_layMoebius
set_option maxRecDepth 20000 in
theorem ggX10_counted_X10_inner : GoodIn wsX10_counted wsX10_inner := goodIn_r _ [59, 36, 37, 38, 7, 39, 40, 41, 42, 43, 44, 45, 46, 47, 2, 48, 49, 50, 51, 52, 53, 54, 55, 21, 22, 23, 28, 29, 30, 31, 64, 65, 66, 67, 68, 69, 70, 71, 72, 73, 74, 75, 76, 77, 78, 79, 80, 81, 82, 83, 84, 85, 86, 87, 88, 89, 90, 91, 92, 93] (by decide +kernel) (by decide +kernel)
set_option maxRecDepth 20000 in
theorem gX10_counted_X10_inner : GoodIn wsX10_counted (wsV RX10 348 RX10 yX10_inner wsX10_inner) := goodIn_app (goodIn_of _ (by decide +kernel)) ggX10_counted_X10_inner
set_option maxRecDepth 20000 in
theorem ggX10_counted_X10_has : GoodIn wsX10_counted wsX10_has := goodIn_r _ [23] (by decide +kernel) (by decide +kernel)
set_option maxRecDepth 20000 in
theorem gX10_counted_X10_has : GoodIn wsX10_counted (va_wsS RX10 91 yX10_has wsX10_has) := goodIn_app (goodIn_of _ (by decide +kernel)) ggX10_counted_X10_has
set_option maxRecDepth 20000 in
theorem ggX10_counted_X10_moebiusWithout : GoodIn wsX10_counted wsX10_moebiusWithout := goodIn_r _ [63, 2, 3, 32, 33, 34, 7, 35, 36, 37, 38, 39, 40, 41, 42, 43, 44, 45, 46, 47, 48, 49, 50, 51, 52, 53, 54, 55, 21, 22, 23, 28, 29, 30, 31, 64, 65, 66, 67, 68, 69, 70, 71, 72, 73, 74, 75, 76, 77, 78, 79, 80, 81, 82, 83, 84, 85, 86, 87, 88, 89, 90, 91, 92, 93] (by decide +kernel) (by decide +kernel)
set_option maxRecDepth 20000 in
theorem gX10_counted_X10_moebiusWithout : GoodIn wsX10_counted (wsV RX10 376 RX10 yX10_moebiusWithout wsX10_moebiusWithout) := goodIn_app (goodIn_of _ (by decide +kernel)) ggX10_counted_X10_moebiusWithout
theorem dX10_counted_0 : decode cX10_counted 0 = .ok (.aload_n 0, 1) := by decide +kernel
theorem dX10_counted_1 : decode cX10_counted 1 = .ok (.iconst 0, 1) := by decide +kernel
theorem dX10_counted_2 : decode cX10_counted 2 = .ok (.putfield 82, 3) := by decide +kernel
theorem dX10_counted_5 : decode cX10_counted 5 = .ok (.aload_n 0, 1) := by decide +kernel
theorem dX10_counted_6 : decode cX10_counted 6 = .ok (.iload_n 1, 1) := by decide +kernel
theorem dX10_counted_7 : decode cX10_counted 7 = .ok (.iload_n 2, 1) := by decide +kernel
theorem dX10_counted_8 : decode cX10_counted 8 = .ok (.invokevirtual 300, 3) := by decide +kernel
theorem dX10_counted_11 : decode cX10_counted 11 = .ok (.istore_n 3, 1) := by decide +kernel
theorem dX10_counted_12 : decode cX10_counted 12 = .ok (.iload_n 3, 1) := by decide +kernel
theorem dX10_counted_13 : decode cX10_counted 13 = .ok (.ifCond .ge 5, 3) := by decide +kernel
theorem dX10_counted_16 : decode cX10_counted 16 = .ok (.iload_n 3, 1) := by decide +kernel
theorem dX10_counted_17 : decode cX10_counted 17 = .ok (.ireturn, 1) := by decide +kernel
theorem dX10_counted_18 : decode cX10_counted 18 = .ok (.aload_n 0, 1) := by decide +kernel
theorem dX10_counted_19 : decode cX10_counted 19 = .ok (.iload_n 1, 1) := by decide +kernel
theorem dX10_counted_20 : decode cX10_counted 20 = .ok (.iload_n 2, 1) := by decide +kernel
theorem dX10_counted_21 : decode cX10_counted 21 = .ok (.aload_n 0, 1) := by decide +kernel
theorem dX10_counted_22 : decode cX10_counted 22 = .ok (.getfield 9, 3) := by decide +kernel
theorem dX10_counted_25 : decode cX10_counted 25 = .ok (.iconst 1, 1) := by decide +kernel
theorem dX10_counted_26 : decode cX10_counted 26 = .ok (.iaload, 1) := by decide +kernel
theorem dX10_counted_27 : decode cX10_counted 27 = .ok (.invokevirtual 323, 3) := by decide +kernel
theorem dX10_counted_30 : decode cX10_counted 30 = .ok (.aload_n 0, 1) := by decide +kernel
theorem dX10_counted_31 : decode cX10_counted 31 = .ok (.getfield 57, 3) := by decide +kernel
theorem dX10_counted_34 : decode cX10_counted 34 = .ok (.iload_n 2, 1) := by decide +kernel
theorem dX10_counted_35 : decode cX10_counted 35 = .ok (.iaload, 1) := by decide +kernel
theorem dX10_counted_36 : decode cX10_counted 36 = .ok (.istore 4, 2) := by decide +kernel
theorem dX10_counted_38 : decode cX10_counted 38 = .ok (.iconst 0, 1) := by decide +kernel
theorem dX10_counted_39 : decode cX10_counted 39 = .ok (.istore 5, 2) := by decide +kernel
theorem dX10_counted_41 : decode cX10_counted 41 = .ok (.iconst 0, 1) := by decide +kernel
theorem dX10_counted_42 : decode cX10_counted 42 = .ok (.istore 6, 2) := by decide +kernel
theorem dX10_counted_44 : decode cX10_counted 44 = .ok (.iload 6, 2) := by decide +kernel
theorem dX10_counted_46 : decode cX10_counted 46 = .ok (.bipush 9, 2) := by decide +kernel
theorem dX10_counted_48 : decode cX10_counted 48 = .ok (.if_icmp .ge 49, 3) := by decide +kernel
theorem dX10_counted_51 : decode cX10_counted 51 = .ok (.iload 5, 2) := by decide +kernel
theorem dX10_counted_53 : decode cX10_counted 53 = .ok (.aload_n 0, 1) := by decide +kernel
theorem dX10_counted_54 : decode cX10_counted 54 = .ok (.iload_n 1, 1) := by decide +kernel
theorem dX10_counted_55 : decode cX10_counted 55 = .ok (.iload_n 2, 1) := by decide +kernel
theorem dX10_counted_56 : decode cX10_counted 56 = .ok (.invokevirtual 348, 3) := by decide +kernel
theorem dX10_counted_59 : decode cX10_counted 59 = .ok (.iload 6, 2) := by decide +kernel
theorem dX10_counted_61 : decode cX10_counted 61 = .ok (.invokestatic 91, 3) := by decide +kernel
theorem dX10_counted_64 : decode cX10_counted 64 = .ok (.ifCond .eq 23, 3) := by decide +kernel
theorem dX10_counted_67 : decode cX10_counted 67 = .ok (.aload_n 0, 1) := by decide +kernel
theorem dX10_counted_68 : decode cX10_counted 68 = .ok (.iload_n 1, 1) := by decide +kernel
theorem dX10_counted_69 : decode cX10_counted 69 = .ok (.iload_n 2, 1) := by decide +kernel
theorem dX10_counted_70 : decode cX10_counted 70 = .ok (.iload 6, 2) := by decide +kernel
theorem dX10_counted_72 : decode cX10_counted 72 = .ok (.invokevirtual 376, 3) := by decide +kernel
theorem dX10_counted_75 : decode cX10_counted 75 = .ok (.iload 4, 2) := by decide +kernel
theorem dX10_counted_77 : decode cX10_counted 77 = .ok (.if_icmp .eq 10, 3) := by decide +kernel
theorem dX10_counted_80 : decode cX10_counted 80 = .ok (.iconst 1, 1) := by decide +kernel
theorem dX10_counted_81 : decode cX10_counted 81 = .ok (.iload 6, 2) := by decide +kernel
theorem dX10_counted_83 : decode cX10_counted 83 = .ok (.ishl, 1) := by decide +kernel
theorem dX10_counted_84 : decode cX10_counted 84 = .ok (.goto 4, 3) := by decide +kernel
theorem dX10_counted_87 : decode cX10_counted 87 = .ok (.iconst 0, 1) := by decide +kernel
theorem dX10_counted_88 : decode cX10_counted 88 = .ok (.ior, 1) := by decide +kernel
theorem dX10_counted_89 : decode cX10_counted 89 = .ok (.istore 5, 2) := by decide +kernel
theorem dX10_counted_91 : decode cX10_counted 91 = .ok (.iinc 6 1, 3) := by decide +kernel
theorem dX10_counted_94 : decode cX10_counted 94 = .ok (.goto (-50), 3) := by decide +kernel
theorem dX10_counted_97 : decode cX10_counted 97 = .ok (.iload 5, 2) := by decide +kernel
theorem dX10_counted_99 : decode cX10_counted 99 = .ok (.ireturn, 1) := by decide +kernel
set_option maxRecDepth 20000 in
theorem ggX10_core_X10_isTold : GoodIn wsX10_core wsX10_isTold := goodIn_r _ [7, 2, 38, 39, 40, 41, 42, 43, 44, 45, 46, 47, 48, 49, 50, 51, 52, 53, 54, 55, 56, 57, 58, 59, 60, 61, 62, 63, 64, 65, 66, 67] (by decide +kernel) (by decide +kernel)
set_option maxRecDepth 20000 in
theorem gX10_core_X10_isTold : GoodIn wsX10_core (wsV RX10 208 RX10 yX10_isTold wsX10_isTold) := goodIn_app (goodIn_of _ (by decide +kernel)) ggX10_core_X10_isTold
set_option maxRecDepth 20000 in
theorem ggX10_core_X10_has : GoodIn wsX10_core wsX10_has := goodIn_r _ [10] (by decide +kernel) (by decide +kernel)
set_option maxRecDepth 20000 in
theorem gX10_core_X10_has : GoodIn wsX10_core (va_wsS RX10 91 yX10_has wsX10_has) := goodIn_app (goodIn_of _ (by decide +kernel)) ggX10_core_X10_has
set_option maxRecDepth 20000 in
theorem ggX10_core_X10_coverers : GoodIn wsX10_core wsX10_coverers := goodIn_r _ [14, 2, 8, 9, 6, 10, 15, 16, 17, 18, 19, 20, 21, 22, 23, 24, 25, 26, 27, 28, 29, 30, 38, 39, 40, 41, 42, 43, 44, 45, 46, 47, 48, 49, 50, 51, 52, 53, 54, 55, 56, 57, 58, 59, 60, 61, 62, 63, 64, 65, 66, 67] (by decide +kernel) (by decide +kernel)
set_option maxRecDepth 20000 in
theorem gX10_core_X10_coverers : GoodIn wsX10_core (wsV RX10 216 RX10 yX10_coverers wsX10_coverers) := goodIn_app (goodIn_of _ (by decide +kernel)) ggX10_core_X10_coverers
set_option maxRecDepth 20000 in
theorem ggX10_core_X10_bits : GoodIn wsX10_core wsX10_bits := goodIn_r _ [33] (by decide +kernel) (by decide +kernel)
set_option maxRecDepth 20000 in
theorem gX10_core_X10_bits : GoodIn wsX10_core (va_wsS RX10 194 yX10_bits wsX10_bits) := goodIn_app (goodIn_of _ (by decide +kernel)) ggX10_core_X10_bits
set_option maxRecDepth 20000 in
theorem ggX10_core_X10_covered : GoodIn wsX10_core wsX10_covered := goodIn_r _ [37, 2, 8, 9, 6, 10, 15, 16, 17, 18, 19, 20, 21, 22, 23, 24, 25, 26, 27, 28, 29, 30, 38, 39, 40, 41, 42, 43, 44, 45, 46, 47, 48, 49, 50, 51, 52, 53, 54, 55, 56, 57, 58, 59, 60, 61, 62, 63, 64, 65, 66, 67] (by decide +kernel) (by decide +kernel)
set_option maxRecDepth 20000 in
theorem gX10_core_X10_covered : GoodIn wsX10_core (wsV RX10 219 RX10 yX10_covered wsX10_covered) := goodIn_app (goodIn_of _ (by decide +kernel)) ggX10_core_X10_covered
theorem dX10_core_0 : decode cX10_core 0 = .ok (.aload_n 0, 1) := by decide +kernel
theorem dX10_core_1 : decode cX10_core 1 = .ok (.iconst 0, 1) := by decide +kernel
theorem dX10_core_2 : decode cX10_core 2 = .ok (.putfield 82, 3) := by decide +kernel
theorem dX10_core_5 : decode cX10_core 5 = .ok (.aload_n 0, 1) := by decide +kernel
theorem dX10_core_6 : decode cX10_core 6 = .ok (.invokevirtual 208, 3) := by decide +kernel
theorem dX10_core_9 : decode cX10_core 9 = .ok (.ifCond .eq 8, 3) := by decide +kernel
theorem dX10_core_12 : decode cX10_core 12 = .ok (.iload_n 1, 1) := by decide +kernel
theorem dX10_core_13 : decode cX10_core 13 = .ok (.iconst (-1), 1) := by decide +kernel
theorem dX10_core_14 : decode cX10_core 14 = .ok (.if_icmp .ge 6, 3) := by decide +kernel
theorem dX10_core_17 : decode cX10_core 17 = .ok (.bipush (-3), 2) := by decide +kernel
theorem dX10_core_19 : decode cX10_core 19 = .ok (.ireturn, 1) := by decide +kernel
theorem dX10_core_20 : decode cX10_core 20 = .ok (.aload_n 0, 1) := by decide +kernel
theorem dX10_core_21 : decode cX10_core 21 = .ok (.getfield 9, 3) := by decide +kernel
theorem dX10_core_24 : decode cX10_core 24 = .ok (.iconst 1, 1) := by decide +kernel
theorem dX10_core_25 : decode cX10_core 25 = .ok (.iaload, 1) := by decide +kernel
theorem dX10_core_26 : decode cX10_core 26 = .ok (.istore_n 2, 1) := by decide +kernel
theorem dX10_core_27 : decode cX10_core 27 = .ok (.bipush (-2), 2) := by decide +kernel
theorem dX10_core_29 : decode cX10_core 29 = .ok (.istore_n 3, 1) := by decide +kernel
theorem dX10_core_30 : decode cX10_core 30 = .ok (.iconst 0, 1) := by decide +kernel
theorem dX10_core_31 : decode cX10_core 31 = .ok (.istore 4, 2) := by decide +kernel
theorem dX10_core_33 : decode cX10_core 33 = .ok (.iconst 1, 1) := by decide +kernel
theorem dX10_core_34 : decode cX10_core 34 = .ok (.istore 5, 2) := by decide +kernel
theorem dX10_core_36 : decode cX10_core 36 = .ok (.iload 5, 2) := by decide +kernel
theorem dX10_core_38 : decode cX10_core 38 = .ok (.ifCond .eq 110, 3) := by decide +kernel
theorem dX10_core_41 : decode cX10_core 41 = .ok (.iconst 0, 1) := by decide +kernel
theorem dX10_core_42 : decode cX10_core 42 = .ok (.istore 6, 2) := by decide +kernel
theorem dX10_core_44 : decode cX10_core 44 = .ok (.iload 6, 2) := by decide +kernel
theorem dX10_core_46 : decode cX10_core 46 = .ok (.bipush 9, 2) := by decide +kernel
theorem dX10_core_48 : decode cX10_core 48 = .ok (.if_icmp .ge 49, 3) := by decide +kernel
theorem dX10_core_51 : decode cX10_core 51 = .ok (.aload_n 0, 1) := by decide +kernel
theorem dX10_core_52 : decode cX10_core 52 = .ok (.getfield 9, 3) := by decide +kernel
theorem dX10_core_55 : decode cX10_core 55 = .ok (.iconst 1, 1) := by decide +kernel
theorem dX10_core_56 : decode cX10_core 56 = .ok (.iaload, 1) := by decide +kernel
theorem dX10_core_57 : decode cX10_core 57 = .ok (.iload 6, 2) := by decide +kernel
theorem dX10_core_59 : decode cX10_core 59 = .ok (.invokestatic 91, 3) := by decide +kernel
theorem dX10_core_62 : decode cX10_core 62 = .ok (.ifCond .eq 29, 3) := by decide +kernel
theorem dX10_core_65 : decode cX10_core 65 = .ok (.aload_n 0, 1) := by decide +kernel
theorem dX10_core_66 : decode cX10_core 66 = .ok (.iload 6, 2) := by decide +kernel
theorem dX10_core_68 : decode cX10_core 68 = .ok (.invokevirtual 216, 3) := by decide +kernel
theorem dX10_core_71 : decode cX10_core 71 = .ok (.invokestatic 194, 3) := by decide +kernel
theorem dX10_core_74 : decode cX10_core 74 = .ok (.iconst 1, 1) := by decide +kernel
theorem dX10_core_75 : decode cX10_core 75 = .ok (.if_icmp .eq 22, 3) := by decide +kernel
theorem dX10_core_78 : decode cX10_core 78 = .ok (.aload_n 0, 1) := by decide +kernel
theorem dX10_core_79 : decode cX10_core 79 = .ok (.iload 6, 2) := by decide +kernel
theorem dX10_core_81 : decode cX10_core 81 = .ok (.invokevirtual 219, 3) := by decide +kernel
theorem dX10_core_84 : decode cX10_core 84 = .ok (.invokestatic 194, 3) := by decide +kernel
theorem dX10_core_87 : decode cX10_core 87 = .ok (.iconst 1, 1) := by decide +kernel
theorem dX10_core_88 : decode cX10_core 88 = .ok (.if_icmp .eq 9, 3) := by decide +kernel
theorem dX10_core_91 : decode cX10_core 91 = .ok (.iinc 6 1, 3) := by decide +kernel
theorem dX10_core_94 : decode cX10_core 94 = .ok (.goto (-50), 3) := by decide +kernel
theorem dX10_core_97 : decode cX10_core 97 = .ok (.iload 6, 2) := by decide +kernel
theorem dX10_core_99 : decode cX10_core 99 = .ok (.bipush 9, 2) := by decide +kernel
theorem dX10_core_101 : decode cX10_core 101 = .ok (.if_icmp .ge 7, 3) := by decide +kernel
theorem dX10_core_104 : decode cX10_core 104 = .ok (.iconst 1, 1) := by decide +kernel
theorem dX10_core_105 : decode cX10_core 105 = .ok (.goto 4, 3) := by decide +kernel
theorem dX10_core_108 : decode cX10_core 108 = .ok (.iconst 0, 1) := by decide +kernel
theorem dX10_core_109 : decode cX10_core 109 = .ok (.istore 5, 2) := by decide +kernel
theorem dX10_core_111 : decode cX10_core 111 = .ok (.iload 5, 2) := by decide +kernel
theorem dX10_core_113 : decode cX10_core 113 = .ok (.ifCond .eq 32, 3) := by decide +kernel
theorem dX10_core_116 : decode cX10_core 116 = .ok (.iload 4, 2) := by decide +kernel
theorem dX10_core_118 : decode cX10_core 118 = .ok (.iload_n 1, 1) := by decide +kernel
theorem dX10_core_119 : decode cX10_core 119 = .ok (.if_icmp .ne 8, 3) := by decide +kernel
theorem dX10_core_122 : decode cX10_core 122 = .ok (.iload 6, 2) := by decide +kernel
theorem dX10_core_124 : decode cX10_core 124 = .ok (.goto 4, 3) := by decide +kernel
theorem dX10_core_127 : decode cX10_core 127 = .ok (.iload_n 3, 1) := by decide +kernel
theorem dX10_core_128 : decode cX10_core 128 = .ok (.istore_n 3, 1) := by decide +kernel
theorem dX10_core_129 : decode cX10_core 129 = .ok (.aload_n 0, 1) := by decide +kernel
theorem dX10_core_130 : decode cX10_core 130 = .ok (.getfield 9, 3) := by decide +kernel
theorem dX10_core_133 : decode cX10_core 133 = .ok (.iconst 1, 1) := by decide +kernel
theorem dX10_core_134 : decode cX10_core 134 = .ok (.dup2, 1) := by decide +kernel
theorem dX10_core_135 : decode cX10_core 135 = .ok (.iaload, 1) := by decide +kernel
theorem dX10_core_136 : decode cX10_core 136 = .ok (.iconst 1, 1) := by decide +kernel
theorem dX10_core_137 : decode cX10_core 137 = .ok (.iload 6, 2) := by decide +kernel
theorem dX10_core_139 : decode cX10_core 139 = .ok (.ishl, 1) := by decide +kernel
theorem dX10_core_140 : decode cX10_core 140 = .ok (.ixor, 1) := by decide +kernel
theorem dX10_core_141 : decode cX10_core 141 = .ok (.iastore, 1) := by decide +kernel
theorem dX10_core_142 : decode cX10_core 142 = .ok (.iinc 4 1, 3) := by decide +kernel
theorem dX10_core_145 : decode cX10_core 145 = .ok (.goto (-109), 3) := by decide +kernel
theorem dX10_core_148 : decode cX10_core 148 = .ok (.aload_n 0, 1) := by decide +kernel
theorem dX10_core_149 : decode cX10_core 149 = .ok (.getfield 9, 3) := by decide +kernel
theorem dX10_core_152 : decode cX10_core 152 = .ok (.iconst 1, 1) := by decide +kernel
theorem dX10_core_153 : decode cX10_core 153 = .ok (.iaload, 1) := by decide +kernel
theorem dX10_core_154 : decode cX10_core 154 = .ok (.invokestatic 194, 3) := by decide +kernel
theorem dX10_core_157 : decode cX10_core 157 = .ok (.istore 6, 2) := by decide +kernel
theorem dX10_core_159 : decode cX10_core 159 = .ok (.aload_n 0, 1) := by decide +kernel
theorem dX10_core_160 : decode cX10_core 160 = .ok (.getfield 9, 3) := by decide +kernel
theorem dX10_core_163 : decode cX10_core 163 = .ok (.iconst 1, 1) := by decide +kernel
theorem dX10_core_164 : decode cX10_core 164 = .ok (.iload_n 2, 1) := by decide +kernel
theorem dX10_core_165 : decode cX10_core 165 = .ok (.iastore, 1) := by decide +kernel
theorem dX10_core_166 : decode cX10_core 166 = .ok (.iload_n 1, 1) := by decide +kernel
theorem dX10_core_167 : decode cX10_core 167 = .ok (.iconst (-1), 1) := by decide +kernel
theorem dX10_core_168 : decode cX10_core 168 = .ok (.if_icmp .ne 8, 3) := by decide +kernel
theorem dX10_core_171 : decode cX10_core 171 = .ok (.iload 6, 2) := by decide +kernel
theorem dX10_core_173 : decode cX10_core 173 = .ok (.goto 4, 3) := by decide +kernel
theorem dX10_core_176 : decode cX10_core 176 = .ok (.iload_n 3, 1) := by decide +kernel
theorem dX10_core_177 : decode cX10_core 177 = .ok (.ireturn, 1) := by decide +kernel
set_option maxRecDepth 20000 in
theorem ggX10_fits_X10_has : GoodIn wsX10_fits wsX10_has := goodIn_r _ [7] (by decide +kernel) (by decide +kernel)
set_option maxRecDepth 20000 in
theorem gX10_fits_X10_has : GoodIn wsX10_fits (va_wsS RX10 91 yX10_has wsX10_has) := goodIn_app (goodIn_of _ (by decide +kernel)) ggX10_fits_X10_has
set_option maxRecDepth 20000 in
theorem ggX10_fits_X10_isBelow : GoodIn wsX10_fits wsX10_isBelow := goodIn_r _ [11, 2, 4, 5, 6, 7, 12, 13, 14, 15, 16, 17, 18, 19, 20, 21, 22, 23, 24, 25, 26, 27, 28, 29, 30, 31, 32, 33, 34, 35, 36, 37, 38, 39, 40, 41] (by decide +kernel) (by decide +kernel)
set_option maxRecDepth 20000 in
theorem gX10_fits_X10_isBelow : GoodIn wsX10_fits (wsV RX10 99 RX10 yX10_isBelow wsX10_isBelow) := goodIn_app (goodIn_of _ (by decide +kernel)) ggX10_fits_X10_isBelow
theorem dX10_fits_0 : decode cX10_fits 0 = .ok (.aload_n 0, 1) := by decide +kernel
theorem dX10_fits_1 : decode cX10_fits 1 = .ok (.getfield 76, 3) := by decide +kernel
theorem dX10_fits_4 : decode cX10_fits 4 = .ok (.bipush 9, 2) := by decide +kernel
theorem dX10_fits_6 : decode cX10_fits 6 = .ok (.iaload, 1) := by decide +kernel
theorem dX10_fits_7 : decode cX10_fits 7 = .ok (.iload_n 3, 1) := by decide +kernel
theorem dX10_fits_8 : decode cX10_fits 8 = .ok (.iconst (-1), 1) := by decide +kernel
theorem dX10_fits_9 : decode cX10_fits 9 = .ok (.ixor, 1) := by decide +kernel
theorem dX10_fits_10 : decode cX10_fits 10 = .ok (.iand, 1) := by decide +kernel
theorem dX10_fits_11 : decode cX10_fits 11 = .ok (.iload_n 2, 1) := by decide +kernel
theorem dX10_fits_12 : decode cX10_fits 12 = .ok (.invokestatic 91, 3) := by decide +kernel
theorem dX10_fits_15 : decode cX10_fits 15 = .ok (.ifCond .ne 5, 3) := by decide +kernel
theorem dX10_fits_18 : decode cX10_fits 18 = .ok (.iconst 0, 1) := by decide +kernel
theorem dX10_fits_19 : decode cX10_fits 19 = .ok (.ireturn, 1) := by decide +kernel
theorem dX10_fits_20 : decode cX10_fits 20 = .ok (.iconst 0, 1) := by decide +kernel
theorem dX10_fits_21 : decode cX10_fits 21 = .ok (.istore 4, 2) := by decide +kernel
theorem dX10_fits_23 : decode cX10_fits 23 = .ok (.iload 4, 2) := by decide +kernel
theorem dX10_fits_25 : decode cX10_fits 25 = .ok (.iload_n 1, 1) := by decide +kernel
theorem dX10_fits_26 : decode cX10_fits 26 = .ok (.if_icmp .ge 77, 3) := by decide +kernel
theorem dX10_fits_29 : decode cX10_fits 29 = .ok (.aload_n 0, 1) := by decide +kernel
theorem dX10_fits_30 : decode cX10_fits 30 = .ok (.getfield 9, 3) := by decide +kernel
theorem dX10_fits_33 : decode cX10_fits 33 = .ok (.iconst 1, 1) := by decide +kernel
theorem dX10_fits_34 : decode cX10_fits 34 = .ok (.iaload, 1) := by decide +kernel
theorem dX10_fits_35 : decode cX10_fits 35 = .ok (.iload 4, 2) := by decide +kernel
theorem dX10_fits_37 : decode cX10_fits 37 = .ok (.invokestatic 91, 3) := by decide +kernel
theorem dX10_fits_40 : decode cX10_fits 40 = .ok (.ifCond .eq 57, 3) := by decide +kernel
theorem dX10_fits_43 : decode cX10_fits 43 = .ok (.aload_n 0, 1) := by decide +kernel
theorem dX10_fits_44 : decode cX10_fits 44 = .ok (.iload 4, 2) := by decide +kernel
theorem dX10_fits_46 : decode cX10_fits 46 = .ok (.iload_n 1, 1) := by decide +kernel
theorem dX10_fits_47 : decode cX10_fits 47 = .ok (.invokevirtual 99, 3) := by decide +kernel
theorem dX10_fits_50 : decode cX10_fits 50 = .ok (.aload_n 0, 1) := by decide +kernel
theorem dX10_fits_51 : decode cX10_fits 51 = .ok (.getfield 76, 3) := by decide +kernel
theorem dX10_fits_54 : decode cX10_fits 54 = .ok (.aload_n 0, 1) := by decide +kernel
theorem dX10_fits_55 : decode cX10_fits 55 = .ok (.getfield 79, 3) := by decide +kernel
theorem dX10_fits_58 : decode cX10_fits 58 = .ok (.iload 4, 2) := by decide +kernel
theorem dX10_fits_60 : decode cX10_fits 60 = .ok (.iaload, 1) := by decide +kernel
theorem dX10_fits_61 : decode cX10_fits 61 = .ok (.iaload, 1) := by decide +kernel
theorem dX10_fits_62 : decode cX10_fits 62 = .ok (.iload_n 2, 1) := by decide +kernel
theorem dX10_fits_63 : decode cX10_fits 63 = .ok (.invokestatic 91, 3) := by decide +kernel
theorem dX10_fits_66 : decode cX10_fits 66 = .ok (.if_icmp .ne 29, 3) := by decide +kernel
theorem dX10_fits_69 : decode cX10_fits 69 = .ok (.aload_n 0, 1) := by decide +kernel
theorem dX10_fits_70 : decode cX10_fits 70 = .ok (.iload_n 1, 1) := by decide +kernel
theorem dX10_fits_71 : decode cX10_fits 71 = .ok (.iload 4, 2) := by decide +kernel
theorem dX10_fits_73 : decode cX10_fits 73 = .ok (.invokevirtual 99, 3) := by decide +kernel
theorem dX10_fits_76 : decode cX10_fits 76 = .ok (.aload_n 0, 1) := by decide +kernel
theorem dX10_fits_77 : decode cX10_fits 77 = .ok (.getfield 76, 3) := by decide +kernel
theorem dX10_fits_80 : decode cX10_fits 80 = .ok (.iload_n 2, 1) := by decide +kernel
theorem dX10_fits_81 : decode cX10_fits 81 = .ok (.iaload, 1) := by decide +kernel
theorem dX10_fits_82 : decode cX10_fits 82 = .ok (.aload_n 0, 1) := by decide +kernel
theorem dX10_fits_83 : decode cX10_fits 83 = .ok (.getfield 79, 3) := by decide +kernel
theorem dX10_fits_86 : decode cX10_fits 86 = .ok (.iload 4, 2) := by decide +kernel
theorem dX10_fits_88 : decode cX10_fits 88 = .ok (.iaload, 1) := by decide +kernel
theorem dX10_fits_89 : decode cX10_fits 89 = .ok (.invokestatic 91, 3) := by decide +kernel
theorem dX10_fits_92 : decode cX10_fits 92 = .ok (.if_icmp .eq 5, 3) := by decide +kernel
theorem dX10_fits_95 : decode cX10_fits 95 = .ok (.iconst 0, 1) := by decide +kernel
theorem dX10_fits_96 : decode cX10_fits 96 = .ok (.ireturn, 1) := by decide +kernel
theorem dX10_fits_97 : decode cX10_fits 97 = .ok (.iinc 4 1, 3) := by decide +kernel
theorem dX10_fits_100 : decode cX10_fits 100 = .ok (.goto (-77), 3) := by decide +kernel
theorem dX10_fits_103 : decode cX10_fits 103 = .ok (.iconst 1, 1) := by decide +kernel
theorem dX10_fits_104 : decode cX10_fits 104 = .ok (.ireturn, 1) := by decide +kernel
set_option maxRecDepth 20000 in
theorem ggX10_laidOn_X10_has : GoodIn wsX10_laidOn wsX10_has := goodIn_r _ [6] (by decide +kernel) (by decide +kernel)
set_option maxRecDepth 20000 in
theorem gX10_laidOn_X10_has : GoodIn wsX10_laidOn (va_wsS RX10 91 yX10_has wsX10_has) := goodIn_app (goodIn_of _ (by decide +kernel)) ggX10_laidOn_X10_has
set_option maxRecDepth 20000 in
theorem ggX10_laidOn_X10_fits : GoodIn wsX10_laidOn wsX10_fits := goodIn_r _ [10, 11, 2, 1, 3, 4, 5, 6, 12, 13, 14, 15, 16, 17, 18, 19, 20, 21, 22, 23, 24, 25, 26, 27, 28, 29, 30, 31, 32, 33, 34, 35, 36, 37, 38, 39, 40, 41, 42, 43, 44, 45] (by decide +kernel) (by decide +kernel)
set_option maxRecDepth 20000 in
theorem gX10_laidOn_X10_fits : GoodIn wsX10_laidOn (wsV RX10 379 RX10 yX10_fits wsX10_fits) := goodIn_app (goodIn_of _ (by decide +kernel)) ggX10_laidOn_X10_fits
theorem dX10_laidOn_0 : decode cX10_laidOn 0 = .ok (.iconst 0, 1) := by decide +kernel
theorem dX10_laidOn_1 : decode cX10_laidOn 1 = .ok (.istore_n 1, 1) := by decide +kernel
theorem dX10_laidOn_2 : decode cX10_laidOn 2 = .ok (.iconst 0, 1) := by decide +kernel
theorem dX10_laidOn_3 : decode cX10_laidOn 3 = .ok (.istore_n 2, 1) := by decide +kernel
theorem dX10_laidOn_4 : decode cX10_laidOn 4 = .ok (.iconst 0, 1) := by decide +kernel
theorem dX10_laidOn_5 : decode cX10_laidOn 5 = .ok (.istore_n 3, 1) := by decide +kernel
theorem dX10_laidOn_6 : decode cX10_laidOn 6 = .ok (.iconst 0, 1) := by decide +kernel
theorem dX10_laidOn_7 : decode cX10_laidOn 7 = .ok (.istore 4, 2) := by decide +kernel
theorem dX10_laidOn_9 : decode cX10_laidOn 9 = .ok (.iload 4, 2) := by decide +kernel
theorem dX10_laidOn_11 : decode cX10_laidOn 11 = .ok (.bipush 9, 2) := by decide +kernel
theorem dX10_laidOn_13 : decode cX10_laidOn 13 = .ok (.if_icmp .ge 17, 3) := by decide +kernel
theorem dX10_laidOn_16 : decode cX10_laidOn 16 = .ok (.aload_n 0, 1) := by decide +kernel
theorem dX10_laidOn_17 : decode cX10_laidOn 17 = .ok (.getfield 79, 3) := by decide +kernel
theorem dX10_laidOn_20 : decode cX10_laidOn 20 = .ok (.iload 4, 2) := by decide +kernel
theorem dX10_laidOn_22 : decode cX10_laidOn 22 = .ok (.iconst (-1), 1) := by decide +kernel
theorem dX10_laidOn_23 : decode cX10_laidOn 23 = .ok (.iastore, 1) := by decide +kernel
theorem dX10_laidOn_24 : decode cX10_laidOn 24 = .ok (.iinc 4 1, 3) := by decide +kernel
theorem dX10_laidOn_27 : decode cX10_laidOn 27 = .ok (.goto (-18), 3) := by decide +kernel
theorem dX10_laidOn_30 : decode cX10_laidOn 30 = .ok (.iload_n 2, 1) := by decide +kernel
theorem dX10_laidOn_31 : decode cX10_laidOn 31 = .ok (.ifCond .lt 184, 3) := by decide +kernel
theorem dX10_laidOn_34 : decode cX10_laidOn 34 = .ok (.iload_n 2, 1) := by decide +kernel
theorem dX10_laidOn_35 : decode cX10_laidOn 35 = .ok (.bipush 9, 2) := by decide +kernel
theorem dX10_laidOn_37 : decode cX10_laidOn 37 = .ok (.if_icmp .ge 7, 3) := by decide +kernel
theorem dX10_laidOn_40 : decode cX10_laidOn 40 = .ok (.iconst 1, 1) := by decide +kernel
theorem dX10_laidOn_41 : decode cX10_laidOn 41 = .ok (.goto 4, 3) := by decide +kernel
theorem dX10_laidOn_44 : decode cX10_laidOn 44 = .ok (.iconst 0, 1) := by decide +kernel
theorem dX10_laidOn_45 : decode cX10_laidOn 45 = .ok (.istore 4, 2) := by decide +kernel
theorem dX10_laidOn_47 : decode cX10_laidOn 47 = .ok (.iload 4, 2) := by decide +kernel
theorem dX10_laidOn_49 : decode cX10_laidOn 49 = .ok (.ifCond .ne 9, 3) := by decide +kernel
theorem dX10_laidOn_52 : decode cX10_laidOn 52 = .ok (.iinc 1 1, 3) := by decide +kernel
theorem dX10_laidOn_55 : decode cX10_laidOn 55 = .ok (.goto 142, 3) := by decide +kernel
theorem dX10_laidOn_58 : decode cX10_laidOn 58 = .ok (.aload_n 0, 1) := by decide +kernel
theorem dX10_laidOn_59 : decode cX10_laidOn 59 = .ok (.getfield 9, 3) := by decide +kernel
theorem dX10_laidOn_62 : decode cX10_laidOn 62 = .ok (.iconst 1, 1) := by decide +kernel
theorem dX10_laidOn_63 : decode cX10_laidOn 63 = .ok (.iaload, 1) := by decide +kernel
theorem dX10_laidOn_64 : decode cX10_laidOn 64 = .ok (.iload_n 2, 1) := by decide +kernel
theorem dX10_laidOn_65 : decode cX10_laidOn 65 = .ok (.invokestatic 91, 3) := by decide +kernel
theorem dX10_laidOn_68 : decode cX10_laidOn 68 = .ok (.ifCond .ne 27, 3) := by decide +kernel
theorem dX10_laidOn_71 : decode cX10_laidOn 71 = .ok (.aload_n 0, 1) := by decide +kernel
theorem dX10_laidOn_72 : decode cX10_laidOn 72 = .ok (.getfield 79, 3) := by decide +kernel
theorem dX10_laidOn_75 : decode cX10_laidOn 75 = .ok (.iload_n 2, 1) := by decide +kernel
theorem dX10_laidOn_76 : decode cX10_laidOn 76 = .ok (.iaload, 1) := by decide +kernel
theorem dX10_laidOn_77 : decode cX10_laidOn 77 = .ok (.iconst (-1), 1) := by decide +kernel
theorem dX10_laidOn_78 : decode cX10_laidOn 78 = .ok (.if_icmp .ne 17, 3) := by decide +kernel
theorem dX10_laidOn_81 : decode cX10_laidOn 81 = .ok (.aload_n 0, 1) := by decide +kernel
theorem dX10_laidOn_82 : decode cX10_laidOn 82 = .ok (.getfield 79, 3) := by decide +kernel
theorem dX10_laidOn_85 : decode cX10_laidOn 85 = .ok (.iload_n 2, 1) := by decide +kernel
theorem dX10_laidOn_86 : decode cX10_laidOn 86 = .ok (.bipush 9, 2) := by decide +kernel
theorem dX10_laidOn_88 : decode cX10_laidOn 88 = .ok (.iastore, 1) := by decide +kernel
theorem dX10_laidOn_89 : decode cX10_laidOn 89 = .ok (.iinc 2 1, 3) := by decide +kernel
theorem dX10_laidOn_92 : decode cX10_laidOn 92 = .ok (.goto (-62), 3) := by decide +kernel
theorem dX10_laidOn_95 : decode cX10_laidOn 95 = .ok (.aload_n 0, 1) := by decide +kernel
theorem dX10_laidOn_96 : decode cX10_laidOn 96 = .ok (.getfield 9, 3) := by decide +kernel
theorem dX10_laidOn_99 : decode cX10_laidOn 99 = .ok (.iconst 1, 1) := by decide +kernel
theorem dX10_laidOn_100 : decode cX10_laidOn 100 = .ok (.iaload, 1) := by decide +kernel
theorem dX10_laidOn_101 : decode cX10_laidOn 101 = .ok (.iload_n 2, 1) := by decide +kernel
theorem dX10_laidOn_102 : decode cX10_laidOn 102 = .ok (.invokestatic 91, 3) := by decide +kernel
theorem dX10_laidOn_105 : decode cX10_laidOn 105 = .ok (.ifCond .eq 92, 3) := by decide +kernel
theorem dX10_laidOn_108 : decode cX10_laidOn 108 = .ok (.iload_n 3, 1) := by decide +kernel
theorem dX10_laidOn_109 : decode cX10_laidOn 109 = .ok (.aload_n 0, 1) := by decide +kernel
theorem dX10_laidOn_110 : decode cX10_laidOn 110 = .ok (.getfield 79, 3) := by decide +kernel
theorem dX10_laidOn_113 : decode cX10_laidOn 113 = .ok (.iload_n 2, 1) := by decide +kernel
theorem dX10_laidOn_114 : decode cX10_laidOn 114 = .ok (.iaload, 1) := by decide +kernel
theorem dX10_laidOn_115 : decode cX10_laidOn 115 = .ok (.iconst (-1), 1) := by decide +kernel
theorem dX10_laidOn_116 : decode cX10_laidOn 116 = .ok (.if_icmp .ne 7, 3) := by decide +kernel
theorem dX10_laidOn_119 : decode cX10_laidOn 119 = .ok (.iload_n 3, 1) := by decide +kernel
theorem dX10_laidOn_120 : decode cX10_laidOn 120 = .ok (.goto 13, 3) := by decide +kernel
theorem dX10_laidOn_123 : decode cX10_laidOn 123 = .ok (.iconst 1, 1) := by decide +kernel
theorem dX10_laidOn_124 : decode cX10_laidOn 124 = .ok (.aload_n 0, 1) := by decide +kernel
theorem dX10_laidOn_125 : decode cX10_laidOn 125 = .ok (.getfield 79, 3) := by decide +kernel
theorem dX10_laidOn_128 : decode cX10_laidOn 128 = .ok (.iload_n 2, 1) := by decide +kernel
theorem dX10_laidOn_129 : decode cX10_laidOn 129 = .ok (.iaload, 1) := by decide +kernel
theorem dX10_laidOn_130 : decode cX10_laidOn 130 = .ok (.ishl, 1) := by decide +kernel
theorem dX10_laidOn_131 : decode cX10_laidOn 131 = .ok (.iconst (-1), 1) := by decide +kernel
theorem dX10_laidOn_132 : decode cX10_laidOn 132 = .ok (.ixor, 1) := by decide +kernel
theorem dX10_laidOn_133 : decode cX10_laidOn 133 = .ok (.iand, 1) := by decide +kernel
theorem dX10_laidOn_134 : decode cX10_laidOn 134 = .ok (.istore_n 3, 1) := by decide +kernel
theorem dX10_laidOn_135 : decode cX10_laidOn 135 = .ok (.aload_n 0, 1) := by decide +kernel
theorem dX10_laidOn_136 : decode cX10_laidOn 136 = .ok (.getfield 79, 3) := by decide +kernel
theorem dX10_laidOn_139 : decode cX10_laidOn 139 = .ok (.iload_n 2, 1) := by decide +kernel
theorem dX10_laidOn_140 : decode cX10_laidOn 140 = .ok (.iaload, 1) := by decide +kernel
theorem dX10_laidOn_141 : decode cX10_laidOn 141 = .ok (.iconst 1, 1) := by decide +kernel
theorem dX10_laidOn_142 : decode cX10_laidOn 142 = .ok (.iadd, 1) := by decide +kernel
theorem dX10_laidOn_143 : decode cX10_laidOn 143 = .ok (.istore 5, 2) := by decide +kernel
theorem dX10_laidOn_145 : decode cX10_laidOn 145 = .ok (.iload 5, 2) := by decide +kernel
theorem dX10_laidOn_147 : decode cX10_laidOn 147 = .ok (.bipush 9, 2) := by decide +kernel
theorem dX10_laidOn_149 : decode cX10_laidOn 149 = .ok (.if_icmp .ge 20, 3) := by decide +kernel
theorem dX10_laidOn_152 : decode cX10_laidOn 152 = .ok (.aload_n 0, 1) := by decide +kernel
theorem dX10_laidOn_153 : decode cX10_laidOn 153 = .ok (.iload_n 2, 1) := by decide +kernel
theorem dX10_laidOn_154 : decode cX10_laidOn 154 = .ok (.iload 5, 2) := by decide +kernel
theorem dX10_laidOn_156 : decode cX10_laidOn 156 = .ok (.iload_n 3, 1) := by decide +kernel
theorem dX10_laidOn_157 : decode cX10_laidOn 157 = .ok (.invokevirtual 379, 3) := by decide +kernel
theorem dX10_laidOn_160 : decode cX10_laidOn 160 = .ok (.ifCond .ne 9, 3) := by decide +kernel
theorem dX10_laidOn_163 : decode cX10_laidOn 163 = .ok (.iinc 5 1, 3) := by decide +kernel
theorem dX10_laidOn_166 : decode cX10_laidOn 166 = .ok (.goto (-21), 3) := by decide +kernel
theorem dX10_laidOn_169 : decode cX10_laidOn 169 = .ok (.iload 5, 2) := by decide +kernel
theorem dX10_laidOn_171 : decode cX10_laidOn 171 = .ok (.bipush 9, 2) := by decide +kernel
theorem dX10_laidOn_173 : decode cX10_laidOn 173 = .ok (.if_icmp .ge 24, 3) := by decide +kernel
theorem dX10_laidOn_176 : decode cX10_laidOn 176 = .ok (.aload_n 0, 1) := by decide +kernel
theorem dX10_laidOn_177 : decode cX10_laidOn 177 = .ok (.getfield 79, 3) := by decide +kernel
theorem dX10_laidOn_180 : decode cX10_laidOn 180 = .ok (.iload_n 2, 1) := by decide +kernel
theorem dX10_laidOn_181 : decode cX10_laidOn 181 = .ok (.iload 5, 2) := by decide +kernel
theorem dX10_laidOn_183 : decode cX10_laidOn 183 = .ok (.iastore, 1) := by decide +kernel
theorem dX10_laidOn_184 : decode cX10_laidOn 184 = .ok (.iload_n 3, 1) := by decide +kernel
theorem dX10_laidOn_185 : decode cX10_laidOn 185 = .ok (.iconst 1, 1) := by decide +kernel
theorem dX10_laidOn_186 : decode cX10_laidOn 186 = .ok (.iload 5, 2) := by decide +kernel
theorem dX10_laidOn_188 : decode cX10_laidOn 188 = .ok (.ishl, 1) := by decide +kernel
theorem dX10_laidOn_189 : decode cX10_laidOn 189 = .ok (.ior, 1) := by decide +kernel
theorem dX10_laidOn_190 : decode cX10_laidOn 190 = .ok (.istore_n 3, 1) := by decide +kernel
theorem dX10_laidOn_191 : decode cX10_laidOn 191 = .ok (.iinc 2 1, 3) := by decide +kernel
theorem dX10_laidOn_194 : decode cX10_laidOn 194 = .ok (.goto (-164), 3) := by decide +kernel
theorem dX10_laidOn_197 : decode cX10_laidOn 197 = .ok (.iload 4, 2) := by decide +kernel
theorem dX10_laidOn_199 : decode cX10_laidOn 199 = .ok (.ifCond .eq 10, 3) := by decide +kernel
theorem dX10_laidOn_202 : decode cX10_laidOn 202 = .ok (.aload_n 0, 1) := by decide +kernel
theorem dX10_laidOn_203 : decode cX10_laidOn 203 = .ok (.getfield 79, 3) := by decide +kernel
theorem dX10_laidOn_206 : decode cX10_laidOn 206 = .ok (.iload_n 2, 1) := by decide +kernel
theorem dX10_laidOn_207 : decode cX10_laidOn 207 = .ok (.iconst (-1), 1) := by decide +kernel
theorem dX10_laidOn_208 : decode cX10_laidOn 208 = .ok (.iastore, 1) := by decide +kernel
theorem dX10_laidOn_209 : decode cX10_laidOn 209 = .ok (.iinc 2 (-1), 3) := by decide +kernel
theorem dX10_laidOn_212 : decode cX10_laidOn 212 = .ok (.goto (-182), 3) := by decide +kernel
theorem dX10_laidOn_215 : decode cX10_laidOn 215 = .ok (.iload_n 1, 1) := by decide +kernel
theorem dX10_laidOn_216 : decode cX10_laidOn 216 = .ok (.ireturn, 1) := by decide +kernel
set_option maxRecDepth 20000 in
theorem ggX10_selves_X10_isTold : GoodIn wsX10_selves wsX10_isTold := goodIn_r _ [8, 3, 29, 30, 31, 32, 33, 34, 35, 36, 37, 38, 39, 40, 41, 42, 43, 44, 45, 46, 47, 48, 49, 50, 51, 52, 53, 54, 55, 56, 57, 58] (by decide +kernel) (by decide +kernel)
set_option maxRecDepth 20000 in
theorem gX10_selves_X10_isTold : GoodIn wsX10_selves (wsV RX10 208 RX10 yX10_isTold wsX10_isTold) := goodIn_app (goodIn_of _ (by decide +kernel)) ggX10_selves_X10_isTold
set_option maxRecDepth 20000 in
theorem ggX10_selves_X10_above : GoodIn wsX10_selves wsX10_above := goodIn_r _ [12, 3, 29, 30, 31, 32, 33, 34, 35, 36, 37, 38, 39, 40, 41, 42, 43, 44, 45, 46, 47, 48, 49, 50, 51, 52, 53, 54, 55, 56, 57, 58] (by decide +kernel) (by decide +kernel)
set_option maxRecDepth 20000 in
theorem gX10_selves_X10_above : GoodIn wsX10_selves (wsV RX10 102 RX10 yX10_above wsX10_above) := goodIn_app (goodIn_of _ (by decide +kernel)) ggX10_selves_X10_above
set_option maxRecDepth 20000 in
theorem ggX10_selves_X10_laidOn : GoodIn wsX10_selves wsX10_laidOn := goodIn_r _ [16, 17, 3, 18, 19, 7, 20, 21, 22, 23, 24, 2, 25, 26, 27, 28, 29, 30, 31, 32, 33, 34, 35, 36, 37, 38, 39, 40, 41, 42, 43, 44, 45, 46, 47, 48, 49, 50, 51, 52, 53, 54, 55, 56, 57, 58] (by decide +kernel) (by decide +kernel)
set_option maxRecDepth 20000 in
theorem gX10_selves_X10_laidOn : GoodIn wsX10_selves (wsV RX10 383 RX10 yX10_laidOn wsX10_laidOn) := goodIn_app (goodIn_of _ (by decide +kernel)) ggX10_selves_X10_laidOn
theorem dX10_selves_0 : decode cX10_selves 0 = .ok (.aload_n 0, 1) := by decide +kernel
theorem dX10_selves_1 : decode cX10_selves 1 = .ok (.iconst 0, 1) := by decide +kernel
theorem dX10_selves_2 : decode cX10_selves 2 = .ok (.putfield 82, 3) := by decide +kernel
theorem dX10_selves_5 : decode cX10_selves 5 = .ok (.aload_n 0, 1) := by decide +kernel
theorem dX10_selves_6 : decode cX10_selves 6 = .ok (.invokevirtual 208, 3) := by decide +kernel
theorem dX10_selves_9 : decode cX10_selves 9 = .ok (.ifCond .ne 5, 3) := by decide +kernel
theorem dX10_selves_12 : decode cX10_selves 12 = .ok (.iconst (-1), 1) := by decide +kernel
theorem dX10_selves_13 : decode cX10_selves 13 = .ok (.ireturn, 1) := by decide +kernel
theorem dX10_selves_14 : decode cX10_selves 14 = .ok (.iconst 0, 1) := by decide +kernel
theorem dX10_selves_15 : decode cX10_selves 15 = .ok (.istore_n 1, 1) := by decide +kernel
theorem dX10_selves_16 : decode cX10_selves 16 = .ok (.iload_n 1, 1) := by decide +kernel
theorem dX10_selves_17 : decode cX10_selves 17 = .ok (.bipush 9, 2) := by decide +kernel
theorem dX10_selves_19 : decode cX10_selves 19 = .ok (.if_icmp .ge 20, 3) := by decide +kernel
theorem dX10_selves_22 : decode cX10_selves 22 = .ok (.aload_n 0, 1) := by decide +kernel
theorem dX10_selves_23 : decode cX10_selves 23 = .ok (.getfield 76, 3) := by decide +kernel
theorem dX10_selves_26 : decode cX10_selves 26 = .ok (.iload_n 1, 1) := by decide +kernel
theorem dX10_selves_27 : decode cX10_selves 27 = .ok (.aload_n 0, 1) := by decide +kernel
theorem dX10_selves_28 : decode cX10_selves 28 = .ok (.iload_n 1, 1) := by decide +kernel
theorem dX10_selves_29 : decode cX10_selves 29 = .ok (.invokevirtual 102, 3) := by decide +kernel
theorem dX10_selves_32 : decode cX10_selves 32 = .ok (.iastore, 1) := by decide +kernel
theorem dX10_selves_33 : decode cX10_selves 33 = .ok (.iinc 1 1, 3) := by decide +kernel
theorem dX10_selves_36 : decode cX10_selves 36 = .ok (.goto (-20), 3) := by decide +kernel
theorem dX10_selves_39 : decode cX10_selves 39 = .ok (.aload_n 0, 1) := by decide +kernel
theorem dX10_selves_40 : decode cX10_selves 40 = .ok (.getfield 76, 3) := by decide +kernel
theorem dX10_selves_43 : decode cX10_selves 43 = .ok (.bipush 9, 2) := by decide +kernel
theorem dX10_selves_45 : decode cX10_selves 45 = .ok (.aload_n 0, 1) := by decide +kernel
theorem dX10_selves_46 : decode cX10_selves 46 = .ok (.getfield 9, 3) := by decide +kernel
theorem dX10_selves_49 : decode cX10_selves 49 = .ok (.iconst 1, 1) := by decide +kernel
theorem dX10_selves_50 : decode cX10_selves 50 = .ok (.iaload, 1) := by decide +kernel
theorem dX10_selves_51 : decode cX10_selves 51 = .ok (.iastore, 1) := by decide +kernel
theorem dX10_selves_52 : decode cX10_selves 52 = .ok (.aload_n 0, 1) := by decide +kernel
theorem dX10_selves_53 : decode cX10_selves 53 = .ok (.invokevirtual 383, 3) := by decide +kernel
theorem dX10_selves_56 : decode cX10_selves 56 = .ok (.ireturn, 1) := by decide +kernel
set_option maxRecDepth 20000 in
theorem ggX10_like_X10_isIn : GoodIn wsX10_like wsX10_isIn := goodIn_r _ [9] (by decide +kernel) (by decide +kernel)
set_option maxRecDepth 20000 in
theorem gX10_like_X10_isIn : GoodIn wsX10_like (va_wsS RX10 87 yX10_isIn wsX10_isIn) := goodIn_app (goodIn_of _ (by decide +kernel)) ggX10_like_X10_isIn
set_option maxRecDepth 20000 in
theorem ggX10_like_X10_bits : GoodIn wsX10_like wsX10_bits := goodIn_r _ [12] (by decide +kernel) (by decide +kernel)
set_option maxRecDepth 20000 in
theorem gX10_like_X10_bits : GoodIn wsX10_like (va_wsS RX10 194 yX10_bits wsX10_bits) := goodIn_app (goodIn_of _ (by decide +kernel)) ggX10_like_X10_bits
set_option maxRecDepth 20000 in
theorem ggX10_like_X10_laidOn : GoodIn wsX10_like wsX10_laidOn := goodIn_r _ [16, 17, 5, 18, 19, 8, 20, 21, 22, 23, 24, 3, 25, 26, 27, 28, 29, 30, 31, 32, 33, 34, 35, 36, 37, 38, 39, 40, 41, 42, 43, 44, 45, 46, 47, 48, 49, 50, 51, 52, 53, 54, 55, 56, 57, 58] (by decide +kernel) (by decide +kernel)
set_option maxRecDepth 20000 in
theorem gX10_like_X10_laidOn : GoodIn wsX10_like (wsV RX10 383 RX10 yX10_laidOn wsX10_laidOn) := goodIn_app (goodIn_of _ (by decide +kernel)) ggX10_like_X10_laidOn
theorem dX10_like_0 : decode cX10_like 0 = .ok (.aload_n 0, 1) := by decide +kernel
theorem dX10_like_1 : decode cX10_like 1 = .ok (.iconst 0, 1) := by decide +kernel
theorem dX10_like_2 : decode cX10_like 2 = .ok (.putfield 82, 3) := by decide +kernel
theorem dX10_like_5 : decode cX10_like 5 = .ok (.iload_n 1, 1) := by decide +kernel
theorem dX10_like_6 : decode cX10_like 6 = .ok (.i2l, 1) := by decide +kernel
theorem dX10_like_7 : decode cX10_like 7 = .ok (.lconst 0, 1) := by decide +kernel
theorem dX10_like_8 : decode cX10_like 8 = .ok (.lconst 1, 1) := by decide +kernel
theorem dX10_like_9 : decode cX10_like 9 = .ok (.invokestatic 87, 3) := by decide +kernel
theorem dX10_like_12 : decode cX10_like 12 = .ok (.ifCond .eq 12, 3) := by decide +kernel
theorem dX10_like_15 : decode cX10_like 15 = .ok (.aload_n 0, 1) := by decide +kernel
theorem dX10_like_16 : decode cX10_like 16 = .ok (.getfield 24, 3) := by decide +kernel
theorem dX10_like_19 : decode cX10_like 19 = .ok (.iload_n 1, 1) := by decide +kernel
theorem dX10_like_20 : decode cX10_like 20 = .ok (.baload, 1) := by decide +kernel
theorem dX10_like_21 : decode cX10_like 21 = .ok (.ifCond .ne 5, 3) := by decide +kernel
theorem dX10_like_24 : decode cX10_like 24 = .ok (.iconst (-1), 1) := by decide +kernel
theorem dX10_like_25 : decode cX10_like 25 = .ok (.ireturn, 1) := by decide +kernel
theorem dX10_like_26 : decode cX10_like 26 = .ok (.aload_n 0, 1) := by decide +kernel
theorem dX10_like_27 : decode cX10_like 27 = .ok (.getfield 76, 3) := by decide +kernel
theorem dX10_like_30 : decode cX10_like 30 = .ok (.bipush 9, 2) := by decide +kernel
theorem dX10_like_32 : decode cX10_like 32 = .ok (.aload_n 0, 1) := by decide +kernel
theorem dX10_like_33 : decode cX10_like 33 = .ok (.getfield 21, 3) := by decide +kernel
theorem dX10_like_36 : decode cX10_like 36 = .ok (.bipush 93, 2) := by decide +kernel
theorem dX10_like_38 : decode cX10_like 38 = .ok (.iload_n 1, 1) := by decide +kernel
theorem dX10_like_39 : decode cX10_like 39 = .ok (.imul, 1) := by decide +kernel
theorem dX10_like_40 : decode cX10_like 40 = .ok (.iconst 1, 1) := by decide +kernel
theorem dX10_like_41 : decode cX10_like 41 = .ok (.iadd, 1) := by decide +kernel
theorem dX10_like_42 : decode cX10_like 42 = .ok (.iaload, 1) := by decide +kernel
theorem dX10_like_43 : decode cX10_like 43 = .ok (.iastore, 1) := by decide +kernel
theorem dX10_like_44 : decode cX10_like 44 = .ok (.iconst 0, 1) := by decide +kernel
theorem dX10_like_45 : decode cX10_like 45 = .ok (.istore_n 2, 1) := by decide +kernel
theorem dX10_like_46 : decode cX10_like 46 = .ok (.iload_n 2, 1) := by decide +kernel
theorem dX10_like_47 : decode cX10_like 47 = .ok (.bipush 9, 2) := by decide +kernel
theorem dX10_like_49 : decode cX10_like 49 = .ok (.if_icmp .ge 36, 3) := by decide +kernel
theorem dX10_like_52 : decode cX10_like 52 = .ok (.aload_n 0, 1) := by decide +kernel
theorem dX10_like_53 : decode cX10_like 53 = .ok (.getfield 76, 3) := by decide +kernel
theorem dX10_like_56 : decode cX10_like 56 = .ok (.iload_n 2, 1) := by decide +kernel
theorem dX10_like_57 : decode cX10_like 57 = .ok (.aload_n 0, 1) := by decide +kernel
theorem dX10_like_58 : decode cX10_like 58 = .ok (.getfield 21, 3) := by decide +kernel
theorem dX10_like_61 : decode cX10_like 61 = .ok (.bipush 93, 2) := by decide +kernel
theorem dX10_like_63 : decode cX10_like 63 = .ok (.iload_n 1, 1) := by decide +kernel
theorem dX10_like_64 : decode cX10_like 64 = .ok (.imul, 1) := by decide +kernel
theorem dX10_like_65 : decode cX10_like 65 = .ok (.iconst 3, 1) := by decide +kernel
theorem dX10_like_66 : decode cX10_like 66 = .ok (.iadd, 1) := by decide +kernel
theorem dX10_like_67 : decode cX10_like 67 = .ok (.iload_n 2, 1) := by decide +kernel
theorem dX10_like_68 : decode cX10_like 68 = .ok (.iadd, 1) := by decide +kernel
theorem dX10_like_69 : decode cX10_like 69 = .ok (.iaload, 1) := by decide +kernel
theorem dX10_like_70 : decode cX10_like 70 = .ok (.aload_n 0, 1) := by decide +kernel
theorem dX10_like_71 : decode cX10_like 71 = .ok (.getfield 76, 3) := by decide +kernel
theorem dX10_like_74 : decode cX10_like 74 = .ok (.bipush 9, 2) := by decide +kernel
theorem dX10_like_76 : decode cX10_like 76 = .ok (.iaload, 1) := by decide +kernel
theorem dX10_like_77 : decode cX10_like 77 = .ok (.iand, 1) := by decide +kernel
theorem dX10_like_78 : decode cX10_like 78 = .ok (.iastore, 1) := by decide +kernel
theorem dX10_like_79 : decode cX10_like 79 = .ok (.iinc 2 1, 3) := by decide +kernel
theorem dX10_like_82 : decode cX10_like 82 = .ok (.goto (-36), 3) := by decide +kernel
theorem dX10_like_85 : decode cX10_like 85 = .ok (.aload_n 0, 1) := by decide +kernel
theorem dX10_like_86 : decode cX10_like 86 = .ok (.getfield 76, 3) := by decide +kernel
theorem dX10_like_89 : decode cX10_like 89 = .ok (.bipush 9, 2) := by decide +kernel
theorem dX10_like_91 : decode cX10_like 91 = .ok (.iaload, 1) := by decide +kernel
theorem dX10_like_92 : decode cX10_like 92 = .ok (.invokestatic 194, 3) := by decide +kernel
theorem dX10_like_95 : decode cX10_like 95 = .ok (.aload_n 0, 1) := by decide +kernel
theorem dX10_like_96 : decode cX10_like 96 = .ok (.getfield 9, 3) := by decide +kernel
theorem dX10_like_99 : decode cX10_like 99 = .ok (.iconst 1, 1) := by decide +kernel
theorem dX10_like_100 : decode cX10_like 100 = .ok (.iaload, 1) := by decide +kernel
theorem dX10_like_101 : decode cX10_like 101 = .ok (.invokestatic 194, 3) := by decide +kernel
theorem dX10_like_104 : decode cX10_like 104 = .ok (.if_icmp .ne 14, 3) := by decide +kernel
theorem dX10_like_107 : decode cX10_like 107 = .ok (.aload_n 0, 1) := by decide +kernel
theorem dX10_like_108 : decode cX10_like 108 = .ok (.invokevirtual 383, 3) := by decide +kernel
theorem dX10_like_111 : decode cX10_like 111 = .ok (.ifCond .le 7, 3) := by decide +kernel
theorem dX10_like_114 : decode cX10_like 114 = .ok (.iconst 1, 1) := by decide +kernel
theorem dX10_like_115 : decode cX10_like 115 = .ok (.goto 4, 3) := by decide +kernel
theorem dX10_like_118 : decode cX10_like 118 = .ok (.iconst 0, 1) := by decide +kernel
theorem dX10_like_119 : decode cX10_like 119 = .ok (.ireturn, 1) := by decide +kernel
set_option maxRecDepth 20000 in
theorem ggX10_edges_X10_has : GoodIn wsX10_edges wsX10_has := goodIn_r _ [5] (by decide +kernel) (by decide +kernel)
set_option maxRecDepth 20000 in
theorem gX10_edges_X10_has : GoodIn wsX10_edges (va_wsS RX10 91 yX10_has wsX10_has) := goodIn_app (goodIn_of _ (by decide +kernel)) ggX10_edges_X10_has
set_option maxRecDepth 20000 in
theorem ggX10_edges_X10_coverers : GoodIn wsX10_edges wsX10_coverers := goodIn_r _ [9, 1, 2, 3, 4, 5, 10, 11, 12, 13, 14, 15, 16, 17, 18, 19, 20, 21, 22, 23, 24, 25, 29, 30, 31, 32, 33, 34, 35, 36, 37, 38, 39, 40, 41, 42, 43, 44, 45, 46, 47, 48, 49, 50, 51, 52, 53, 54, 55, 56, 57, 58] (by decide +kernel) (by decide +kernel)
set_option maxRecDepth 20000 in
theorem gX10_edges_X10_coverers : GoodIn wsX10_edges (wsV RX10 216 RX10 yX10_coverers wsX10_coverers) := goodIn_app (goodIn_of _ (by decide +kernel)) ggX10_edges_X10_coverers
set_option maxRecDepth 20000 in
theorem ggX10_edges_X10_bits : GoodIn wsX10_edges wsX10_bits := goodIn_r _ [28] (by decide +kernel) (by decide +kernel)
set_option maxRecDepth 20000 in
theorem gX10_edges_X10_bits : GoodIn wsX10_edges (va_wsS RX10 194 yX10_bits wsX10_bits) := goodIn_app (goodIn_of _ (by decide +kernel)) ggX10_edges_X10_bits
theorem dX10_edges_0 : decode cX10_edges 0 = .ok (.iconst 0, 1) := by decide +kernel
theorem dX10_edges_1 : decode cX10_edges 1 = .ok (.istore_n 1, 1) := by decide +kernel
theorem dX10_edges_2 : decode cX10_edges 2 = .ok (.iconst 0, 1) := by decide +kernel
theorem dX10_edges_3 : decode cX10_edges 3 = .ok (.istore_n 2, 1) := by decide +kernel
theorem dX10_edges_4 : decode cX10_edges 4 = .ok (.iload_n 2, 1) := by decide +kernel
theorem dX10_edges_5 : decode cX10_edges 5 = .ok (.bipush 9, 2) := by decide +kernel
theorem dX10_edges_7 : decode cX10_edges 7 = .ok (.if_icmp .ge 37, 3) := by decide +kernel
theorem dX10_edges_10 : decode cX10_edges 10 = .ok (.iload_n 1, 1) := by decide +kernel
theorem dX10_edges_11 : decode cX10_edges 11 = .ok (.aload_n 0, 1) := by decide +kernel
theorem dX10_edges_12 : decode cX10_edges 12 = .ok (.getfield 9, 3) := by decide +kernel
theorem dX10_edges_15 : decode cX10_edges 15 = .ok (.iconst 1, 1) := by decide +kernel
theorem dX10_edges_16 : decode cX10_edges 16 = .ok (.iaload, 1) := by decide +kernel
theorem dX10_edges_17 : decode cX10_edges 17 = .ok (.iload_n 2, 1) := by decide +kernel
theorem dX10_edges_18 : decode cX10_edges 18 = .ok (.invokestatic 91, 3) := by decide +kernel
theorem dX10_edges_21 : decode cX10_edges 21 = .ok (.ifCond .eq 14, 3) := by decide +kernel
theorem dX10_edges_24 : decode cX10_edges 24 = .ok (.aload_n 0, 1) := by decide +kernel
theorem dX10_edges_25 : decode cX10_edges 25 = .ok (.iload_n 2, 1) := by decide +kernel
theorem dX10_edges_26 : decode cX10_edges 26 = .ok (.invokevirtual 216, 3) := by decide +kernel
theorem dX10_edges_29 : decode cX10_edges 29 = .ok (.invokestatic 194, 3) := by decide +kernel
theorem dX10_edges_32 : decode cX10_edges 32 = .ok (.goto 4, 3) := by decide +kernel
theorem dX10_edges_35 : decode cX10_edges 35 = .ok (.iconst 0, 1) := by decide +kernel
theorem dX10_edges_36 : decode cX10_edges 36 = .ok (.iadd, 1) := by decide +kernel
theorem dX10_edges_37 : decode cX10_edges 37 = .ok (.istore_n 1, 1) := by decide +kernel
theorem dX10_edges_38 : decode cX10_edges 38 = .ok (.iinc 2 1, 3) := by decide +kernel
theorem dX10_edges_41 : decode cX10_edges 41 = .ok (.goto (-37), 3) := by decide +kernel
theorem dX10_edges_44 : decode cX10_edges 44 = .ok (.iload_n 1, 1) := by decide +kernel
theorem dX10_edges_45 : decode cX10_edges 45 = .ok (.ireturn, 1) := by decide +kernel
set_option maxRecDepth 20000 in
theorem ggX10_count_X10_pairs : GoodIn wsX10_count wsX10_pairs := goodIn_r _ [9, 2, 10, 11, 8, 12, 13, 14, 15, 16, 17, 18, 19, 40, 41, 42, 43, 44, 45, 46, 47, 48, 49, 50, 51, 52, 53, 54, 55, 56, 57, 58, 59, 60, 61, 62, 63, 64, 65, 66, 67, 68, 69] (by decide +kernel) (by decide +kernel)
set_option maxRecDepth 20000 in
theorem gX10_count_X10_pairs : GoodIn wsX10_count (wsV RX10 203 RX10 yX10_pairs wsX10_pairs) := goodIn_app (goodIn_of _ (by decide +kernel)) ggX10_count_X10_pairs
set_option maxRecDepth 20000 in
theorem ggX10_count_X10_edges : GoodIn wsX10_count wsX10_edges := goodIn_r _ [23, 2, 10, 11, 8, 12, 24, 25, 26, 27, 28, 29, 30, 31, 32, 33, 34, 35, 13, 14, 15, 16, 36, 37, 38, 39, 17, 18, 19, 40, 41, 42, 43, 44, 45, 46, 47, 48, 49, 50, 51, 52, 53, 54, 55, 56, 57, 58, 59, 60, 61, 62, 63, 64, 65, 66, 67, 68, 69] (by decide +kernel) (by decide +kernel)
set_option maxRecDepth 20000 in
theorem gX10_count_X10_edges : GoodIn wsX10_count (wsV RX10 386 RX10 yX10_edges wsX10_edges) := goodIn_app (goodIn_of _ (by decide +kernel)) ggX10_count_X10_edges
theorem dX10_count_0 : decode cX10_count 0 = .ok (.aload_n 0, 1) := by decide +kernel
theorem dX10_count_1 : decode cX10_count 1 = .ok (.iconst 0, 1) := by decide +kernel
theorem dX10_count_2 : decode cX10_count 2 = .ok (.putfield 82, 3) := by decide +kernel
theorem dX10_count_5 : decode cX10_count 5 = .ok (.iload_n 1, 1) := by decide +kernel
theorem dX10_count_6 : decode cX10_count 6 = .ok (.tableswitch 83 0 6 #[42, 49, 56, 61, 66, 73, 78], 42) := by decide +kernel
theorem dX10_count_48 : decode cX10_count 48 = .ok (.aload_n 0, 1) := by decide +kernel
theorem dX10_count_49 : decode cX10_count 49 = .ok (.getfield 9, 3) := by decide +kernel
theorem dX10_count_52 : decode cX10_count 52 = .ok (.iconst 0, 1) := by decide +kernel
theorem dX10_count_53 : decode cX10_count 53 = .ok (.iaload, 1) := by decide +kernel
theorem dX10_count_54 : decode cX10_count 54 = .ok (.ireturn, 1) := by decide +kernel
theorem dX10_count_55 : decode cX10_count 55 = .ok (.aload_n 0, 1) := by decide +kernel
theorem dX10_count_56 : decode cX10_count 56 = .ok (.getfield 9, 3) := by decide +kernel
theorem dX10_count_59 : decode cX10_count 59 = .ok (.iconst 1, 1) := by decide +kernel
theorem dX10_count_60 : decode cX10_count 60 = .ok (.iaload, 1) := by decide +kernel
theorem dX10_count_61 : decode cX10_count 61 = .ok (.ireturn, 1) := by decide +kernel
theorem dX10_count_62 : decode cX10_count 62 = .ok (.aload_n 0, 1) := by decide +kernel
theorem dX10_count_63 : decode cX10_count 63 = .ok (.invokevirtual 203, 3) := by decide +kernel
theorem dX10_count_66 : decode cX10_count 66 = .ok (.ireturn, 1) := by decide +kernel
theorem dX10_count_67 : decode cX10_count 67 = .ok (.aload_n 0, 1) := by decide +kernel
theorem dX10_count_68 : decode cX10_count 68 = .ok (.invokevirtual 386, 3) := by decide +kernel
theorem dX10_count_71 : decode cX10_count 71 = .ok (.ireturn, 1) := by decide +kernel
theorem dX10_count_72 : decode cX10_count 72 = .ok (.aload_n 0, 1) := by decide +kernel
theorem dX10_count_73 : decode cX10_count 73 = .ok (.getfield 9, 3) := by decide +kernel
theorem dX10_count_76 : decode cX10_count 76 = .ok (.iconst 2, 1) := by decide +kernel
theorem dX10_count_77 : decode cX10_count 77 = .ok (.iaload, 1) := by decide +kernel
theorem dX10_count_78 : decode cX10_count 78 = .ok (.ireturn, 1) := by decide +kernel
theorem dX10_count_79 : decode cX10_count 79 = .ok (.aload_n 0, 1) := by decide +kernel
theorem dX10_count_80 : decode cX10_count 80 = .ok (.getfield 113, 3) := by decide +kernel
theorem dX10_count_83 : decode cX10_count 83 = .ok (.ireturn, 1) := by decide +kernel
theorem dX10_count_84 : decode cX10_count 84 = .ok (.aload_n 0, 1) := by decide +kernel
theorem dX10_count_85 : decode cX10_count 85 = .ok (.getfield 116, 3) := by decide +kernel
theorem dX10_count_88 : decode cX10_count 88 = .ok (.ireturn, 1) := by decide +kernel
theorem dX10_count_89 : decode cX10_count 89 = .ok (.iconst (-1), 1) := by decide +kernel
theorem dX10_count_90 : decode cX10_count 90 = .ok (.ireturn, 1) := by decide +kernel
theorem dJ6_bitCount_0f7a4_0 : decode cJ6_bitCount_0f7a4 0 = .ok (.iload_n 0, 1) := by decide +kernel
theorem dJ6_bitCount_0f7a4_1 : decode cJ6_bitCount_0f7a4 1 = .ok (.iload_n 0, 1) := by decide +kernel
theorem dJ6_bitCount_0f7a4_2 : decode cJ6_bitCount_0f7a4 2 = .ok (.iconst 1, 1) := by decide +kernel
theorem dJ6_bitCount_0f7a4_3 : decode cJ6_bitCount_0f7a4 3 = .ok (.iushr, 1) := by decide +kernel
theorem dJ6_bitCount_0f7a4_4 : decode cJ6_bitCount_0f7a4 4 = .ok (.ldc_w 265, 3) := by decide +kernel
theorem dJ6_bitCount_0f7a4_7 : decode cJ6_bitCount_0f7a4 7 = .ok (.iand, 1) := by decide +kernel
theorem dJ6_bitCount_0f7a4_8 : decode cJ6_bitCount_0f7a4 8 = .ok (.isub, 1) := by decide +kernel
theorem dJ6_bitCount_0f7a4_9 : decode cJ6_bitCount_0f7a4 9 = .ok (.istore_n 0, 1) := by decide +kernel
theorem dJ6_bitCount_0f7a4_10 : decode cJ6_bitCount_0f7a4 10 = .ok (.iload_n 0, 1) := by decide +kernel
theorem dJ6_bitCount_0f7a4_11 : decode cJ6_bitCount_0f7a4 11 = .ok (.ldc_w 266, 3) := by decide +kernel
theorem dJ6_bitCount_0f7a4_14 : decode cJ6_bitCount_0f7a4 14 = .ok (.iand, 1) := by decide +kernel
theorem dJ6_bitCount_0f7a4_15 : decode cJ6_bitCount_0f7a4 15 = .ok (.iload_n 0, 1) := by decide +kernel
theorem dJ6_bitCount_0f7a4_16 : decode cJ6_bitCount_0f7a4 16 = .ok (.iconst 2, 1) := by decide +kernel
theorem dJ6_bitCount_0f7a4_17 : decode cJ6_bitCount_0f7a4 17 = .ok (.iushr, 1) := by decide +kernel
theorem dJ6_bitCount_0f7a4_18 : decode cJ6_bitCount_0f7a4 18 = .ok (.ldc_w 266, 3) := by decide +kernel
theorem dJ6_bitCount_0f7a4_21 : decode cJ6_bitCount_0f7a4 21 = .ok (.iand, 1) := by decide +kernel
theorem dJ6_bitCount_0f7a4_22 : decode cJ6_bitCount_0f7a4 22 = .ok (.iadd, 1) := by decide +kernel
theorem dJ6_bitCount_0f7a4_23 : decode cJ6_bitCount_0f7a4 23 = .ok (.istore_n 0, 1) := by decide +kernel
theorem dJ6_bitCount_0f7a4_24 : decode cJ6_bitCount_0f7a4 24 = .ok (.iload_n 0, 1) := by decide +kernel
theorem dJ6_bitCount_0f7a4_25 : decode cJ6_bitCount_0f7a4 25 = .ok (.iload_n 0, 1) := by decide +kernel
theorem dJ6_bitCount_0f7a4_26 : decode cJ6_bitCount_0f7a4 26 = .ok (.iconst 4, 1) := by decide +kernel
theorem dJ6_bitCount_0f7a4_27 : decode cJ6_bitCount_0f7a4 27 = .ok (.iushr, 1) := by decide +kernel
theorem dJ6_bitCount_0f7a4_28 : decode cJ6_bitCount_0f7a4 28 = .ok (.iadd, 1) := by decide +kernel
theorem dJ6_bitCount_0f7a4_29 : decode cJ6_bitCount_0f7a4 29 = .ok (.ldc_w 267, 3) := by decide +kernel
theorem dJ6_bitCount_0f7a4_32 : decode cJ6_bitCount_0f7a4 32 = .ok (.iand, 1) := by decide +kernel
theorem dJ6_bitCount_0f7a4_33 : decode cJ6_bitCount_0f7a4 33 = .ok (.istore_n 0, 1) := by decide +kernel
theorem dJ6_bitCount_0f7a4_34 : decode cJ6_bitCount_0f7a4 34 = .ok (.iload_n 0, 1) := by decide +kernel
theorem dJ6_bitCount_0f7a4_35 : decode cJ6_bitCount_0f7a4 35 = .ok (.iload_n 0, 1) := by decide +kernel
theorem dJ6_bitCount_0f7a4_36 : decode cJ6_bitCount_0f7a4 36 = .ok (.bipush 8, 2) := by decide +kernel
theorem dJ6_bitCount_0f7a4_38 : decode cJ6_bitCount_0f7a4 38 = .ok (.iushr, 1) := by decide +kernel
theorem dJ6_bitCount_0f7a4_39 : decode cJ6_bitCount_0f7a4 39 = .ok (.iadd, 1) := by decide +kernel
theorem dJ6_bitCount_0f7a4_40 : decode cJ6_bitCount_0f7a4 40 = .ok (.istore_n 0, 1) := by decide +kernel
theorem dJ6_bitCount_0f7a4_41 : decode cJ6_bitCount_0f7a4 41 = .ok (.iload_n 0, 1) := by decide +kernel
theorem dJ6_bitCount_0f7a4_42 : decode cJ6_bitCount_0f7a4 42 = .ok (.iload_n 0, 1) := by decide +kernel
theorem dJ6_bitCount_0f7a4_43 : decode cJ6_bitCount_0f7a4 43 = .ok (.bipush 16, 2) := by decide +kernel
theorem dJ6_bitCount_0f7a4_45 : decode cJ6_bitCount_0f7a4 45 = .ok (.iushr, 1) := by decide +kernel
theorem dJ6_bitCount_0f7a4_46 : decode cJ6_bitCount_0f7a4 46 = .ok (.iadd, 1) := by decide +kernel
theorem dJ6_bitCount_0f7a4_47 : decode cJ6_bitCount_0f7a4 47 = .ok (.istore_n 0, 1) := by decide +kernel
theorem dJ6_bitCount_0f7a4_48 : decode cJ6_bitCount_0f7a4 48 = .ok (.iload_n 0, 1) := by decide +kernel
theorem dJ6_bitCount_0f7a4_49 : decode cJ6_bitCount_0f7a4 49 = .ok (.bipush 63, 2) := by decide +kernel
theorem dJ6_bitCount_0f7a4_51 : decode cJ6_bitCount_0f7a4 51 = .ok (.iand, 1) := by decide +kernel
theorem dJ6_bitCount_0f7a4_52 : decode cJ6_bitCount_0f7a4 52 = .ok (.ireturn, 1) := by decide +kernel
theorem dJ9_abs_0f7a4_0 : decode cJ9_abs_0f7a4 0 = .ok (.iload_n 0, 1) := by decide +kernel
theorem dJ9_abs_0f7a4_1 : decode cJ9_abs_0f7a4 1 = .ok (.ifCond .ge 8, 3) := by decide +kernel
theorem dJ9_abs_0f7a4_4 : decode cJ9_abs_0f7a4 4 = .ok (.iload_n 0, 1) := by decide +kernel
theorem dJ9_abs_0f7a4_5 : decode cJ9_abs_0f7a4 5 = .ok (.ineg, 1) := by decide +kernel
theorem dJ9_abs_0f7a4_6 : decode cJ9_abs_0f7a4 6 = .ok (.goto 4, 3) := by decide +kernel
theorem dJ9_abs_0f7a4_9 : decode cJ9_abs_0f7a4 9 = .ok (.iload_n 0, 1) := by decide +kernel
theorem dJ9_abs_0f7a4_10 : decode cJ9_abs_0f7a4 10 = .ok (.ireturn, 1) := by decide +kernel
theorem dJ9_max_7cf53_0 : decode cJ9_max_7cf53 0 = .ok (.iload_n 0, 1) := by decide +kernel
theorem dJ9_max_7cf53_1 : decode cJ9_max_7cf53 1 = .ok (.iload_n 1, 1) := by decide +kernel
theorem dJ9_max_7cf53_2 : decode cJ9_max_7cf53 2 = .ok (.if_icmp .lt 7, 3) := by decide +kernel
theorem dJ9_max_7cf53_5 : decode cJ9_max_7cf53 5 = .ok (.iload_n 0, 1) := by decide +kernel
theorem dJ9_max_7cf53_6 : decode cJ9_max_7cf53 6 = .ok (.goto 4, 3) := by decide +kernel
theorem dJ9_max_7cf53_9 : decode cJ9_max_7cf53 9 = .ok (.iload_n 1, 1) := by decide +kernel
theorem dJ9_max_7cf53_10 : decode cJ9_max_7cf53 10 = .ok (.ireturn, 1) := by decide +kernel
theorem dJ9_min_7cf53_0 : decode cJ9_min_7cf53 0 = .ok (.iload_n 0, 1) := by decide +kernel
theorem dJ9_min_7cf53_1 : decode cJ9_min_7cf53 1 = .ok (.iload_n 1, 1) := by decide +kernel
theorem dJ9_min_7cf53_2 : decode cJ9_min_7cf53 2 = .ok (.if_icmp .gt 7, 3) := by decide +kernel
theorem dJ9_min_7cf53_5 : decode cJ9_min_7cf53 5 = .ok (.iload_n 0, 1) := by decide +kernel
theorem dJ9_min_7cf53_6 : decode cJ9_min_7cf53 6 = .ok (.goto 4, 3) := by decide +kernel
theorem dJ9_min_7cf53_9 : decode cJ9_min_7cf53 9 = .ok (.iload_n 1, 1) := by decide +kernel
theorem dJ9_min_7cf53_10 : decode cJ9_min_7cf53 10 = .ok (.ireturn, 1) := by decide +kernel
set_option maxRecDepth 20000 in
theorem ggJ0_length_8abf5_J0_coder_7d493 : GoodIn wsJ0_length_8abf5 wsJ0_coder_7d493 := goodIn_r _ [6, 7, 8] (by decide +kernel) (by decide +kernel)
set_option maxRecDepth 20000 in
theorem gJ0_length_8abf5_J0_coder_7d493 : GoodIn wsJ0_length_8abf5 (wsV RJ0 335 RJ0 yJ0_coder_7d493 wsJ0_coder_7d493) := goodIn_app (goodIn_of _ (by decide +kernel)) ggJ0_length_8abf5_J0_coder_7d493
theorem dJ0_length_8abf5_0 : decode cJ0_length_8abf5 0 = .ok (.aload_n 0, 1) := by decide +kernel
theorem dJ0_length_8abf5_1 : decode cJ0_length_8abf5 1 = .ok (.getfield 9, 3) := by decide +kernel
theorem dJ0_length_8abf5_4 : decode cJ0_length_8abf5 4 = .ok (.arraylength, 1) := by decide +kernel
theorem dJ0_length_8abf5_5 : decode cJ0_length_8abf5 5 = .ok (.aload_n 0, 1) := by decide +kernel
theorem dJ0_length_8abf5_6 : decode cJ0_length_8abf5 6 = .ok (.invokevirtual 335, 3) := by decide +kernel
theorem dJ0_length_8abf5_9 : decode cJ0_length_8abf5 9 = .ok (.ishr, 1) := by decide +kernel
theorem dJ0_length_8abf5_10 : decode cJ0_length_8abf5 10 = .ok (.ireturn, 1) := by decide +kernel
set_option maxRecDepth 20000 in
theorem ggJ0_charAt_5068e_J0_isLatin1_aae02 : GoodIn wsJ0_charAt_5068e wsJ0_isLatin1_aae02 := goodIn_r _ [6, 7, 8] (by decide +kernel) (by decide +kernel)
set_option maxRecDepth 20000 in
theorem gJ0_charAt_5068e_J0_isLatin1_aae02 : GoodIn wsJ0_charAt_5068e (wsV RJ0 492 RJ0 yJ0_isLatin1_aae02 wsJ0_isLatin1_aae02) := goodIn_app (goodIn_of _ (by decide +kernel)) ggJ0_charAt_5068e_J0_isLatin1_aae02
set_option maxRecDepth 20000 in
theorem ggJ0_charAt_5068e_J1_charAt_3b067 : GoodIn wsJ0_charAt_5068e wsJ1_charAt_3b067 := goodIn_r _ [12, 13, 14, 5, 15, 16, 17, 18, 19, 20] (by decide +kernel) (by decide +kernel)
set_option maxRecDepth 20000 in
theorem gJ0_charAt_5068e_J1_charAt_3b067 : GoodIn wsJ0_charAt_5068e (va_wsS RJ0 495 yJ1_charAt_3b067 wsJ1_charAt_3b067) := goodIn_app (goodIn_of _ (by decide +kernel)) ggJ0_charAt_5068e_J1_charAt_3b067
set_option maxRecDepth 20000 in
theorem ggJ0_charAt_5068e_J2_charAt_3b067 : GoodIn wsJ0_charAt_5068e wsJ2_charAt_3b067 := goodIn_r _ [24, 25, 26, 23, 27, 28, 29, 30, 31, 14, 5, 15, 16, 17, 18, 19, 20, 32, 33, 34, 35, 36, 37] (by decide +kernel) (by decide +kernel)
set_option maxRecDepth 20000 in
theorem gJ0_charAt_5068e_J2_charAt_3b067 : GoodIn wsJ0_charAt_5068e (va_wsS RJ0 498 yJ2_charAt_3b067 wsJ2_charAt_3b067) := goodIn_app (goodIn_of _ (by decide +kernel)) ggJ0_charAt_5068e_J2_charAt_3b067
theorem dJ0_charAt_5068e_0 : decode cJ0_charAt_5068e 0 = .ok (.aload_n 0, 1) := by decide +kernel
theorem dJ0_charAt_5068e_1 : decode cJ0_charAt_5068e 1 = .ok (.invokevirtual 492, 3) := by decide +kernel
theorem dJ0_charAt_5068e_4 : decode cJ0_charAt_5068e 4 = .ok (.ifCond .eq 12, 3) := by decide +kernel
theorem dJ0_charAt_5068e_7 : decode cJ0_charAt_5068e 7 = .ok (.aload_n 0, 1) := by decide +kernel
theorem dJ0_charAt_5068e_8 : decode cJ0_charAt_5068e 8 = .ok (.getfield 9, 3) := by decide +kernel
theorem dJ0_charAt_5068e_11 : decode cJ0_charAt_5068e 11 = .ok (.iload_n 1, 1) := by decide +kernel
theorem dJ0_charAt_5068e_12 : decode cJ0_charAt_5068e 12 = .ok (.invokestatic 495, 3) := by decide +kernel
theorem dJ0_charAt_5068e_15 : decode cJ0_charAt_5068e 15 = .ok (.ireturn, 1) := by decide +kernel
theorem dJ0_charAt_5068e_16 : decode cJ0_charAt_5068e 16 = .ok (.aload_n 0, 1) := by decide +kernel
theorem dJ0_charAt_5068e_17 : decode cJ0_charAt_5068e 17 = .ok (.getfield 9, 3) := by decide +kernel
theorem dJ0_charAt_5068e_20 : decode cJ0_charAt_5068e 20 = .ok (.iload_n 1, 1) := by decide +kernel
theorem dJ0_charAt_5068e_21 : decode cJ0_charAt_5068e 21 = .ok (.invokestatic 498, 3) := by decide +kernel
theorem dJ0_charAt_5068e_24 : decode cJ0_charAt_5068e 24 = .ok (.ireturn, 1) := by decide +kernel
theorem dJ0_coder_7d493_0 : decode cJ0_coder_7d493 0 = .ok (.getstatic 38, 3) := by decide +kernel
theorem dJ0_coder_7d493_3 : decode cJ0_coder_7d493 3 = .ok (.ifCond .eq 10, 3) := by decide +kernel
theorem dJ0_coder_7d493_6 : decode cJ0_coder_7d493 6 = .ok (.aload_n 0, 1) := by decide +kernel
theorem dJ0_coder_7d493_7 : decode cJ0_coder_7d493 7 = .ok (.getfield 15, 3) := by decide +kernel
theorem dJ0_coder_7d493_10 : decode cJ0_coder_7d493 10 = .ok (.goto 4, 3) := by decide +kernel
theorem dJ0_coder_7d493_13 : decode cJ0_coder_7d493 13 = .ok (.iconst 1, 1) := by decide +kernel
theorem dJ0_coder_7d493_14 : decode cJ0_coder_7d493 14 = .ok (.ireturn, 1) := by decide +kernel
theorem dJ0_isLatin1_aae02_0 : decode cJ0_isLatin1_aae02 0 = .ok (.getstatic 38, 3) := by decide +kernel
theorem dJ0_isLatin1_aae02_3 : decode cJ0_isLatin1_aae02 3 = .ok (.ifCond .eq 14, 3) := by decide +kernel
theorem dJ0_isLatin1_aae02_6 : decode cJ0_isLatin1_aae02 6 = .ok (.aload_n 0, 1) := by decide +kernel
theorem dJ0_isLatin1_aae02_7 : decode cJ0_isLatin1_aae02 7 = .ok (.getfield 15, 3) := by decide +kernel
theorem dJ0_isLatin1_aae02_10 : decode cJ0_isLatin1_aae02 10 = .ok (.ifCond .ne 7, 3) := by decide +kernel
theorem dJ0_isLatin1_aae02_13 : decode cJ0_isLatin1_aae02 13 = .ok (.iconst 1, 1) := by decide +kernel
theorem dJ0_isLatin1_aae02_14 : decode cJ0_isLatin1_aae02 14 = .ok (.goto 4, 3) := by decide +kernel
theorem dJ0_isLatin1_aae02_17 : decode cJ0_isLatin1_aae02 17 = .ok (.iconst 0, 1) := by decide +kernel
theorem dJ0_isLatin1_aae02_18 : decode cJ0_isLatin1_aae02 18 = .ok (.ireturn, 1) := by decide +kernel
set_option maxRecDepth 20000 in
theorem ggJ0_checkIndex_df160_J3_checkIndex_8e157 : GoodIn wsJ0_checkIndex_df160 wsJ3_checkIndex_8e157 := goodIn_r _ [5] (by decide +kernel) (by decide +kernel)
set_option maxRecDepth 20000 in
theorem gJ0_checkIndex_df160_J3_checkIndex_8e157 : GoodIn wsJ0_checkIndex_df160 (va_wsS RJ0 1059 yJ3_checkIndex_8e157 wsJ3_checkIndex_8e157) := goodIn_app (goodIn_of _ (by decide +kernel)) ggJ0_checkIndex_df160_J3_checkIndex_8e157
theorem dJ0_checkIndex_df160_0 : decode cJ0_checkIndex_df160 0 = .ok (.iload_n 0, 1) := by decide +kernel
theorem dJ0_checkIndex_df160_1 : decode cJ0_checkIndex_df160 1 = .ok (.iload_n 1, 1) := by decide +kernel
theorem dJ0_checkIndex_df160_2 : decode cJ0_checkIndex_df160 2 = .ok (.getstatic 1053, 3) := by decide +kernel
theorem dJ0_checkIndex_df160_5 : decode cJ0_checkIndex_df160 5 = .ok (.invokestatic 1059, 3) := by decide +kernel
theorem dJ0_checkIndex_df160_8 : decode cJ0_checkIndex_df160 8 = .ok (.pop, 1) := by decide +kernel
theorem dJ0_checkIndex_df160_9 : decode cJ0_checkIndex_df160 9 = .ok (.return_, 1) := by decide +kernel
set_option maxRecDepth 20000 in
theorem ggJ1_charAt_3b067_J0_checkIndex_df160 : GoodIn wsJ1_charAt_3b067 wsJ0_checkIndex_df160 := goodIn_r _ [4, 5, 6, 7, 8, 9] (by decide +kernel) (by decide +kernel)
set_option maxRecDepth 20000 in
theorem gJ1_charAt_3b067_J0_checkIndex_df160 : GoodIn wsJ1_charAt_3b067 (va_wsS RJ1 9 yJ0_checkIndex_df160 wsJ0_checkIndex_df160) := goodIn_app (goodIn_of _ (by decide +kernel)) ggJ1_charAt_3b067_J0_checkIndex_df160
theorem dJ1_charAt_3b067_0 : decode cJ1_charAt_3b067 0 = .ok (.iload_n 1, 1) := by decide +kernel
theorem dJ1_charAt_3b067_1 : decode cJ1_charAt_3b067 1 = .ok (.aload_n 0, 1) := by decide +kernel
theorem dJ1_charAt_3b067_2 : decode cJ1_charAt_3b067 2 = .ok (.arraylength, 1) := by decide +kernel
theorem dJ1_charAt_3b067_3 : decode cJ1_charAt_3b067 3 = .ok (.invokestatic 9, 3) := by decide +kernel
theorem dJ1_charAt_3b067_6 : decode cJ1_charAt_3b067 6 = .ok (.aload_n 0, 1) := by decide +kernel
theorem dJ1_charAt_3b067_7 : decode cJ1_charAt_3b067 7 = .ok (.iload_n 1, 1) := by decide +kernel
theorem dJ1_charAt_3b067_8 : decode cJ1_charAt_3b067 8 = .ok (.baload, 1) := by decide +kernel
theorem dJ1_charAt_3b067_9 : decode cJ1_charAt_3b067 9 = .ok (.sipush 255, 3) := by decide +kernel
theorem dJ1_charAt_3b067_12 : decode cJ1_charAt_3b067 12 = .ok (.iand, 1) := by decide +kernel
theorem dJ1_charAt_3b067_13 : decode cJ1_charAt_3b067 13 = .ok (.i2c, 1) := by decide +kernel
theorem dJ1_charAt_3b067_14 : decode cJ1_charAt_3b067 14 = .ok (.ireturn, 1) := by decide +kernel
set_option maxRecDepth 20000 in
theorem ggJ2_getChar_3b067_J2_length_9d52b : GoodIn wsJ2_getChar_3b067 wsJ2_length_9d52b := goodIn_r _ [7] (by decide +kernel) (by decide +kernel)
set_option maxRecDepth 20000 in
theorem gJ2_getChar_3b067_J2_length_9d52b : GoodIn wsJ2_getChar_3b067 (va_wsS RJ2 48 yJ2_length_9d52b wsJ2_length_9d52b) := goodIn_app (goodIn_of _ (by decide +kernel)) ggJ2_getChar_3b067_J2_length_9d52b
theorem dJ2_getChar_3b067_0 : decode cJ2_getChar_3b067 0 = .ok (.getstatic 44, 3) := by decide +kernel
theorem dJ2_getChar_3b067_3 : decode cJ2_getChar_3b067 3 = .ok (.ifCond .ne 25, 3) := by decide +kernel
theorem dJ2_getChar_3b067_6 : decode cJ2_getChar_3b067 6 = .ok (.iload_n 1, 1) := by decide +kernel
theorem dJ2_getChar_3b067_7 : decode cJ2_getChar_3b067 7 = .ok (.ifCond .lt 11, 3) := by decide +kernel
theorem dJ2_getChar_3b067_10 : decode cJ2_getChar_3b067 10 = .ok (.iload_n 1, 1) := by decide +kernel
theorem dJ2_getChar_3b067_11 : decode cJ2_getChar_3b067 11 = .ok (.aload_n 0, 1) := by decide +kernel
theorem dJ2_getChar_3b067_12 : decode cJ2_getChar_3b067 12 = .ok (.invokestatic 48, 3) := by decide +kernel
theorem dJ2_getChar_3b067_15 : decode cJ2_getChar_3b067 15 = .ok (.if_icmp .lt 13, 3) := by decide +kernel
theorem dJ2_getChar_3b067_18 : decode cJ2_getChar_3b067 18 = .ok (.new 52, 3) := by decide +kernel
theorem dJ2_getChar_3b067_21 : decode cJ2_getChar_3b067 21 = .ok (.dup, 1) := by decide +kernel
theorem dJ2_getChar_3b067_22 : decode cJ2_getChar_3b067 22 = .ok (.ldc 54, 2) := by decide +kernel
theorem dJ2_getChar_3b067_24 : decode cJ2_getChar_3b067 24 = .ok (.invokespecial 56, 3) := by decide +kernel
theorem dJ2_getChar_3b067_27 : decode cJ2_getChar_3b067 27 = .ok (.athrow, 1) := by decide +kernel
theorem dJ2_getChar_3b067_28 : decode cJ2_getChar_3b067 28 = .ok (.iload_n 1, 1) := by decide +kernel
theorem dJ2_getChar_3b067_29 : decode cJ2_getChar_3b067 29 = .ok (.iconst 1, 1) := by decide +kernel
theorem dJ2_getChar_3b067_30 : decode cJ2_getChar_3b067 30 = .ok (.ishl, 1) := by decide +kernel
theorem dJ2_getChar_3b067_31 : decode cJ2_getChar_3b067 31 = .ok (.istore_n 1, 1) := by decide +kernel
theorem dJ2_getChar_3b067_32 : decode cJ2_getChar_3b067 32 = .ok (.aload_n 0, 1) := by decide +kernel
theorem dJ2_getChar_3b067_33 : decode cJ2_getChar_3b067 33 = .ok (.iload_n 1, 1) := by decide +kernel
theorem dJ2_getChar_3b067_34 : decode cJ2_getChar_3b067 34 = .ok (.iinc 1 1, 3) := by decide +kernel
theorem dJ2_getChar_3b067_37 : decode cJ2_getChar_3b067 37 = .ok (.baload, 1) := by decide +kernel
theorem dJ2_getChar_3b067_38 : decode cJ2_getChar_3b067 38 = .ok (.sipush 255, 3) := by decide +kernel
theorem dJ2_getChar_3b067_41 : decode cJ2_getChar_3b067 41 = .ok (.iand, 1) := by decide +kernel
theorem dJ2_getChar_3b067_42 : decode cJ2_getChar_3b067 42 = .ok (.getstatic 59, 3) := by decide +kernel
theorem dJ2_getChar_3b067_45 : decode cJ2_getChar_3b067 45 = .ok (.ishl, 1) := by decide +kernel
theorem dJ2_getChar_3b067_46 : decode cJ2_getChar_3b067 46 = .ok (.aload_n 0, 1) := by decide +kernel
theorem dJ2_getChar_3b067_47 : decode cJ2_getChar_3b067 47 = .ok (.iload_n 1, 1) := by decide +kernel
theorem dJ2_getChar_3b067_48 : decode cJ2_getChar_3b067 48 = .ok (.baload, 1) := by decide +kernel
theorem dJ2_getChar_3b067_49 : decode cJ2_getChar_3b067 49 = .ok (.sipush 255, 3) := by decide +kernel
theorem dJ2_getChar_3b067_52 : decode cJ2_getChar_3b067 52 = .ok (.iand, 1) := by decide +kernel
theorem dJ2_getChar_3b067_53 : decode cJ2_getChar_3b067 53 = .ok (.getstatic 63, 3) := by decide +kernel
theorem dJ2_getChar_3b067_56 : decode cJ2_getChar_3b067 56 = .ok (.ishl, 1) := by decide +kernel
theorem dJ2_getChar_3b067_57 : decode cJ2_getChar_3b067 57 = .ok (.ior, 1) := by decide +kernel
theorem dJ2_getChar_3b067_58 : decode cJ2_getChar_3b067 58 = .ok (.i2c, 1) := by decide +kernel
theorem dJ2_getChar_3b067_59 : decode cJ2_getChar_3b067 59 = .ok (.ireturn, 1) := by decide +kernel
theorem dJ2_length_9d52b_0 : decode cJ2_length_9d52b 0 = .ok (.aload_n 0, 1) := by decide +kernel
theorem dJ2_length_9d52b_1 : decode cJ2_length_9d52b 1 = .ok (.arraylength, 1) := by decide +kernel
theorem dJ2_length_9d52b_2 : decode cJ2_length_9d52b 2 = .ok (.iconst 1, 1) := by decide +kernel
theorem dJ2_length_9d52b_3 : decode cJ2_length_9d52b 3 = .ok (.ishr, 1) := by decide +kernel
theorem dJ2_length_9d52b_4 : decode cJ2_length_9d52b 4 = .ok (.ireturn, 1) := by decide +kernel
set_option maxRecDepth 20000 in
theorem ggJ2_charAt_3b067_J2_checkIndex_2214a : GoodIn wsJ2_charAt_3b067 wsJ2_checkIndex_2214a := goodIn_r _ [4, 5, 6, 3, 7, 8, 9, 10, 11, 12, 13, 14, 15, 16] (by decide +kernel) (by decide +kernel)
set_option maxRecDepth 20000 in
theorem gJ2_charAt_3b067_J2_checkIndex_2214a : GoodIn wsJ2_charAt_3b067 (va_wsS RJ2 67 yJ2_checkIndex_2214a wsJ2_checkIndex_2214a) := goodIn_app (goodIn_of _ (by decide +kernel)) ggJ2_charAt_3b067_J2_checkIndex_2214a
set_option maxRecDepth 20000 in
theorem ggJ2_charAt_3b067_J2_getChar_3b067 : GoodIn wsJ2_charAt_3b067 wsJ2_getChar_3b067 := goodIn_r _ [19, 20, 21, 22, 5, 6, 3, 7] (by decide +kernel) (by decide +kernel)
set_option maxRecDepth 20000 in
theorem gJ2_charAt_3b067_J2_getChar_3b067 : GoodIn wsJ2_charAt_3b067 (va_wsS RJ2 71 yJ2_getChar_3b067 wsJ2_getChar_3b067) := goodIn_app (goodIn_of _ (by decide +kernel)) ggJ2_charAt_3b067_J2_getChar_3b067
theorem dJ2_charAt_3b067_0 : decode cJ2_charAt_3b067 0 = .ok (.iload_n 1, 1) := by decide +kernel
theorem dJ2_charAt_3b067_1 : decode cJ2_charAt_3b067 1 = .ok (.aload_n 0, 1) := by decide +kernel
theorem dJ2_charAt_3b067_2 : decode cJ2_charAt_3b067 2 = .ok (.invokestatic 67, 3) := by decide +kernel
theorem dJ2_charAt_3b067_5 : decode cJ2_charAt_3b067 5 = .ok (.aload_n 0, 1) := by decide +kernel
theorem dJ2_charAt_3b067_6 : decode cJ2_charAt_3b067 6 = .ok (.iload_n 1, 1) := by decide +kernel
theorem dJ2_charAt_3b067_7 : decode cJ2_charAt_3b067 7 = .ok (.invokestatic 71, 3) := by decide +kernel
theorem dJ2_charAt_3b067_10 : decode cJ2_charAt_3b067 10 = .ok (.ireturn, 1) := by decide +kernel
set_option maxRecDepth 20000 in
theorem ggJ2_checkIndex_2214a_J2_length_9d52b : GoodIn wsJ2_checkIndex_2214a wsJ2_length_9d52b := goodIn_r _ [4] (by decide +kernel) (by decide +kernel)
set_option maxRecDepth 20000 in
theorem gJ2_checkIndex_2214a_J2_length_9d52b : GoodIn wsJ2_checkIndex_2214a (va_wsS RJ2 48 yJ2_length_9d52b wsJ2_length_9d52b) := goodIn_app (goodIn_of _ (by decide +kernel)) ggJ2_checkIndex_2214a_J2_length_9d52b
set_option maxRecDepth 20000 in
theorem ggJ2_checkIndex_2214a_J0_checkIndex_df160 : GoodIn wsJ2_checkIndex_2214a wsJ0_checkIndex_df160 := goodIn_r _ [8, 9, 10, 11, 12, 13] (by decide +kernel) (by decide +kernel)
set_option maxRecDepth 20000 in
theorem gJ2_checkIndex_2214a_J0_checkIndex_df160 : GoodIn wsJ2_checkIndex_2214a (va_wsS RJ2 414 yJ0_checkIndex_df160 wsJ0_checkIndex_df160) := goodIn_app (goodIn_of _ (by decide +kernel)) ggJ2_checkIndex_2214a_J0_checkIndex_df160
theorem dJ2_checkIndex_2214a_0 : decode cJ2_checkIndex_2214a 0 = .ok (.iload_n 0, 1) := by decide +kernel
theorem dJ2_checkIndex_2214a_1 : decode cJ2_checkIndex_2214a 1 = .ok (.aload_n 1, 1) := by decide +kernel
theorem dJ2_checkIndex_2214a_2 : decode cJ2_checkIndex_2214a 2 = .ok (.invokestatic 48, 3) := by decide +kernel
theorem dJ2_checkIndex_2214a_5 : decode cJ2_checkIndex_2214a 5 = .ok (.invokestatic 414, 3) := by decide +kernel
theorem dJ2_checkIndex_2214a_8 : decode cJ2_checkIndex_2214a 8 = .ok (.return_, 1) := by decide +kernel
theorem dJ7_fill_53178_0 : decode cJ7_fill_53178 0 = .ok (.iconst 0, 1) := by decide +kernel
theorem dJ7_fill_53178_1 : decode cJ7_fill_53178 1 = .ok (.istore_n 2, 1) := by decide +kernel
theorem dJ7_fill_53178_2 : decode cJ7_fill_53178 2 = .ok (.aload_n 0, 1) := by decide +kernel
theorem dJ7_fill_53178_3 : decode cJ7_fill_53178 3 = .ok (.arraylength, 1) := by decide +kernel
theorem dJ7_fill_53178_4 : decode cJ7_fill_53178 4 = .ok (.istore_n 3, 1) := by decide +kernel
theorem dJ7_fill_53178_5 : decode cJ7_fill_53178 5 = .ok (.iload_n 2, 1) := by decide +kernel
theorem dJ7_fill_53178_6 : decode cJ7_fill_53178 6 = .ok (.iload_n 3, 1) := by decide +kernel
theorem dJ7_fill_53178_7 : decode cJ7_fill_53178 7 = .ok (.if_icmp .ge 13, 3) := by decide +kernel
theorem dJ7_fill_53178_10 : decode cJ7_fill_53178 10 = .ok (.aload_n 0, 1) := by decide +kernel
theorem dJ7_fill_53178_11 : decode cJ7_fill_53178 11 = .ok (.iload_n 2, 1) := by decide +kernel
theorem dJ7_fill_53178_12 : decode cJ7_fill_53178 12 = .ok (.iload_n 1, 1) := by decide +kernel
theorem dJ7_fill_53178_13 : decode cJ7_fill_53178 13 = .ok (.iastore, 1) := by decide +kernel
theorem dJ7_fill_53178_14 : decode cJ7_fill_53178 14 = .ok (.iinc 2 1, 3) := by decide +kernel
theorem dJ7_fill_53178_17 : decode cJ7_fill_53178 17 = .ok (.goto (-12), 3) := by decide +kernel
theorem dJ7_fill_53178_20 : decode cJ7_fill_53178 20 = .ok (.return_, 1) := by decide +kernel
theorem dJ3_checkIndex_8e157_0 : decode cJ3_checkIndex_8e157 0 = .ok (.iload_n 0, 1) := by decide +kernel
theorem dJ3_checkIndex_8e157_1 : decode cJ3_checkIndex_8e157 1 = .ok (.ifCond .lt 8, 3) := by decide +kernel
theorem dJ3_checkIndex_8e157_4 : decode cJ3_checkIndex_8e157 4 = .ok (.iload_n 0, 1) := by decide +kernel
theorem dJ3_checkIndex_8e157_5 : decode cJ3_checkIndex_8e157 5 = .ok (.iload_n 1, 1) := by decide +kernel
theorem dJ3_checkIndex_8e157_6 : decode cJ3_checkIndex_8e157 6 = .ok (.if_icmp .lt 10, 3) := by decide +kernel
theorem dJ3_checkIndex_8e157_9 : decode cJ3_checkIndex_8e157 9 = .ok (.aload_n 2, 1) := by decide +kernel
theorem dJ3_checkIndex_8e157_10 : decode cJ3_checkIndex_8e157 10 = .ok (.iload_n 0, 1) := by decide +kernel
theorem dJ3_checkIndex_8e157_11 : decode cJ3_checkIndex_8e157 11 = .ok (.iload_n 1, 1) := by decide +kernel
theorem dJ3_checkIndex_8e157_12 : decode cJ3_checkIndex_8e157 12 = .ok (.invokestatic 95, 3) := by decide +kernel
theorem dJ3_checkIndex_8e157_15 : decode cJ3_checkIndex_8e157 15 = .ok (.athrow, 1) := by decide +kernel
theorem dJ3_checkIndex_8e157_16 : decode cJ3_checkIndex_8e157 16 = .ok (.iload_n 0, 1) := by decide +kernel
theorem dJ3_checkIndex_8e157_17 : decode cJ3_checkIndex_8e157 17 = .ok (.ireturn, 1) := by decide +kernel
