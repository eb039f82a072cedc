theorem dX10_init_20 : decode cX10_init 20 = .ok (.aload_n 0, 1) := by decide +kernel
theorem dX10_init_21 : decode cX10_init 21 = .ok (.sipush 1488, 3) := by decide +kernel
theorem dX10_init_24 : decode cX10_init 24 = .ok (.newarray .int, 2) := by decide +kernel
theorem dX10_init_26 : decode cX10_init 26 = .ok (.putfield 18, 3) := by decide +kernel
theorem dX10_init_29 : decode cX10_init 29 = .ok (.aload_n 0, 1) := by decide +kernel
theorem dX10_init_30 : decode cX10_init 30 = .ok (.sipush 186, 3) := by decide +kernel
theorem dX10_init_33 : decode cX10_init 33 = .ok (.newarray .int, 2) := by decide +kernel
theorem dX10_init_35 : decode cX10_init 35 = .ok (.putfield 21, 3) := by decide +kernel
theorem dX10_init_38 : decode cX10_init 38 = .ok (.aload_n 0, 1) := by decide +kernel
theorem dX10_init_39 : decode cX10_init 39 = .ok (.iconst 2, 1) := by decide +kernel
theorem dX10_init_40 : decode cX10_init 40 = .ok (.newarray .boolean, 2) := by decide +kernel
theorem dX10_init_42 : decode cX10_init 42 = .ok (.putfield 24, 3) := by decide +kernel
theorem dX10_init_45 : decode cX10_init 45 = .ok (.aload_n 0, 1) := by decide +kernel
theorem dX10_init_46 : decode cX10_init 46 = .ok (.sipush 400, 3) := by decide +kernel
theorem dX10_init_49 : decode cX10_init 49 = .ok (.newarray .byte, 2) := by decide +kernel
theorem dX10_init_51 : decode cX10_init 51 = .ok (.putfield 28, 3) := by decide +kernel
theorem dX10_init_54 : decode cX10_init 54 = .ok (.aload_n 0, 1) := by decide +kernel
theorem dX10_init_55 : decode cX10_init 55 = .ok (.iconst (-1), 1) := by decide +kernel
theorem dX10_init_56 : decode cX10_init 56 = .ok (.putfield 32, 3) := by decide +kernel
theorem dX10_init_59 : decode cX10_init 59 = .ok (.aload_n 0, 1) := by decide +kernel
theorem dX10_init_60 : decode cX10_init 60 = .ok (.bipush 9, 2) := by decide +kernel
theorem dX10_init_62 : decode cX10_init 62 = .ok (.newarray .int, 2) := by decide +kernel
theorem dX10_init_64 : decode cX10_init 64 = .ok (.putfield 36, 3) := by decide +kernel
theorem dX10_init_67 : decode cX10_init 67 = .ok (.aload_n 0, 1) := by decide +kernel
theorem dX10_init_68 : decode cX10_init 68 = .ok (.sipush 512, 3) := by decide +kernel
theorem dX10_init_71 : decode cX10_init 71 = .ok (.newarray .int, 2) := by decide +kernel
theorem dX10_init_73 : decode cX10_init 73 = .ok (.putfield 39, 3) := by decide +kernel
theorem dX10_init_76 : decode cX10_init 76 = .ok (.aload_n 0, 1) := by decide +kernel
theorem dX10_init_77 : decode cX10_init 77 = .ok (.sipush 576, 3) := by decide +kernel
theorem dX10_init_80 : decode cX10_init 80 = .ok (.newarray .int, 2) := by decide +kernel
theorem dX10_init_82 : decode cX10_init 82 = .ok (.putfield 42, 3) := by decide +kernel
theorem dX10_init_85 : decode cX10_init 85 = .ok (.aload_n 0, 1) := by decide +kernel
theorem dX10_init_86 : decode cX10_init 86 = .ok (.bipush 64, 2) := by decide +kernel
theorem dX10_init_88 : decode cX10_init 88 = .ok (.newarray .int, 2) := by decide +kernel
theorem dX10_init_90 : decode cX10_init 90 = .ok (.putfield 45, 3) := by decide +kernel
theorem dX10_init_93 : decode cX10_init 93 = .ok (.aload_n 0, 1) := by decide +kernel
theorem dX10_init_94 : decode cX10_init 94 = .ok (.bipush 10, 2) := by decide +kernel
theorem dX10_init_96 : decode cX10_init 96 = .ok (.newarray .int, 2) := by decide +kernel
theorem dX10_init_98 : decode cX10_init 98 = .ok (.putfield 48, 3) := by decide +kernel
theorem dX10_init_101 : decode cX10_init 101 = .ok (.aload_n 0, 1) := by decide +kernel
theorem dX10_init_102 : decode cX10_init 102 = .ok (.bipush 10, 2) := by decide +kernel
theorem dX10_init_104 : decode cX10_init 104 = .ok (.newarray .int, 2) := by decide +kernel
theorem dX10_init_106 : decode cX10_init 106 = .ok (.putfield 51, 3) := by decide +kernel
theorem dX10_init_109 : decode cX10_init 109 = .ok (.aload_n 0, 1) := by decide +kernel
theorem dX10_init_110 : decode cX10_init 110 = .ok (.bipush 9, 2) := by decide +kernel
theorem dX10_init_112 : decode cX10_init 112 = .ok (.newarray .int, 2) := by decide +kernel
theorem dX10_init_114 : decode cX10_init 114 = .ok (.putfield 54, 3) := by decide +kernel
theorem dX10_init_117 : decode cX10_init 117 = .ok (.aload_n 0, 1) := by decide +kernel
theorem dX10_init_118 : decode cX10_init 118 = .ok (.bipush 9, 2) := by decide +kernel
theorem dX10_init_120 : decode cX10_init 120 = .ok (.newarray .int, 2) := by decide +kernel
theorem dX10_init_122 : decode cX10_init 122 = .ok (.putfield 57, 3) := by decide +kernel
theorem dX10_init_125 : decode cX10_init 125 = .ok (.aload_n 0, 1) := by decide +kernel
theorem dX10_init_126 : decode cX10_init 126 = .ok (.bipush 9, 2) := by decide +kernel
theorem dX10_init_128 : decode cX10_init 128 = .ok (.newarray .long, 2) := by decide +kernel
theorem dX10_init_130 : decode cX10_init 130 = .ok (.putfield 60, 3) := by decide +kernel
theorem dX10_init_133 : decode cX10_init 133 = .ok (.aload_n 0, 1) := by decide +kernel
theorem dX10_init_134 : decode cX10_init 134 = .ok (.bipush 9, 2) := by decide +kernel
theorem dX10_init_136 : decode cX10_init 136 = .ok (.newarray .long, 2) := by decide +kernel
theorem dX10_init_138 : decode cX10_init 138 = .ok (.putfield 64, 3) := by decide +kernel
theorem dX10_init_141 : decode cX10_init 141 = .ok (.aload_n 0, 1) := by decide +kernel
theorem dX10_init_142 : decode cX10_init 142 = .ok (.sipush 128, 3) := by decide +kernel
theorem dX10_init_145 : decode cX10_init 145 = .ok (.newarray .int, 2) := by decide +kernel
theorem dX10_init_147 : decode cX10_init 147 = .ok (.putfield 67, 3) := by decide +kernel
theorem dX10_init_150 : decode cX10_init 150 = .ok (.aload_n 0, 1) := by decide +kernel
theorem dX10_init_151 : decode cX10_init 151 = .ok (.sipush 128, 3) := by decide +kernel
theorem dX10_init_154 : decode cX10_init 154 = .ok (.newarray .int, 2) := by decide +kernel
theorem dX10_init_156 : decode cX10_init 156 = .ok (.putfield 70, 3) := by decide +kernel
theorem dX10_init_159 : decode cX10_init 159 = .ok (.aload_n 0, 1) := by decide +kernel
theorem dX10_init_160 : decode cX10_init 160 = .ok (.sipush 1600, 3) := by decide +kernel
theorem dX10_init_163 : decode cX10_init 163 = .ok (.newarray .int, 2) := by decide +kernel
theorem dX10_init_165 : decode cX10_init 165 = .ok (.putfield 73, 3) := by decide +kernel
theorem dX10_init_168 : decode cX10_init 168 = .ok (.aload_n 0, 1) := by decide +kernel
theorem dX10_init_169 : decode cX10_init 169 = .ok (.bipush 10, 2) := by decide +kernel
theorem dX10_init_171 : decode cX10_init 171 = .ok (.newarray .int, 2) := by decide +kernel
theorem dX10_init_173 : decode cX10_init 173 = .ok (.putfield 76, 3) := by decide +kernel
theorem dX10_init_176 : decode cX10_init 176 = .ok (.aload_n 0, 1) := by decide +kernel
theorem dX10_init_177 : decode cX10_init 177 = .ok (.bipush 9, 2) := by decide +kernel
theorem dX10_init_179 : decode cX10_init 179 = .ok (.newarray .int, 2) := by decide +kernel
theorem dX10_init_181 : decode cX10_init 181 = .ok (.putfield 79, 3) := by decide +kernel
theorem dX10_init_184 : decode cX10_init 184 = .ok (.return_, 1) := by decide +kernel
theorem dX10_thrown_0 : decode cX10_thrown 0 = .ok (.aload_n 0, 1) := by decide +kernel
theorem dX10_thrown_1 : decode cX10_thrown 1 = .ok (.getfield 82, 3) := by decide +kernel
theorem dX10_thrown_4 : decode cX10_thrown 4 = .ok (.ireturn, 1) := by decide +kernel
theorem dX10_isIn_0 : decode cX10_isIn 0 = .ok (.lload_n 0, 1) := by decide +kernel
theorem dX10_isIn_1 : decode cX10_isIn 1 = .ok (.lload_n 2, 1) := by decide +kernel
theorem dX10_isIn_2 : decode cX10_isIn 2 = .ok (.lcmp, 1) := by decide +kernel
theorem dX10_isIn_3 : decode cX10_isIn 3 = .ok (.ifCond .lt 14, 3) := by decide +kernel
theorem dX10_isIn_6 : decode cX10_isIn 6 = .ok (.lload_n 0, 1) := by decide +kernel
theorem dX10_isIn_7 : decode cX10_isIn 7 = .ok (.lload 4, 2) := by decide +kernel
theorem dX10_isIn_9 : decode cX10_isIn 9 = .ok (.lcmp, 1) := by decide +kernel
theorem dX10_isIn_10 : decode cX10_isIn 10 = .ok (.ifCond .gt 7, 3) := by decide +kernel
theorem dX10_isIn_13 : decode cX10_isIn 13 = .ok (.iconst 1, 1) := by decide +kernel
theorem dX10_isIn_14 : decode cX10_isIn 14 = .ok (.goto 4, 3) := by decide +kernel
theorem dX10_isIn_17 : decode cX10_isIn 17 = .ok (.iconst 0, 1) := by decide +kernel
theorem dX10_isIn_18 : decode cX10_isIn 18 = .ok (.ireturn, 1) := by decide +kernel
theorem dX10_has_0 : decode cX10_has 0 = .ok (.iload_n 0, 1) := by decide +kernel
theorem dX10_has_1 : decode cX10_has 1 = .ok (.iload_n 1, 1) := by decide +kernel
theorem dX10_has_2 : decode cX10_has 2 = .ok (.ishr, 1) := by decide +kernel
theorem dX10_has_3 : decode cX10_has 3 = .ok (.iconst 1, 1) := by decide +kernel
theorem dX10_has_4 : decode cX10_has 4 = .ok (.iand, 1) := by decide +kernel
theorem dX10_has_5 : decode cX10_has 5 = .ok (.iconst 1, 1) := by decide +kernel
theorem dX10_has_6 : decode cX10_has 6 = .ok (.if_icmp .ne 7, 3) := by decide +kernel
theorem dX10_has_9 : decode cX10_has 9 = .ok (.iconst 1, 1) := by decide +kernel
theorem dX10_has_10 : decode cX10_has 10 = .ok (.goto 4, 3) := by decide +kernel
theorem dX10_has_13 : decode cX10_has 13 = .ok (.iconst 0, 1) := by decide +kernel
theorem dX10_has_14 : decode cX10_has 14 = .ok (.ireturn, 1) := by decide +kernel
theorem dX10_bits_0 : decode cX10_bits 0 = .ok (.iconst 0, 1) := by decide +kernel
theorem dX10_bits_1 : decode cX10_bits 1 = .ok (.istore_n 1, 1) := by decide +kernel
theorem dX10_bits_2 : decode cX10_bits 2 = .ok (.iconst 0, 1) := by decide +kernel
theorem dX10_bits_3 : decode cX10_bits 3 = .ok (.istore_n 2, 1) := by decide +kernel
theorem dX10_bits_4 : decode cX10_bits 4 = .ok (.iload_n 2, 1) := by decide +kernel
theorem dX10_bits_5 : decode cX10_bits 5 = .ok (.bipush 9, 2) := by decide +kernel
theorem dX10_bits_7 : decode cX10_bits 7 = .ok (.if_icmp .ge 17, 3) := by decide +kernel
theorem dX10_bits_10 : decode cX10_bits 10 = .ok (.iload_n 1, 1) := by decide +kernel
theorem dX10_bits_11 : decode cX10_bits 11 = .ok (.iload_n 0, 1) := by decide +kernel
theorem dX10_bits_12 : decode cX10_bits 12 = .ok (.iload_n 2, 1) := by decide +kernel
theorem dX10_bits_13 : decode cX10_bits 13 = .ok (.ishr, 1) := by decide +kernel
theorem dX10_bits_14 : decode cX10_bits 14 = .ok (.iconst 1, 1) := by decide +kernel
theorem dX10_bits_15 : decode cX10_bits 15 = .ok (.iand, 1) := by decide +kernel
theorem dX10_bits_16 : decode cX10_bits 16 = .ok (.iadd, 1) := by decide +kernel
theorem dX10_bits_17 : decode cX10_bits 17 = .ok (.istore_n 1, 1) := by decide +kernel
theorem dX10_bits_18 : decode cX10_bits 18 = .ok (.iinc 2 1, 3) := by decide +kernel
theorem dX10_bits_21 : decode cX10_bits 21 = .ok (.goto (-17), 3) := by decide +kernel
theorem dX10_bits_24 : decode cX10_bits 24 = .ok (.iload_n 1, 1) := by decide +kernel
theorem dX10_bits_25 : decode cX10_bits 25 = .ok (.ireturn, 1) := by decide +kernel
theorem dX10_isTold_0 : decode cX10_isTold 0 = .ok (.aload_n 0, 1) := by decide +kernel
theorem dX10_isTold_1 : decode cX10_isTold 1 = .ok (.getfield 9, 3) := by decide +kernel
theorem dX10_isTold_4 : decode cX10_isTold 4 = .ok (.iconst 0, 1) := by decide +kernel
theorem dX10_isTold_5 : decode cX10_isTold 5 = .ok (.iaload, 1) := by decide +kernel
theorem dX10_isTold_6 : decode cX10_isTold 6 = .ok (.ifCond .le 7, 3) := by decide +kernel
theorem dX10_isTold_9 : decode cX10_isTold 9 = .ok (.iconst 1, 1) := by decide +kernel
theorem dX10_isTold_10 : decode cX10_isTold 10 = .ok (.goto 4, 3) := by decide +kernel
theorem dX10_isTold_13 : decode cX10_isTold 13 = .ok (.iconst 0, 1) := by decide +kernel
theorem dX10_isTold_14 : decode cX10_isTold 14 = .ok (.ireturn, 1) := by decide +kernel
set_option maxRecDepth 20000 in
theorem ggX10_isThere_X10_isIn : GoodIn wsX10_isThere wsX10_isIn := goodIn_r _ [6] (by decide +kernel) (by decide +kernel)
set_option maxRecDepth 20000 in
theorem gX10_isThere_X10_isIn : GoodIn wsX10_isThere (va_wsS RX10 87 yX10_isIn wsX10_isIn) := goodIn_app (goodIn_of _ (by decide +kernel)) ggX10_isThere_X10_isIn
set_option maxRecDepth 20000 in
theorem ggX10_isThere_X10_has : GoodIn wsX10_isThere wsX10_has := goodIn_r _ [9] (by decide +kernel) (by decide +kernel)
set_option maxRecDepth 20000 in
theorem gX10_isThere_X10_has : GoodIn wsX10_isThere (va_wsS RX10 91 yX10_has wsX10_has) := goodIn_app (goodIn_of _ (by decide +kernel)) ggX10_isThere_X10_has
theorem dX10_isThere_0 : decode cX10_isThere 0 = .ok (.iload_n 1, 1) := by decide +kernel
theorem dX10_isThere_1 : decode cX10_isThere 1 = .ok (.i2l, 1) := by decide +kernel
theorem dX10_isThere_2 : decode cX10_isThere 2 = .ok (.lconst 0, 1) := by decide +kernel
theorem dX10_isThere_3 : decode cX10_isThere 3 = .ok (.ldc2_w 85, 3) := by decide +kernel
theorem dX10_isThere_6 : decode cX10_isThere 6 = .ok (.invokestatic 87, 3) := by decide +kernel
theorem dX10_isThere_9 : decode cX10_isThere 9 = .ok (.ifCond .eq 20, 3) := by decide +kernel
theorem dX10_isThere_12 : decode cX10_isThere 12 = .ok (.aload_n 0, 1) := by decide +kernel
theorem dX10_isThere_13 : decode cX10_isThere 13 = .ok (.getfield 9, 3) := by decide +kernel
theorem dX10_isThere_16 : decode cX10_isThere 16 = .ok (.iconst 1, 1) := by decide +kernel
theorem dX10_isThere_17 : decode cX10_isThere 17 = .ok (.iaload, 1) := by decide +kernel
theorem dX10_isThere_18 : decode cX10_isThere 18 = .ok (.iload_n 1, 1) := by decide +kernel
theorem dX10_isThere_19 : decode cX10_isThere 19 = .ok (.invokestatic 91, 3) := by decide +kernel
theorem dX10_isThere_22 : decode cX10_isThere 22 = .ok (.ifCond .eq 7, 3) := by decide +kernel
theorem dX10_isThere_25 : decode cX10_isThere 25 = .ok (.iconst 1, 1) := by decide +kernel
theorem dX10_isThere_26 : decode cX10_isThere 26 = .ok (.goto 4, 3) := by decide +kernel
theorem dX10_isThere_29 : decode cX10_isThere 29 = .ok (.iconst 0, 1) := by decide +kernel
theorem dX10_isThere_30 : decode cX10_isThere 30 = .ok (.ireturn, 1) := by decide +kernel
set_option maxRecDepth 20000 in
theorem ggX10_areThere_X10_isThere : GoodIn wsX10_areThere wsX10_isThere := goodIn_r _ [5, 6, 7, 8, 9, 4, 10, 11, 12, 13, 14, 15, 16, 17, 18, 19, 20, 21, 22, 23, 24, 25, 26, 27, 28, 29, 30, 31, 32, 33, 34, 35, 36, 37, 38, 39, 40, 41, 42, 43] (by decide +kernel) (by decide +kernel)
set_option maxRecDepth 20000 in
theorem gX10_areThere_X10_isThere : GoodIn wsX10_areThere (wsV RX10 95 RX10 yX10_isThere wsX10_isThere) := goodIn_app (goodIn_of _ (by decide +kernel)) ggX10_areThere_X10_isThere
theorem dX10_areThere_0 : decode cX10_areThere 0 = .ok (.aload_n 0, 1) := by decide +kernel
theorem dX10_areThere_1 : decode cX10_areThere 1 = .ok (.iload_n 1, 1) := by decide +kernel
theorem dX10_areThere_2 : decode cX10_areThere 2 = .ok (.invokevirtual 95, 3) := by decide +kernel
theorem dX10_areThere_5 : decode cX10_areThere 5 = .ok (.ifCond .eq 15, 3) := by decide +kernel
theorem dX10_areThere_8 : decode cX10_areThere 8 = .ok (.aload_n 0, 1) := by decide +kernel
theorem dX10_areThere_9 : decode cX10_areThere 9 = .ok (.iload_n 2, 1) := by decide +kernel
theorem dX10_areThere_10 : decode cX10_areThere 10 = .ok (.invokevirtual 95, 3) := by decide +kernel
theorem dX10_areThere_13 : decode cX10_areThere 13 = .ok (.ifCond .eq 7, 3) := by decide +kernel
theorem dX10_areThere_16 : decode cX10_areThere 16 = .ok (.iconst 1, 1) := by decide +kernel
theorem dX10_areThere_17 : decode cX10_areThere 17 = .ok (.goto 4, 3) := by decide +kernel
theorem dX10_areThere_20 : decode cX10_areThere 20 = .ok (.iconst 0, 1) := by decide +kernel
theorem dX10_areThere_21 : decode cX10_areThere 21 = .ok (.ireturn, 1) := by decide +kernel
set_option maxRecDepth 20000 in
theorem ggX10_isBelow_X10_has : GoodIn wsX10_isBelow wsX10_has := goodIn_r _ [5] (by decide +kernel) (by decide +kernel)
set_option maxRecDepth 20000 in
theorem gX10_isBelow_X10_has : GoodIn wsX10_isBelow (va_wsS RX10 91 yX10_has wsX10_has) := goodIn_app (goodIn_of _ (by decide +kernel)) ggX10_isBelow_X10_has
theorem dX10_isBelow_0 : decode cX10_isBelow 0 = .ok (.aload_n 0, 1) := by decide +kernel
theorem dX10_isBelow_1 : decode cX10_isBelow 1 = .ok (.getfield 9, 3) := by decide +kernel
theorem dX10_isBelow_4 : decode cX10_isBelow 4 = .ok (.iconst 3, 1) := by decide +kernel
theorem dX10_isBelow_5 : decode cX10_isBelow 5 = .ok (.iload_n 1, 1) := by decide +kernel
theorem dX10_isBelow_6 : decode cX10_isBelow 6 = .ok (.iadd, 1) := by decide +kernel
theorem dX10_isBelow_7 : decode cX10_isBelow 7 = .ok (.iaload, 1) := by decide +kernel
theorem dX10_isBelow_8 : decode cX10_isBelow 8 = .ok (.iload_n 2, 1) := by decide +kernel
theorem dX10_isBelow_9 : decode cX10_isBelow 9 = .ok (.invokestatic 91, 3) := by decide +kernel
theorem dX10_isBelow_12 : decode cX10_isBelow 12 = .ok (.ireturn, 1) := by decide +kernel
theorem dX10_above_0 : decode cX10_above 0 = .ok (.aload_n 0, 1) := by decide +kernel
theorem dX10_above_1 : decode cX10_above 1 = .ok (.getfield 9, 3) := by decide +kernel
theorem dX10_above_4 : decode cX10_above 4 = .ok (.iconst 3, 1) := by decide +kernel
theorem dX10_above_5 : decode cX10_above 5 = .ok (.iload_n 1, 1) := by decide +kernel
theorem dX10_above_6 : decode cX10_above 6 = .ok (.iadd, 1) := by decide +kernel
theorem dX10_above_7 : decode cX10_above 7 = .ok (.iaload, 1) := by decide +kernel
theorem dX10_above_8 : decode cX10_above 8 = .ok (.aload_n 0, 1) := by decide +kernel
theorem dX10_above_9 : decode cX10_above 9 = .ok (.getfield 9, 3) := by decide +kernel
theorem dX10_above_12 : decode cX10_above 12 = .ok (.iconst 1, 1) := by decide +kernel
theorem dX10_above_13 : decode cX10_above 13 = .ok (.iaload, 1) := by decide +kernel
theorem dX10_above_14 : decode cX10_above 14 = .ok (.iand, 1) := by decide +kernel
theorem dX10_above_15 : decode cX10_above 15 = .ok (.ireturn, 1) := by decide +kernel
set_option maxRecDepth 20000 in
theorem ggX10_below_X10_has : GoodIn wsX10_below wsX10_has := goodIn_r _ [5] (by decide +kernel) (by decide +kernel)
set_option maxRecDepth 20000 in
theorem gX10_below_X10_has : GoodIn wsX10_below (va_wsS RX10 91 yX10_has wsX10_has) := goodIn_app (goodIn_of _ (by decide +kernel)) ggX10_below_X10_has
set_option maxRecDepth 20000 in
theorem ggX10_below_X10_isBelow : GoodIn wsX10_below wsX10_isBelow := goodIn_r _ [9, 1, 2, 3, 4, 5, 10, 11, 12, 13, 14, 15, 16, 17, 18, 19, 20, 21, 22, 23, 24, 25, 26, 27, 28, 29, 30, 31, 32, 33, 34, 35, 36, 37, 38, 39] (by decide +kernel) (by decide +kernel)
set_option maxRecDepth 20000 in
theorem gX10_below_X10_isBelow : GoodIn wsX10_below (wsV RX10 99 RX10 yX10_isBelow wsX10_isBelow) := goodIn_app (goodIn_of _ (by decide +kernel)) ggX10_below_X10_isBelow
theorem dX10_below_0 : decode cX10_below 0 = .ok (.iconst 0, 1) := by decide +kernel
theorem dX10_below_1 : decode cX10_below 1 = .ok (.istore_n 2, 1) := by decide +kernel
theorem dX10_below_2 : decode cX10_below 2 = .ok (.iconst 0, 1) := by decide +kernel
theorem dX10_below_3 : decode cX10_below 3 = .ok (.istore_n 3, 1) := by decide +kernel
theorem dX10_below_4 : decode cX10_below 4 = .ok (.iload_n 3, 1) := by decide +kernel
theorem dX10_below_5 : decode cX10_below 5 = .ok (.bipush 9, 2) := by decide +kernel
theorem dX10_below_7 : decode cX10_below 7 = .ok (.if_icmp .ge 41, 3) := by decide +kernel
theorem dX10_below_10 : decode cX10_below 10 = .ok (.iload_n 2, 1) := by decide +kernel
theorem dX10_below_11 : decode cX10_below 11 = .ok (.aload_n 0, 1) := by decide +kernel
theorem dX10_below_12 : decode cX10_below 12 = .ok (.getfield 9, 3) := by decide +kernel
theorem dX10_below_15 : decode cX10_below 15 = .ok (.iconst 1, 1) := by decide +kernel
theorem dX10_below_16 : decode cX10_below 16 = .ok (.iaload, 1) := by decide +kernel
theorem dX10_below_17 : decode cX10_below 17 = .ok (.iload_n 3, 1) := by decide +kernel
theorem dX10_below_18 : decode cX10_below 18 = .ok (.invokestatic 91, 3) := by decide +kernel
theorem dX10_below_21 : decode cX10_below 21 = .ok (.ifCond .eq 18, 3) := by decide +kernel
theorem dX10_below_24 : decode cX10_below 24 = .ok (.aload_n 0, 1) := by decide +kernel
theorem dX10_below_25 : decode cX10_below 25 = .ok (.iload_n 3, 1) := by decide +kernel
theorem dX10_below_26 : decode cX10_below 26 = .ok (.iload_n 1, 1) := by decide +kernel
theorem dX10_below_27 : decode cX10_below 27 = .ok (.invokevirtual 99, 3) := by decide +kernel
theorem dX10_below_30 : decode cX10_below 30 = .ok (.ifCond .eq 9, 3) := by decide +kernel
theorem dX10_below_33 : decode cX10_below 33 = .ok (.iconst 1, 1) := by decide +kernel
theorem dX10_below_34 : decode cX10_below 34 = .ok (.iload_n 3, 1) := by decide +kernel
theorem dX10_below_35 : decode cX10_below 35 = .ok (.ishl, 1) := by decide +kernel
theorem dX10_below_36 : decode cX10_below 36 = .ok (.goto 4, 3) := by decide +kernel
theorem dX10_below_39 : decode cX10_below 39 = .ok (.iconst 0, 1) := by decide +kernel
theorem dX10_below_40 : decode cX10_below 40 = .ok (.ior, 1) := by decide +kernel
theorem dX10_below_41 : decode cX10_below 41 = .ok (.istore_n 2, 1) := by decide +kernel
theorem dX10_below_42 : decode cX10_below 42 = .ok (.iinc 3 1, 3) := by decide +kernel
theorem dX10_below_45 : decode cX10_below 45 = .ok (.goto (-41), 3) := by decide +kernel
theorem dX10_below_48 : decode cX10_below 48 = .ok (.iload_n 2, 1) := by decide +kernel
theorem dX10_below_49 : decode cX10_below 49 = .ok (.ireturn, 1) := by decide +kernel
set_option maxRecDepth 20000 in
theorem ggX10_covers_X10_isBelow : GoodIn wsX10_covers wsX10_isBelow := goodIn_r _ [5, 6, 7, 8, 4, 9, 18, 19, 20, 21, 22, 23, 24, 25, 26, 27, 28, 29, 30, 31, 32, 33, 34, 35, 36, 37, 38, 39, 40, 41, 42, 43, 44, 45, 46, 47] (by decide +kernel) (by decide +kernel)
set_option maxRecDepth 20000 in
theorem gX10_covers_X10_isBelow : GoodIn wsX10_covers (wsV RX10 99 RX10 yX10_isBelow wsX10_isBelow) := goodIn_app (goodIn_of _ (by decide +kernel)) ggX10_covers_X10_isBelow
set_option maxRecDepth 20000 in
theorem ggX10_covers_X10_above : GoodIn wsX10_covers wsX10_above := goodIn_r _ [13, 6, 18, 19, 20, 21, 22, 23, 24, 25, 26, 27, 28, 29, 30, 31, 32, 33, 34, 35, 36, 37, 38, 39, 40, 41, 42, 43, 44, 45, 46, 47] (by decide +kernel) (by decide +kernel)
set_option maxRecDepth 20000 in
theorem gX10_covers_X10_above : GoodIn wsX10_covers (wsV RX10 102 RX10 yX10_above wsX10_above) := goodIn_app (goodIn_of _ (by decide +kernel)) ggX10_covers_X10_above
set_option maxRecDepth 20000 in
theorem ggX10_covers_X10_below : GoodIn wsX10_covers wsX10_below := goodIn_r _ [17, 6, 7, 8, 4, 9, 1, 2, 3, 5, 18, 19, 20, 21, 22, 23, 24, 25, 26, 27, 28, 29, 30, 31, 32, 33, 34, 35, 36, 37, 38, 39, 40, 41, 42, 43, 44, 45, 46, 47] (by decide +kernel) (by decide +kernel)
set_option maxRecDepth 20000 in
theorem gX10_covers_X10_below : GoodIn wsX10_covers (wsV RX10 106 RX10 yX10_below wsX10_below) := goodIn_app (goodIn_of _ (by decide +kernel)) ggX10_covers_X10_below
theorem dX10_covers_0 : decode cX10_covers 0 = .ok (.aload_n 0, 1) := by decide +kernel
theorem dX10_covers_1 : decode cX10_covers 1 = .ok (.iload_n 2, 1) := by decide +kernel
theorem dX10_covers_2 : decode cX10_covers 2 = .ok (.iload_n 1, 1) := by decide +kernel
theorem dX10_covers_3 : decode cX10_covers 3 = .ok (.invokevirtual 99, 3) := by decide +kernel
theorem dX10_covers_6 : decode cX10_covers 6 = .ok (.ifCond .eq 21, 3) := by decide +kernel
theorem dX10_covers_9 : decode cX10_covers 9 = .ok (.aload_n 0, 1) := by decide +kernel
theorem dX10_covers_10 : decode cX10_covers 10 = .ok (.iload_n 2, 1) := by decide +kernel
theorem dX10_covers_11 : decode cX10_covers 11 = .ok (.invokevirtual 102, 3) := by decide +kernel
theorem dX10_covers_14 : decode cX10_covers 14 = .ok (.aload_n 0, 1) := by decide +kernel
theorem dX10_covers_15 : decode cX10_covers 15 = .ok (.iload_n 1, 1) := by decide +kernel
theorem dX10_covers_16 : decode cX10_covers 16 = .ok (.invokevirtual 106, 3) := by decide +kernel
theorem dX10_covers_19 : decode cX10_covers 19 = .ok (.iand, 1) := by decide +kernel
theorem dX10_covers_20 : decode cX10_covers 20 = .ok (.ifCond .ne 7, 3) := by decide +kernel
theorem dX10_covers_23 : decode cX10_covers 23 = .ok (.iconst 1, 1) := by decide +kernel
theorem dX10_covers_24 : decode cX10_covers 24 = .ok (.goto 4, 3) := by decide +kernel
theorem dX10_covers_27 : decode cX10_covers 27 = .ok (.iconst 0, 1) := by decide +kernel
theorem dX10_covers_28 : decode cX10_covers 28 = .ok (.ireturn, 1) := by decide +kernel
theorem dX10_told_0 : decode cX10_told 0 = .ok (.aload_n 0, 1) := by decide +kernel
theorem dX10_told_1 : decode cX10_told 1 = .ok (.getfield 9, 3) := by decide +kernel
theorem dX10_told_4 : decode cX10_told 4 = .ok (.bipush 12, 2) := by decide +kernel
theorem dX10_told_6 : decode cX10_told 6 = .ok (.bipush 9, 2) := by decide +kernel
theorem dX10_told_8 : decode cX10_told 8 = .ok (.iload_n 1, 1) := by decide +kernel
theorem dX10_told_9 : decode cX10_told 9 = .ok (.imul, 1) := by decide +kernel
theorem dX10_told_10 : decode cX10_told 10 = .ok (.iadd, 1) := by decide +kernel
theorem dX10_told_11 : decode cX10_told 11 = .ok (.iload_n 2, 1) := by decide +kernel
theorem dX10_told_12 : decode cX10_told 12 = .ok (.iadd, 1) := by decide +kernel
theorem dX10_told_13 : decode cX10_told 13 = .ok (.iaload, 1) := by decide +kernel
theorem dX10_told_14 : decode cX10_told 14 = .ok (.ireturn, 1) := by decide +kernel
set_option maxRecDepth 20000 in
theorem ggX10_labelBy_X10_told : GoodIn wsX10_labelBy wsX10_told := goodIn_r _ [6, 1, 7, 8, 9, 10, 11, 12, 13, 14, 15, 16, 17, 18, 19, 20, 21, 22, 23, 24, 25, 26, 27, 28, 29, 30, 31, 32, 33, 34, 35, 36] (by decide +kernel) (by decide +kernel)
set_option maxRecDepth 20000 in
theorem gX10_labelBy_X10_told : GoodIn wsX10_labelBy (wsV RX10 109 RX10 yX10_told wsX10_told) := goodIn_app (goodIn_of _ (by decide +kernel)) ggX10_labelBy_X10_told
theorem dX10_labelBy_0 : decode cX10_labelBy 0 = .ok (.aload_n 0, 1) := by decide +kernel
theorem dX10_labelBy_1 : decode cX10_labelBy 1 = .ok (.getfield 9, 3) := by decide +kernel
theorem dX10_labelBy_4 : decode cX10_labelBy 4 = .ok (.iconst 2, 1) := by decide +kernel
theorem dX10_labelBy_5 : decode cX10_labelBy 5 = .ok (.iaload, 1) := by decide +kernel
theorem dX10_labelBy_6 : decode cX10_labelBy 6 = .ok (.tableswitch 46 0 2 #[26, 33, 35], 26) := by decide +kernel
theorem dX10_labelBy_32 : decode cX10_labelBy 32 = .ok (.aload_n 0, 1) := by decide +kernel
theorem dX10_labelBy_33 : decode cX10_labelBy 33 = .ok (.iload_n 1, 1) := by decide +kernel
theorem dX10_labelBy_34 : decode cX10_labelBy 34 = .ok (.iload_n 2, 1) := by decide +kernel
theorem dX10_labelBy_35 : decode cX10_labelBy 35 = .ok (.invokevirtual 109, 3) := by decide +kernel
theorem dX10_labelBy_38 : decode cX10_labelBy 38 = .ok (.ireturn, 1) := by decide +kernel
theorem dX10_labelBy_39 : decode cX10_labelBy 39 = .ok (.iload_n 2, 1) := by decide +kernel
theorem dX10_labelBy_40 : decode cX10_labelBy 40 = .ok (.ireturn, 1) := by decide +kernel
theorem dX10_labelBy_41 : decode cX10_labelBy 41 = .ok (.iload_n 1, 1) := by decide +kernel
theorem dX10_labelBy_42 : decode cX10_labelBy 42 = .ok (.iload_n 2, 1) := by decide +kernel
theorem dX10_labelBy_43 : decode cX10_labelBy 43 = .ok (.if_icmp .le 7, 3) := by decide +kernel
theorem dX10_labelBy_46 : decode cX10_labelBy 46 = .ok (.iload_n 1, 1) := by decide +kernel
theorem dX10_labelBy_47 : decode cX10_labelBy 47 = .ok (.goto 4, 3) := by decide +kernel
theorem dX10_labelBy_50 : decode cX10_labelBy 50 = .ok (.iload_n 2, 1) := by decide +kernel
theorem dX10_labelBy_51 : decode cX10_labelBy 51 = .ok (.ireturn, 1) := by decide +kernel
theorem dX10_labelBy_52 : decode cX10_labelBy 52 = .ok (.iload_n 1, 1) := by decide +kernel
theorem dX10_labelBy_53 : decode cX10_labelBy 53 = .ok (.iload_n 2, 1) := by decide +kernel
theorem dX10_labelBy_54 : decode cX10_labelBy 54 = .ok (.if_icmp .le 9, 3) := by decide +kernel
theorem dX10_labelBy_57 : decode cX10_labelBy 57 = .ok (.iload_n 1, 1) := by decide +kernel
theorem dX10_labelBy_58 : decode cX10_labelBy 58 = .ok (.iload_n 2, 1) := by decide +kernel
theorem dX10_labelBy_59 : decode cX10_labelBy 59 = .ok (.isub, 1) := by decide +kernel
theorem dX10_labelBy_60 : decode cX10_labelBy 60 = .ok (.goto 6, 3) := by decide +kernel
theorem dX10_labelBy_63 : decode cX10_labelBy 63 = .ok (.iload_n 2, 1) := by decide +kernel
theorem dX10_labelBy_64 : decode cX10_labelBy 64 = .ok (.iload_n 1, 1) := by decide +kernel
theorem dX10_labelBy_65 : decode cX10_labelBy 65 = .ok (.isub, 1) := by decide +kernel
theorem dX10_labelBy_66 : decode cX10_labelBy 66 = .ok (.ireturn, 1) := by decide +kernel
theorem dX10_remember_0 : decode cX10_remember 0 = .ok (.aload_n 0, 1) := by decide +kernel
theorem dX10_remember_1 : decode cX10_remember 1 = .ok (.getfield 113, 3) := by decide +kernel
theorem dX10_remember_4 : decode cX10_remember 4 = .ok (.bipush 16, 2) := by decide +kernel
theorem dX10_remember_6 : decode cX10_remember 6 = .ok (.if_icmp .ne 47, 3) := by decide +kernel
theorem dX10_remember_9 : decode cX10_remember 9 = .ok (.aload_n 0, 1) := by decide +kernel
theorem dX10_remember_10 : decode cX10_remember 10 = .ok (.dup, 1) := by decide +kernel
theorem dX10_remember_11 : decode cX10_remember 11 = .ok (.getfield 113, 3) := by decide +kernel
theorem dX10_remember_14 : decode cX10_remember 14 = .ok (.iconst 1, 1) := by decide +kernel
theorem dX10_remember_15 : decode cX10_remember 15 = .ok (.isub, 1) := by decide +kernel
theorem dX10_remember_16 : decode cX10_remember 16 = .ok (.putfield 113, 3) := by decide +kernel
theorem dX10_remember_19 : decode cX10_remember 19 = .ok (.iconst 0, 1) := by decide +kernel
theorem dX10_remember_20 : decode cX10_remember 20 = .ok (.istore_n 1, 1) := by decide +kernel
theorem dX10_remember_21 : decode cX10_remember 21 = .ok (.iload_n 1, 1) := by decide +kernel
theorem dX10_remember_22 : decode cX10_remember 22 = .ok (.bipush 93, 2) := by decide +kernel
theorem dX10_remember_24 : decode cX10_remember 24 = .ok (.aload_n 0, 1) := by decide +kernel
theorem dX10_remember_25 : decode cX10_remember 25 = .ok (.getfield 113, 3) := by decide +kernel
theorem dX10_remember_28 : decode cX10_remember 28 = .ok (.imul, 1) := by decide +kernel
theorem dX10_remember_29 : decode cX10_remember 29 = .ok (.if_icmp .ge 24, 3) := by decide +kernel
theorem dX10_remember_32 : decode cX10_remember 32 = .ok (.aload_n 0, 1) := by decide +kernel
theorem dX10_remember_33 : decode cX10_remember 33 = .ok (.getfield 18, 3) := by decide +kernel
theorem dX10_remember_36 : decode cX10_remember 36 = .ok (.iload_n 1, 1) := by decide +kernel
theorem dX10_remember_37 : decode cX10_remember 37 = .ok (.aload_n 0, 1) := by decide +kernel
theorem dX10_remember_38 : decode cX10_remember 38 = .ok (.getfield 18, 3) := by decide +kernel
theorem dX10_remember_41 : decode cX10_remember 41 = .ok (.iload_n 1, 1) := by decide +kernel
theorem dX10_remember_42 : decode cX10_remember 42 = .ok (.bipush 93, 2) := by decide +kernel
theorem dX10_remember_44 : decode cX10_remember 44 = .ok (.iadd, 1) := by decide +kernel
theorem dX10_remember_45 : decode cX10_remember 45 = .ok (.iaload, 1) := by decide +kernel
theorem dX10_remember_46 : decode cX10_remember 46 = .ok (.iastore, 1) := by decide +kernel
theorem dX10_remember_47 : decode cX10_remember 47 = .ok (.iinc 1 1, 3) := by decide +kernel
theorem dX10_remember_50 : decode cX10_remember 50 = .ok (.goto (-29), 3) := by decide +kernel
theorem dX10_remember_53 : decode cX10_remember 53 = .ok (.iconst 0, 1) := by decide +kernel
theorem dX10_remember_54 : decode cX10_remember 54 = .ok (.istore_n 1, 1) := by decide +kernel
theorem dX10_remember_55 : decode cX10_remember 55 = .ok (.iload_n 1, 1) := by decide +kernel
theorem dX10_remember_56 : decode cX10_remember 56 = .ok (.bipush 93, 2) := by decide +kernel
theorem dX10_remember_58 : decode cX10_remember 58 = .ok (.if_icmp .ge 29, 3) := by decide +kernel
theorem dX10_remember_61 : decode cX10_remember 61 = .ok (.aload_n 0, 1) := by decide +kernel
theorem dX10_remember_62 : decode cX10_remember 62 = .ok (.getfield 18, 3) := by decide +kernel
theorem dX10_remember_65 : decode cX10_remember 65 = .ok (.bipush 93, 2) := by decide +kernel
theorem dX10_remember_67 : decode cX10_remember 67 = .ok (.aload_n 0, 1) := by decide +kernel
theorem dX10_remember_68 : decode cX10_remember 68 = .ok (.getfield 113, 3) := by decide +kernel
theorem dX10_remember_71 : decode cX10_remember 71 = .ok (.imul, 1) := by decide +kernel
theorem dX10_remember_72 : decode cX10_remember 72 = .ok (.iload_n 1, 1) := by decide +kernel
theorem dX10_remember_73 : decode cX10_remember 73 = .ok (.iadd, 1) := by decide +kernel
theorem dX10_remember_74 : decode cX10_remember 74 = .ok (.aload_n 0, 1) := by decide +kernel
theorem dX10_remember_75 : decode cX10_remember 75 = .ok (.getfield 9, 3) := by decide +kernel
theorem dX10_remember_78 : decode cX10_remember 78 = .ok (.iload_n 1, 1) := by decide +kernel
theorem dX10_remember_79 : decode cX10_remember 79 = .ok (.iaload, 1) := by decide +kernel
theorem dX10_remember_80 : decode cX10_remember 80 = .ok (.iastore, 1) := by decide +kernel
theorem dX10_remember_81 : decode cX10_remember 81 = .ok (.iinc 1 1, 3) := by decide +kernel
theorem dX10_remember_84 : decode cX10_remember 84 = .ok (.goto (-29), 3) := by decide +kernel
theorem dX10_remember_87 : decode cX10_remember 87 = .ok (.aload_n 0, 1) := by decide +kernel
theorem dX10_remember_88 : decode cX10_remember 88 = .ok (.dup, 1) := by decide +kernel
theorem dX10_remember_89 : decode cX10_remember 89 = .ok (.getfield 113, 3) := by decide +kernel
theorem dX10_remember_92 : decode cX10_remember 92 = .ok (.iconst 1, 1) := by decide +kernel
theorem dX10_remember_93 : decode cX10_remember 93 = .ok (.iadd, 1) := by decide +kernel
theorem dX10_remember_94 : decode cX10_remember 94 = .ok (.putfield 113, 3) := by decide +kernel
theorem dX10_remember_97 : decode cX10_remember 97 = .ok (.return_, 1) := by decide +kernel
theorem dX10_sign_0 : decode cX10_sign 0 = .ok (.aload_n 0, 1) := by decide +kernel
theorem dX10_sign_1 : decode cX10_sign 1 = .ok (.iconst 0, 1) := by decide +kernel
theorem dX10_sign_2 : decode cX10_sign 2 = .ok (.putfield 82, 3) := by decide +kernel
theorem dX10_sign_5 : decode cX10_sign 5 = .ok (.aload_n 0, 1) := by decide +kernel
theorem dX10_sign_6 : decode cX10_sign 6 = .ok (.getfield 116, 3) := by decide +kernel
theorem dX10_sign_9 : decode cX10_sign 9 = .ok (.iconst 4, 1) := by decide +kernel
theorem dX10_sign_10 : decode cX10_sign 10 = .ok (.iadd, 1) := by decide +kernel
theorem dX10_sign_11 : decode cX10_sign 11 = .ok (.sipush 400, 3) := by decide +kernel
theorem dX10_sign_14 : decode cX10_sign 14 = .ok (.if_icmp .le 5, 3) := by decide +kernel
theorem dX10_sign_17 : decode cX10_sign 17 = .ok (.iconst (-1), 1) := by decide +kernel
theorem dX10_sign_18 : decode cX10_sign 18 = .ok (.ireturn, 1) := by decide +kernel
theorem dX10_sign_19 : decode cX10_sign 19 = .ok (.bipush 24, 2) := by decide +kernel
theorem dX10_sign_21 : decode cX10_sign 21 = .ok (.istore_n 2, 1) := by decide +kernel
theorem dX10_sign_22 : decode cX10_sign 22 = .ok (.iload_n 2, 1) := by decide +kernel
theorem dX10_sign_23 : decode cX10_sign 23 = .ok (.ifCond .lt 32, 3) := by decide +kernel
theorem dX10_sign_26 : decode cX10_sign 26 = .ok (.aload_n 0, 1) := by decide +kernel
theorem dX10_sign_27 : decode cX10_sign 27 = .ok (.getfield 28, 3) := by decide +kernel
theorem dX10_sign_30 : decode cX10_sign 30 = .ok (.aload_n 0, 1) := by decide +kernel
theorem dX10_sign_31 : decode cX10_sign 31 = .ok (.getfield 116, 3) := by decide +kernel
theorem dX10_sign_34 : decode cX10_sign 34 = .ok (.iload_n 1, 1) := by decide +kernel
theorem dX10_sign_35 : decode cX10_sign 35 = .ok (.iload_n 2, 1) := by decide +kernel
theorem dX10_sign_36 : decode cX10_sign 36 = .ok (.iushr, 1) := by decide +kernel
theorem dX10_sign_37 : decode cX10_sign 37 = .ok (.i2b, 1) := by decide +kernel
theorem dX10_sign_38 : decode cX10_sign 38 = .ok (.bastore, 1) := by decide +kernel
theorem dX10_sign_39 : decode cX10_sign 39 = .ok (.aload_n 0, 1) := by decide +kernel
theorem dX10_sign_40 : decode cX10_sign 40 = .ok (.dup, 1) := by decide +kernel
theorem dX10_sign_41 : decode cX10_sign 41 = .ok (.getfield 116, 3) := by decide +kernel
theorem dX10_sign_44 : decode cX10_sign 44 = .ok (.iconst 1, 1) := by decide +kernel
theorem dX10_sign_45 : decode cX10_sign 45 = .ok (.iadd, 1) := by decide +kernel
theorem dX10_sign_46 : decode cX10_sign 46 = .ok (.putfield 116, 3) := by decide +kernel
theorem dX10_sign_49 : decode cX10_sign 49 = .ok (.iinc 2 (-8), 3) := by decide +kernel
theorem dX10_sign_52 : decode cX10_sign 52 = .ok (.goto (-30), 3) := by decide +kernel
theorem dX10_sign_55 : decode cX10_sign 55 = .ok (.aload_n 0, 1) := by decide +kernel
theorem dX10_sign_56 : decode cX10_sign 56 = .ok (.getfield 116, 3) := by decide +kernel
theorem dX10_sign_59 : decode cX10_sign 59 = .ok (.ireturn, 1) := by decide +kernel
set_option maxRecDepth 20000 in
theorem ggX10_end_X10_isIn : GoodIn wsX10_end wsX10_isIn := goodIn_r _ [6] (by decide +kernel) (by decide +kernel)
set_option maxRecDepth 20000 in
theorem gX10_end_X10_isIn : GoodIn wsX10_end (va_wsS RX10 87 yX10_isIn wsX10_isIn) := goodIn_app (goodIn_of _ (by decide +kernel)) ggX10_end_X10_isIn
theorem dX10_end_0 : decode cX10_end 0 = .ok (.aload_n 0, 1) := by decide +kernel
theorem dX10_end_1 : decode cX10_end 1 = .ok (.iconst 0, 1) := by decide +kernel
theorem dX10_end_2 : decode cX10_end 2 = .ok (.putfield 82, 3) := by decide +kernel
theorem dX10_end_5 : decode cX10_end 5 = .ok (.iload_n 1, 1) := by decide +kernel
theorem dX10_end_6 : decode cX10_end 6 = .ok (.i2l, 1) := by decide +kernel
theorem dX10_end_7 : decode cX10_end 7 = .ok (.lconst 0, 1) := by decide +kernel
theorem dX10_end_8 : decode cX10_end 8 = .ok (.aload_n 0, 1) := by decide +kernel
theorem dX10_end_9 : decode cX10_end 9 = .ok (.getfield 116, 3) := by decide +kernel
theorem dX10_end_12 : decode cX10_end 12 = .ok (.i2l, 1) := by decide +kernel
theorem dX10_end_13 : decode cX10_end 13 = .ok (.invokestatic 87, 3) := by decide +kernel
theorem dX10_end_16 : decode cX10_end 16 = .ok (.ifCond .ne 5, 3) := by decide +kernel
theorem dX10_end_19 : decode cX10_end 19 = .ok (.iconst 0, 1) := by decide +kernel
theorem dX10_end_20 : decode cX10_end 20 = .ok (.ireturn, 1) := by decide +kernel
theorem dX10_end_21 : decode cX10_end 21 = .ok (.aload_n 0, 1) := by decide +kernel
theorem dX10_end_22 : decode cX10_end 22 = .ok (.iload_n 1, 1) := by decide +kernel
theorem dX10_end_23 : decode cX10_end 23 = .ok (.putfield 116, 3) := by decide +kernel
theorem dX10_end_26 : decode cX10_end 26 = .ok (.iconst 1, 1) := by decide +kernel
theorem dX10_end_27 : decode cX10_end 27 = .ok (.ireturn, 1) := by decide +kernel
theorem dX10_fault_0 : decode cX10_fault 0 = .ok (.aload_n 0, 1) := by decide +kernel
theorem dX10_fault_1 : decode cX10_fault 1 = .ok (.iconst 0, 1) := by decide +kernel
theorem dX10_fault_2 : decode cX10_fault 2 = .ok (.putfield 82, 3) := by decide +kernel
theorem dX10_fault_5 : decode cX10_fault 5 = .ok (.iload_n 1, 1) := by decide +kernel
theorem dX10_fault_6 : decode cX10_fault 6 = .ok (.ifCond .ne 10, 3) := by decide +kernel
theorem dX10_fault_9 : decode cX10_fault 9 = .ok (.aload_n 0, 1) := by decide +kernel
theorem dX10_fault_10 : decode cX10_fault 10 = .ok (.getfield 119, 3) := by decide +kernel
theorem dX10_fault_13 : decode cX10_fault 13 = .ok (.goto 16, 3) := by decide +kernel
theorem dX10_fault_16 : decode cX10_fault 16 = .ok (.iload_n 1, 1) := by decide +kernel
theorem dX10_fault_17 : decode cX10_fault 17 = .ok (.iconst 1, 1) := by decide +kernel
theorem dX10_fault_18 : decode cX10_fault 18 = .ok (.if_icmp .ne 10, 3) := by decide +kernel
theorem dX10_fault_21 : decode cX10_fault 21 = .ok (.aload_n 0, 1) := by decide +kernel
theorem dX10_fault_22 : decode cX10_fault 22 = .ok (.getfield 32, 3) := by decide +kernel
theorem dX10_fault_25 : decode cX10_fault 25 = .ok (.goto 4, 3) := by decide +kernel
theorem dX10_fault_28 : decode cX10_fault 28 = .ok (.iconst (-1), 1) := by decide +kernel
theorem dX10_fault_29 : decode cX10_fault 29 = .ok (.ireturn, 1) := by decide +kernel
theorem dX10_wrong_0 : decode cX10_wrong 0 = .ok (.aload_n 0, 1) := by decide +kernel
theorem dX10_wrong_1 : decode cX10_wrong 1 = .ok (.getfield 122, 3) := by decide +kernel
theorem dX10_wrong_4 : decode cX10_wrong 4 = .ok (.ifCond .eq 18, 3) := by decide +kernel
theorem dX10_wrong_7 : decode cX10_wrong 7 = .ok (.aload_n 0, 1) := by decide +kernel
theorem dX10_wrong_8 : decode cX10_wrong 8 = .ok (.iload_n 1, 1) := by decide +kernel
theorem dX10_wrong_9 : decode cX10_wrong 9 = .ok (.putfield 119, 3) := by decide +kernel
theorem dX10_wrong_12 : decode cX10_wrong 12 = .ok (.aload_n 0, 1) := by decide +kernel
theorem dX10_wrong_13 : decode cX10_wrong 13 = .ok (.iload_n 2, 1) := by decide +kernel
theorem dX10_wrong_14 : decode cX10_wrong 14 = .ok (.putfield 32, 3) := by decide +kernel
theorem dX10_wrong_17 : decode cX10_wrong 17 = .ok (.aload_n 0, 1) := by decide +kernel
theorem dX10_wrong_18 : decode cX10_wrong 18 = .ok (.iconst 0, 1) := by decide +kernel
theorem dX10_wrong_19 : decode cX10_wrong 19 = .ok (.putfield 122, 3) := by decide +kernel
theorem dX10_wrong_22 : decode cX10_wrong 22 = .ok (.return_, 1) := by decide +kernel
theorem dX10_next_0 : decode cX10_next 0 = .ok (.aload_n 0, 1) := by decide +kernel
theorem dX10_next_1 : decode cX10_next 1 = .ok (.getfield 126, 3) := by decide +kernel
theorem dX10_next_4 : decode cX10_next 4 = .ok (.aload_n 0, 1) := by decide +kernel
theorem dX10_next_5 : decode cX10_next 5 = .ok (.getfield 116, 3) := by decide +kernel
theorem dX10_next_8 : decode cX10_next 8 = .ok (.if_icmp .ge 44, 3) := by decide +kernel
theorem dX10_next_11 : decode cX10_next 11 = .ok (.aload_n 0, 1) := by decide +kernel
theorem dX10_next_12 : decode cX10_next 12 = .ok (.getfield 28, 3) := by decide +kernel
theorem dX10_next_15 : decode cX10_next 15 = .ok (.aload_n 0, 1) := by decide +kernel
theorem dX10_next_16 : decode cX10_next 16 = .ok (.getfield 126, 3) := by decide +kernel
theorem dX10_next_19 : decode cX10_next 19 = .ok (.baload, 1) := by decide +kernel
theorem dX10_next_20 : decode cX10_next 20 = .ok (.bipush 32, 2) := by decide +kernel
theorem dX10_next_22 : decode cX10_next 22 = .ok (.if_icmp .eq 17, 3) := by decide +kernel
theorem dX10_next_25 : decode cX10_next 25 = .ok (.aload_n 0, 1) := by decide +kernel
theorem dX10_next_26 : decode cX10_next 26 = .ok (.getfield 28, 3) := by decide +kernel
theorem dX10_next_29 : decode cX10_next 29 = .ok (.aload_n 0, 1) := by decide +kernel
theorem dX10_next_30 : decode cX10_next 30 = .ok (.getfield 126, 3) := by decide +kernel
theorem dX10_next_33 : decode cX10_next 33 = .ok (.baload, 1) := by decide +kernel
theorem dX10_next_34 : decode cX10_next 34 = .ok (.bipush 10, 2) := by decide +kernel
theorem dX10_next_36 : decode cX10_next 36 = .ok (.if_icmp .ne 16, 3) := by decide +kernel
theorem dX10_next_39 : decode cX10_next 39 = .ok (.aload_n 0, 1) := by decide +kernel
theorem dX10_next_40 : decode cX10_next 40 = .ok (.dup, 1) := by decide +kernel
theorem dX10_next_41 : decode cX10_next 41 = .ok (.getfield 126, 3) := by decide +kernel
theorem dX10_next_44 : decode cX10_next 44 = .ok (.iconst 1, 1) := by decide +kernel
theorem dX10_next_45 : decode cX10_next 45 = .ok (.iadd, 1) := by decide +kernel
theorem dX10_next_46 : decode cX10_next 46 = .ok (.putfield 126, 3) := by decide +kernel
theorem dX10_next_49 : decode cX10_next 49 = .ok (.goto (-49), 3) := by decide +kernel
theorem dX10_next_52 : decode cX10_next 52 = .ok (.aload_n 0, 1) := by decide +kernel
theorem dX10_next_53 : decode cX10_next 53 = .ok (.getfield 126, 3) := by decide +kernel
theorem dX10_next_56 : decode cX10_next 56 = .ok (.aload_n 0, 1) := by decide +kernel
theorem dX10_next_57 : decode cX10_next 57 = .ok (.getfield 116, 3) := by decide +kernel
theorem dX10_next_60 : decode cX10_next 60 = .ok (.if_icmp .ge 15, 3) := by decide +kernel
theorem dX10_next_63 : decode cX10_next 63 = .ok (.aload_n 0, 1) := by decide +kernel
theorem dX10_next_64 : decode cX10_next 64 = .ok (.getfield 28, 3) := by decide +kernel
theorem dX10_next_67 : decode cX10_next 67 = .ok (.aload_n 0, 1) := by decide +kernel
theorem dX10_next_68 : decode cX10_next 68 = .ok (.getfield 126, 3) := by decide +kernel
theorem dX10_next_71 : decode cX10_next 71 = .ok (.baload, 1) := by decide +kernel
theorem dX10_next_72 : decode cX10_next 72 = .ok (.goto 4, 3) := by decide +kernel
theorem dX10_next_75 : decode cX10_next 75 = .ok (.iconst 0, 1) := by decide +kernel
theorem dX10_next_76 : decode cX10_next 76 = .ok (.ireturn, 1) := by decide +kernel
set_option maxRecDepth 20000 in
theorem ggX10_isWord_X10_next : GoodIn wsX10_isWord wsX10_next := goodIn_r _ [11, 1, 2, 3, 64, 65, 66, 67, 68, 69, 70, 71, 72, 73, 74, 75, 76, 77, 78, 79, 80, 81, 82, 83, 84, 85, 86, 87, 88, 89, 90, 91, 92, 93] (by decide +kernel) (by decide +kernel)
set_option maxRecDepth 20000 in
theorem gX10_isWord_X10_next : GoodIn wsX10_isWord (wsV RX10 129 RX10 yX10_next wsX10_next) := goodIn_app (goodIn_of _ (by decide +kernel)) ggX10_isWord_X10_next
set_option maxRecDepth 20000 in
theorem ggX10_isWord_X10_isIn : GoodIn wsX10_isWord wsX10_isIn := goodIn_r _ [14] (by decide +kernel) (by decide +kernel)
set_option maxRecDepth 20000 in
theorem gX10_isWord_X10_isIn : GoodIn wsX10_isWord (va_wsS RX10 87 yX10_isIn wsX10_isIn) := goodIn_app (goodIn_of _ (by decide +kernel)) ggX10_isWord_X10_isIn
set_option maxRecDepth 20000 in
theorem ggX10_isWord_J0_length_8abf5 : GoodIn wsX10_isWord wsJ0_length_8abf5 := goodIn_r _ [19, 20, 21, 22, 23, 18, 24, 25, 26] (by decide +kernel) (by decide +kernel)
set_option maxRecDepth 20000 in
theorem gX10_isWord_J0_length_8abf5 : GoodIn wsX10_isWord (wsV RX10 137 RJ0 yJ0_length_8abf5 wsJ0_length_8abf5) := goodIn_app (goodIn_of _ (by decide +kernel)) ggX10_isWord_J0_length_8abf5
set_option maxRecDepth 20000 in
theorem ggX10_isWord_J0_charAt_5068e : GoodIn wsX10_isWord wsJ0_charAt_5068e := goodIn_r _ [30, 20, 31, 32, 33, 18, 34, 25, 26, 35, 36, 37, 38, 39, 40, 41, 42, 43, 44, 45, 46, 47, 48, 49, 50, 51, 52, 53, 54, 55, 56, 57, 58, 59, 60, 61, 62, 63] (by decide +kernel) (by decide +kernel)
set_option maxRecDepth 20000 in
theorem gX10_isWord_J0_charAt_5068e : GoodIn wsX10_isWord (wsV RX10 142 RJ0 yJ0_charAt_5068e wsJ0_charAt_5068e) := goodIn_app (goodIn_of _ (by decide +kernel)) ggX10_isWord_J0_charAt_5068e
theorem dX10_isWord_0 : decode cX10_isWord 0 = .ok (.aload_n 0, 1) := by decide +kernel
theorem dX10_isWord_1 : decode cX10_isWord 1 = .ok (.invokevirtual 129, 3) := by decide +kernel
theorem dX10_isWord_4 : decode cX10_isWord 4 = .ok (.pop, 1) := by decide +kernel
theorem dX10_isWord_5 : decode cX10_isWord 5 = .ok (.iconst 0, 1) := by decide +kernel
theorem dX10_isWord_6 : decode cX10_isWord 6 = .ok (.istore_n 2, 1) := by decide +kernel
theorem dX10_isWord_7 : decode cX10_isWord 7 = .ok (.aload_n 0, 1) := by decide +kernel
theorem dX10_isWord_8 : decode cX10_isWord 8 = .ok (.getfield 126, 3) := by decide +kernel
theorem dX10_isWord_11 : decode cX10_isWord 11 = .ok (.iload_n 2, 1) := by decide +kernel
theorem dX10_isWord_12 : decode cX10_isWord 12 = .ok (.iadd, 1) := by decide +kernel
theorem dX10_isWord_13 : decode cX10_isWord 13 = .ok (.aload_n 0, 1) := by decide +kernel
theorem dX10_isWord_14 : decode cX10_isWord 14 = .ok (.getfield 116, 3) := by decide +kernel
theorem dX10_isWord_17 : decode cX10_isWord 17 = .ok (.if_icmp .ge 33, 3) := by decide +kernel
theorem dX10_isWord_20 : decode cX10_isWord 20 = .ok (.aload_n 0, 1) := by decide +kernel
theorem dX10_isWord_21 : decode cX10_isWord 21 = .ok (.getfield 28, 3) := by decide +kernel
theorem dX10_isWord_24 : decode cX10_isWord 24 = .ok (.aload_n 0, 1) := by decide +kernel
theorem dX10_isWord_25 : decode cX10_isWord 25 = .ok (.getfield 126, 3) := by decide +kernel
theorem dX10_isWord_28 : decode cX10_isWord 28 = .ok (.iload_n 2, 1) := by decide +kernel
theorem dX10_isWord_29 : decode cX10_isWord 29 = .ok (.iadd, 1) := by decide +kernel
theorem dX10_isWord_30 : decode cX10_isWord 30 = .ok (.baload, 1) := by decide +kernel
theorem dX10_isWord_31 : decode cX10_isWord 31 = .ok (.i2l, 1) := by decide +kernel
theorem dX10_isWord_32 : decode cX10_isWord 32 = .ok (.ldc2_w 133, 3) := by decide +kernel
theorem dX10_isWord_35 : decode cX10_isWord 35 = .ok (.ldc2_w 135, 3) := by decide +kernel
theorem dX10_isWord_38 : decode cX10_isWord 38 = .ok (.invokestatic 87, 3) := by decide +kernel
theorem dX10_isWord_41 : decode cX10_isWord 41 = .ok (.ifCond .eq 9, 3) := by decide +kernel
theorem dX10_isWord_44 : decode cX10_isWord 44 = .ok (.iinc 2 1, 3) := by decide +kernel
theorem dX10_isWord_47 : decode cX10_isWord 47 = .ok (.goto (-40), 3) := by decide +kernel
theorem dX10_isWord_50 : decode cX10_isWord 50 = .ok (.aload_n 0, 1) := by decide +kernel
theorem dX10_isWord_51 : decode cX10_isWord 51 = .ok (.getfield 122, 3) := by decide +kernel
theorem dX10_isWord_54 : decode cX10_isWord 54 = .ok (.ifCond .eq 15, 3) := by decide +kernel
theorem dX10_isWord_57 : decode cX10_isWord 57 = .ok (.iload_n 2, 1) := by decide +kernel
theorem dX10_isWord_58 : decode cX10_isWord 58 = .ok (.aload_n 1, 1) := by decide +kernel
theorem dX10_isWord_59 : decode cX10_isWord 59 = .ok (.invokevirtual 137, 3) := by decide +kernel
theorem dX10_isWord_62 : decode cX10_isWord 62 = .ok (.if_icmp .ne 7, 3) := by decide +kernel
theorem dX10_isWord_65 : decode cX10_isWord 65 = .ok (.iconst 1, 1) := by decide +kernel
theorem dX10_isWord_66 : decode cX10_isWord 66 = .ok (.goto 4, 3) := by decide +kernel
theorem dX10_isWord_69 : decode cX10_isWord 69 = .ok (.iconst 0, 1) := by decide +kernel
theorem dX10_isWord_70 : decode cX10_isWord 70 = .ok (.istore_n 3, 1) := by decide +kernel
theorem dX10_isWord_71 : decode cX10_isWord 71 = .ok (.iconst 0, 1) := by decide +kernel
theorem dX10_isWord_72 : decode cX10_isWord 72 = .ok (.istore 4, 2) := by decide +kernel
theorem dX10_isWord_74 : decode cX10_isWord 74 = .ok (.iload 4, 2) := by decide +kernel
theorem dX10_isWord_76 : decode cX10_isWord 76 = .ok (.aload_n 1, 1) := by decide +kernel
theorem dX10_isWord_77 : decode cX10_isWord 77 = .ok (.invokevirtual 137, 3) := by decide +kernel
theorem dX10_isWord_80 : decode cX10_isWord 80 = .ok (.if_icmp .ge 40, 3) := by decide +kernel
theorem dX10_isWord_83 : decode cX10_isWord 83 = .ok (.iload_n 3, 1) := by decide +kernel
theorem dX10_isWord_84 : decode cX10_isWord 84 = .ok (.ifCond .eq 36, 3) := by decide +kernel
theorem dX10_isWord_87 : decode cX10_isWord 87 = .ok (.aload_n 0, 1) := by decide +kernel
theorem dX10_isWord_88 : decode cX10_isWord 88 = .ok (.getfield 28, 3) := by decide +kernel
theorem dX10_isWord_91 : decode cX10_isWord 91 = .ok (.aload_n 0, 1) := by decide +kernel
theorem dX10_isWord_92 : decode cX10_isWord 92 = .ok (.getfield 126, 3) := by decide +kernel
theorem dX10_isWord_95 : decode cX10_isWord 95 = .ok (.iload 4, 2) := by decide +kernel
theorem dX10_isWord_97 : decode cX10_isWord 97 = .ok (.iadd, 1) := by decide +kernel
theorem dX10_isWord_98 : decode cX10_isWord 98 = .ok (.baload, 1) := by decide +kernel
theorem dX10_isWord_99 : decode cX10_isWord 99 = .ok (.aload_n 1, 1) := by decide +kernel
theorem dX10_isWord_100 : decode cX10_isWord 100 = .ok (.iload 4, 2) := by decide +kernel
theorem dX10_isWord_102 : decode cX10_isWord 102 = .ok (.invokevirtual 142, 3) := by decide +kernel
theorem dX10_isWord_105 : decode cX10_isWord 105 = .ok (.if_icmp .ne 7, 3) := by decide +kernel
theorem dX10_isWord_108 : decode cX10_isWord 108 = .ok (.iconst 1, 1) := by decide +kernel
theorem dX10_isWord_109 : decode cX10_isWord 109 = .ok (.goto 4, 3) := by decide +kernel
theorem dX10_isWord_112 : decode cX10_isWord 112 = .ok (.iconst 0, 1) := by decide +kernel
theorem dX10_isWord_113 : decode cX10_isWord 113 = .ok (.istore_n 3, 1) := by decide +kernel
theorem dX10_isWord_114 : decode cX10_isWord 114 = .ok (.iinc 4 1, 3) := by decide +kernel
theorem dX10_isWord_117 : decode cX10_isWord 117 = .ok (.goto (-43), 3) := by decide +kernel
theorem dX10_isWord_120 : decode cX10_isWord 120 = .ok (.iload_n 3, 1) := by decide +kernel
theorem dX10_isWord_121 : decode cX10_isWord 121 = .ok (.ireturn, 1) := by decide +kernel
set_option maxRecDepth 20000 in
theorem ggX10_takes_X10_next : GoodIn wsX10_takes wsX10_next := goodIn_r _ [8, 2, 3, 9, 10, 11, 12, 13, 14, 15, 16, 17, 18, 19, 20, 21, 22, 23, 24, 25, 26, 27, 28, 29, 30, 31, 32, 33, 34, 35, 36, 37, 38, 39] (by decide +kernel) (by decide +kernel)
set_option maxRecDepth 20000 in
theorem gX10_takes_X10_next : GoodIn wsX10_takes (wsV RX10 129 RX10 yX10_next wsX10_next) := goodIn_app (goodIn_of _ (by decide +kernel)) ggX10_takes_X10_next
theorem dX10_takes_0 : decode cX10_takes 0 = .ok (.aload_n 0, 1) := by decide +kernel
theorem dX10_takes_1 : decode cX10_takes 1 = .ok (.getfield 122, 3) := by decide +kernel
theorem dX10_takes_4 : decode cX10_takes 4 = .ok (.ifCond .eq 26, 3) := by decide +kernel
theorem dX10_takes_7 : decode cX10_takes 7 = .ok (.aload_n 0, 1) := by decide +kernel
theorem dX10_takes_8 : decode cX10_takes 8 = .ok (.invokevirtual 129, 3) := by decide +kernel
theorem dX10_takes_11 : decode cX10_takes 11 = .ok (.iload_n 1, 1) := by decide +kernel
theorem dX10_takes_12 : decode cX10_takes 12 = .ok (.if_icmp .ne 18, 3) := by decide +kernel
theorem dX10_takes_15 : decode cX10_takes 15 = .ok (.aload_n 0, 1) := by decide +kernel
theorem dX10_takes_16 : decode cX10_takes 16 = .ok (.getfield 126, 3) := by decide +kernel
theorem dX10_takes_19 : decode cX10_takes 19 = .ok (.aload_n 0, 1) := by decide +kernel
theorem dX10_takes_20 : decode cX10_takes 20 = .ok (.getfield 116, 3) := by decide +kernel
theorem dX10_takes_23 : decode cX10_takes 23 = .ok (.if_icmp .ge 7, 3) := by decide +kernel
theorem dX10_takes_26 : decode cX10_takes 26 = .ok (.iconst 1, 1) := by decide +kernel
theorem dX10_takes_27 : decode cX10_takes 27 = .ok (.goto 4, 3) := by decide +kernel
theorem dX10_takes_30 : decode cX10_takes 30 = .ok (.iconst 0, 1) := by decide +kernel
theorem dX10_takes_31 : decode cX10_takes 31 = .ok (.istore_n 2, 1) := by decide +kernel
theorem dX10_takes_32 : decode cX10_takes 32 = .ok (.aload_n 0, 1) := by decide +kernel
theorem dX10_takes_33 : decode cX10_takes 33 = .ok (.dup, 1) := by decide +kernel
theorem dX10_takes_34 : decode cX10_takes 34 = .ok (.getfield 126, 3) := by decide +kernel
theorem dX10_takes_37 : decode cX10_takes 37 = .ok (.iload_n 2, 1) := by decide +kernel
theorem dX10_takes_38 : decode cX10_takes 38 = .ok (.ifCond .eq 7, 3) := by decide +kernel
theorem dX10_takes_41 : decode cX10_takes 41 = .ok (.iconst 1, 1) := by decide +kernel
theorem dX10_takes_42 : decode cX10_takes 42 = .ok (.goto 4, 3) := by decide +kernel
theorem dX10_takes_45 : decode cX10_takes 45 = .ok (.iconst 0, 1) := by decide +kernel
theorem dX10_takes_46 : decode cX10_takes 46 = .ok (.iadd, 1) := by decide +kernel
theorem dX10_takes_47 : decode cX10_takes 47 = .ok (.putfield 126, 3) := by decide +kernel
theorem dX10_takes_50 : decode cX10_takes 50 = .ok (.iload_n 2, 1) := by decide +kernel
theorem dX10_takes_51 : decode cX10_takes 51 = .ok (.ireturn, 1) := by decide +kernel
set_option maxRecDepth 20000 in
theorem ggX10_isNumber_X10_next : GoodIn wsX10_isNumber wsX10_next := goodIn_r _ [8, 9, 10, 11, 15, 16, 17, 18, 19, 20, 21, 22, 23, 24, 25, 26, 27, 28, 29, 30, 31, 32, 33, 34, 35, 36, 37, 38, 39, 40, 41, 42, 43, 44] (by decide +kernel) (by decide +kernel)
set_option maxRecDepth 20000 in
theorem gX10_isNumber_X10_next : GoodIn wsX10_isNumber (wsV RX10 129 RX10 yX10_next wsX10_next) := goodIn_app (goodIn_of _ (by decide +kernel)) ggX10_isNumber_X10_next
set_option maxRecDepth 20000 in
theorem ggX10_isNumber_X10_isIn : GoodIn wsX10_isNumber wsX10_isIn := goodIn_r _ [14] (by decide +kernel) (by decide +kernel)
set_option maxRecDepth 20000 in
theorem gX10_isNumber_X10_isIn : GoodIn wsX10_isNumber (va_wsS RX10 87 yX10_isIn wsX10_isIn) := goodIn_app (goodIn_of _ (by decide +kernel)) ggX10_isNumber_X10_isIn
theorem dX10_isNumber_0 : decode cX10_isNumber 0 = .ok (.aload_n 0, 1) := by decide +kernel
theorem dX10_isNumber_1 : decode cX10_isNumber 1 = .ok (.getfield 122, 3) := by decide +kernel
theorem dX10_isNumber_4 : decode cX10_isNumber 4 = .ok (.ifCond .eq 24, 3) := by decide +kernel
theorem dX10_isNumber_7 : decode cX10_isNumber 7 = .ok (.aload_n 0, 1) := by decide +kernel
theorem dX10_isNumber_8 : decode cX10_isNumber 8 = .ok (.invokevirtual 129, 3) := by decide +kernel
theorem dX10_isNumber_11 : decode cX10_isNumber 11 = .ok (.i2l, 1) := by decide +kernel
theorem dX10_isNumber_12 : decode cX10_isNumber 12 = .ok (.ldc2_w 150, 3) := by decide +kernel
theorem dX10_isNumber_15 : decode cX10_isNumber 15 = .ok (.ldc2_w 152, 3) := by decide +kernel
theorem dX10_isNumber_18 : decode cX10_isNumber 18 = .ok (.invokestatic 87, 3) := by decide +kernel
theorem dX10_isNumber_21 : decode cX10_isNumber 21 = .ok (.ifCond .eq 7, 3) := by decide +kernel
theorem dX10_isNumber_24 : decode cX10_isNumber 24 = .ok (.iconst 1, 1) := by decide +kernel
theorem dX10_isNumber_25 : decode cX10_isNumber 25 = .ok (.goto 4, 3) := by decide +kernel
theorem dX10_isNumber_28 : decode cX10_isNumber 28 = .ok (.iconst 0, 1) := by decide +kernel
theorem dX10_isNumber_29 : decode cX10_isNumber 29 = .ok (.ireturn, 1) := by decide +kernel
set_option maxRecDepth 20000 in
theorem ggX10_number_X10_next : GoodIn wsX10_number wsX10_next := goodIn_r _ [11, 1, 2, 3, 21, 22, 23, 24, 25, 26, 27, 28, 29, 30, 31, 32, 33, 34, 35, 36, 37, 38, 39, 40, 41, 42, 43, 44, 45, 46, 47, 48, 49, 50] (by decide +kernel) (by decide +kernel)
set_option maxRecDepth 20000 in
theorem gX10_number_X10_next : GoodIn wsX10_number (wsV RX10 129 RX10 yX10_next wsX10_next) := goodIn_app (goodIn_of _ (by decide +kernel)) ggX10_number_X10_next
set_option maxRecDepth 20000 in
theorem ggX10_number_X10_isIn : GoodIn wsX10_number wsX10_isIn := goodIn_r _ [14] (by decide +kernel) (by decide +kernel)
set_option maxRecDepth 20000 in
theorem gX10_number_X10_isIn : GoodIn wsX10_number (va_wsS RX10 87 yX10_isIn wsX10_isIn) := goodIn_app (goodIn_of _ (by decide +kernel)) ggX10_number_X10_isIn
set_option maxRecDepth 20000 in
theorem ggX10_number_X10_wrong : GoodIn wsX10_number wsX10_wrong := goodIn_r _ [18, 6, 19, 20, 21, 22, 23, 24, 25, 26, 27, 28, 29, 30, 31, 32, 33, 34, 35, 36, 37, 38, 39, 40, 41, 42, 43, 44, 45, 46, 47, 48, 49, 50] (by decide +kernel) (by decide +kernel)
set_option maxRecDepth 20000 in
theorem gX10_number_X10_wrong : GoodIn wsX10_number (wsV RX10 154 RX10 yX10_wrong wsX10_wrong) := goodIn_app (goodIn_of _ (by decide +kernel)) ggX10_number_X10_wrong
theorem dX10_number_0 : decode cX10_number 0 = .ok (.aload_n 0, 1) := by decide +kernel
theorem dX10_number_1 : decode cX10_number 1 = .ok (.invokevirtual 129, 3) := by decide +kernel
theorem dX10_number_4 : decode cX10_number 4 = .ok (.pop, 1) := by decide +kernel
theorem dX10_number_5 : decode cX10_number 5 = .ok (.aload_n 0, 1) := by decide +kernel
theorem dX10_number_6 : decode cX10_number 6 = .ok (.getfield 126, 3) := by decide +kernel
theorem dX10_number_9 : decode cX10_number 9 = .ok (.istore_n 3, 1) := by decide +kernel
theorem dX10_number_10 : decode cX10_number 10 = .ok (.iconst 0, 1) := by decide +kernel
theorem dX10_number_11 : decode cX10_number 11 = .ok (.istore 4, 2) := by decide +kernel
theorem dX10_number_13 : decode cX10_number 13 = .ok (.aload_n 0, 1) := by decide +kernel
theorem dX10_number_14 : decode cX10_number 14 = .ok (.getfield 126, 3) := by decide +kernel
theorem dX10_number_17 : decode cX10_number 17 = .ok (.aload_n 0, 1) := by decide +kernel
theorem dX10_number_18 : decode cX10_number 18 = .ok (.getfield 116, 3) := by decide +kernel
theorem dX10_number_21 : decode cX10_number 21 = .ok (.if_icmp .ge 73, 3) := by decide +kernel
theorem dX10_number_24 : decode cX10_number 24 = .ok (.aload_n 0, 1) := by decide +kernel
theorem dX10_number_25 : decode cX10_number 25 = .ok (.getfield 28, 3) := by decide +kernel
theorem dX10_number_28 : decode cX10_number 28 = .ok (.aload_n 0, 1) := by decide +kernel
theorem dX10_number_29 : decode cX10_number 29 = .ok (.getfield 126, 3) := by decide +kernel
theorem dX10_number_32 : decode cX10_number 32 = .ok (.baload, 1) := by decide +kernel
theorem dX10_number_33 : decode cX10_number 33 = .ok (.i2l, 1) := by decide +kernel
theorem dX10_number_34 : decode cX10_number 34 = .ok (.ldc2_w 150, 3) := by decide +kernel
theorem dX10_number_37 : decode cX10_number 37 = .ok (.ldc2_w 152, 3) := by decide +kernel
theorem dX10_number_40 : decode cX10_number 40 = .ok (.invokestatic 87, 3) := by decide +kernel
theorem dX10_number_43 : decode cX10_number 43 = .ok (.ifCond .eq 51, 3) := by decide +kernel
theorem dX10_number_46 : decode cX10_number 46 = .ok (.aload_n 0, 1) := by decide +kernel
theorem dX10_number_47 : decode cX10_number 47 = .ok (.getfield 126, 3) := by decide +kernel
theorem dX10_number_50 : decode cX10_number 50 = .ok (.iload_n 3, 1) := by decide +kernel
theorem dX10_number_51 : decode cX10_number 51 = .ok (.isub, 1) := by decide +kernel
theorem dX10_number_52 : decode cX10_number 52 = .ok (.iconst 3, 1) := by decide +kernel
theorem dX10_number_53 : decode cX10_number 53 = .ok (.if_icmp .ge 24, 3) := by decide +kernel
theorem dX10_number_56 : decode cX10_number 56 = .ok (.bipush 10, 2) := by decide +kernel
theorem dX10_number_58 : decode cX10_number 58 = .ok (.iload 4, 2) := by decide +kernel
theorem dX10_number_60 : decode cX10_number 60 = .ok (.imul, 1) := by decide +kernel
theorem dX10_number_61 : decode cX10_number 61 = .ok (.aload_n 0, 1) := by decide +kernel
theorem dX10_number_62 : decode cX10_number 62 = .ok (.getfield 28, 3) := by decide +kernel
theorem dX10_number_65 : decode cX10_number 65 = .ok (.aload_n 0, 1) := by decide +kernel
theorem dX10_number_66 : decode cX10_number 66 = .ok (.getfield 126, 3) := by decide +kernel
theorem dX10_number_69 : decode cX10_number 69 = .ok (.baload, 1) := by decide +kernel
theorem dX10_number_70 : decode cX10_number 70 = .ok (.iadd, 1) := by decide +kernel
theorem dX10_number_71 : decode cX10_number 71 = .ok (.bipush 48, 2) := by decide +kernel
theorem dX10_number_73 : decode cX10_number 73 = .ok (.isub, 1) := by decide +kernel
theorem dX10_number_74 : decode cX10_number 74 = .ok (.goto 5, 3) := by decide +kernel
theorem dX10_number_77 : decode cX10_number 77 = .ok (.iload 4, 2) := by decide +kernel
theorem dX10_number_79 : decode cX10_number 79 = .ok (.istore 4, 2) := by decide +kernel
theorem dX10_number_81 : decode cX10_number 81 = .ok (.aload_n 0, 1) := by decide +kernel
theorem dX10_number_82 : decode cX10_number 82 = .ok (.dup, 1) := by decide +kernel
theorem dX10_number_83 : decode cX10_number 83 = .ok (.getfield 126, 3) := by decide +kernel
theorem dX10_number_86 : decode cX10_number 86 = .ok (.iconst 1, 1) := by decide +kernel
theorem dX10_number_87 : decode cX10_number 87 = .ok (.iadd, 1) := by decide +kernel
theorem dX10_number_88 : decode cX10_number 88 = .ok (.putfield 126, 3) := by decide +kernel
theorem dX10_number_91 : decode cX10_number 91 = .ok (.goto (-78), 3) := by decide +kernel
theorem dX10_number_94 : decode cX10_number 94 = .ok (.aload_n 0, 1) := by decide +kernel
theorem dX10_number_95 : decode cX10_number 95 = .ok (.getfield 126, 3) := by decide +kernel
theorem dX10_number_98 : decode cX10_number 98 = .ok (.iload_n 3, 1) := by decide +kernel
theorem dX10_number_99 : decode cX10_number 99 = .ok (.if_icmp .ne 12, 3) := by decide +kernel
theorem dX10_number_102 : decode cX10_number 102 = .ok (.aload_n 0, 1) := by decide +kernel
theorem dX10_number_103 : decode cX10_number 103 = .ok (.iconst 1, 1) := by decide +kernel
theorem dX10_number_104 : decode cX10_number 104 = .ok (.iload_n 3, 1) := by decide +kernel
theorem dX10_number_105 : decode cX10_number 105 = .ok (.invokevirtual 154, 3) := by decide +kernel
theorem dX10_number_108 : decode cX10_number 108 = .ok (.goto 32, 3) := by decide +kernel
theorem dX10_number_111 : decode cX10_number 111 = .ok (.aload_n 0, 1) := by decide +kernel
theorem dX10_number_112 : decode cX10_number 112 = .ok (.getfield 126, 3) := by decide +kernel
theorem dX10_number_115 : decode cX10_number 115 = .ok (.iload_n 3, 1) := by decide +kernel
theorem dX10_number_116 : decode cX10_number 116 = .ok (.isub, 1) := by decide +kernel
theorem dX10_number_117 : decode cX10_number 117 = .ok (.iconst 2, 1) := by decide +kernel
theorem dX10_number_118 : decode cX10_number 118 = .ok (.if_icmp .gt 16, 3) := by decide +kernel
theorem dX10_number_121 : decode cX10_number 121 = .ok (.iload 4, 2) := by decide +kernel
theorem dX10_number_123 : decode cX10_number 123 = .ok (.i2l, 1) := by decide +kernel
theorem dX10_number_124 : decode cX10_number 124 = .ok (.iload_n 1, 1) := by decide +kernel
theorem dX10_number_125 : decode cX10_number 125 = .ok (.i2l, 1) := by decide +kernel
theorem dX10_number_126 : decode cX10_number 126 = .ok (.iload_n 2, 1) := by decide +kernel
theorem dX10_number_127 : decode cX10_number 127 = .ok (.i2l, 1) := by decide +kernel
theorem dX10_number_128 : decode cX10_number 128 = .ok (.invokestatic 87, 3) := by decide +kernel
theorem dX10_number_131 : decode cX10_number 131 = .ok (.ifCond .ne 9, 3) := by decide +kernel
theorem dX10_number_134 : decode cX10_number 134 = .ok (.aload_n 0, 1) := by decide +kernel
theorem dX10_number_135 : decode cX10_number 135 = .ok (.iconst 2, 1) := by decide +kernel
theorem dX10_number_136 : decode cX10_number 136 = .ok (.iload_n 3, 1) := by decide +kernel
theorem dX10_number_137 : decode cX10_number 137 = .ok (.invokevirtual 154, 3) := by decide +kernel
theorem dX10_number_140 : decode cX10_number 140 = .ok (.aload_n 0, 1) := by decide +kernel
theorem dX10_number_141 : decode cX10_number 141 = .ok (.getfield 122, 3) := by decide +kernel
theorem dX10_number_144 : decode cX10_number 144 = .ok (.ifCond .eq 8, 3) := by decide +kernel
theorem dX10_number_147 : decode cX10_number 147 = .ok (.iload 4, 2) := by decide +kernel
theorem dX10_number_149 : decode cX10_number 149 = .ok (.goto 4, 3) := by decide +kernel
theorem dX10_number_152 : decode cX10_number 152 = .ok (.iconst 0, 1) := by decide +kernel
theorem dX10_number_153 : decode cX10_number 153 = .ok (.ireturn, 1) := by decide +kernel
set_option maxRecDepth 20000 in
theorem ggX10_pointHere_X10_number : GoodIn wsX10_pointHere wsX10_number := goodIn_r _ [6, 7, 8, 9, 10, 11, 12, 13, 14, 15, 5, 16, 17, 18, 19, 20, 21, 22, 23, 24, 25, 26, 27, 28, 29, 30, 31, 32, 33, 34, 35, 36, 37, 38, 39, 40, 41, 42, 43, 44, 45, 46, 47, 48, 49, 50, 51, 52, 53, 54, 55] (by decide +kernel) (by decide +kernel)
set_option maxRecDepth 20000 in
theorem gX10_pointHere_X10_number : GoodIn wsX10_pointHere (wsV RX10 158 RX10 yX10_number wsX10_number) := goodIn_app (goodIn_of _ (by decide +kernel)) ggX10_pointHere_X10_number
theorem dX10_pointHere_0 : decode cX10_pointHere 0 = .ok (.aload_n 0, 1) := by decide +kernel
theorem dX10_pointHere_1 : decode cX10_pointHere 1 = .ok (.iconst 0, 1) := by decide +kernel
theorem dX10_pointHere_2 : decode cX10_pointHere 2 = .ok (.aload_n 0, 1) := by decide +kernel
theorem dX10_pointHere_3 : decode cX10_pointHere 3 = .ok (.getfield 15, 3) := by decide +kernel
theorem dX10_pointHere_6 : decode cX10_pointHere 6 = .ok (.iconst 0, 1) := by decide +kernel
theorem dX10_pointHere_7 : decode cX10_pointHere 7 = .ok (.iaload, 1) := by decide +kernel
theorem dX10_pointHere_8 : decode cX10_pointHere 8 = .ok (.iconst 1, 1) := by decide +kernel
theorem dX10_pointHere_9 : decode cX10_pointHere 9 = .ok (.isub, 1) := by decide +kernel
theorem dX10_pointHere_10 : decode cX10_pointHere 10 = .ok (.invokevirtual 158, 3) := by decide +kernel
theorem dX10_pointHere_13 : decode cX10_pointHere 13 = .ok (.ireturn, 1) := by decide +kernel
set_option maxRecDepth 20000 in
theorem ggX10_relates_X10_has : GoodIn wsX10_relates wsX10_has := goodIn_r _ [4] (by decide +kernel) (by decide +kernel)
set_option maxRecDepth 20000 in
theorem gX10_relates_X10_has : GoodIn wsX10_relates (va_wsS RX10 91 yX10_has wsX10_has) := goodIn_app (goodIn_of _ (by decide +kernel)) ggX10_relates_X10_has
theorem dX10_relates_0 : decode cX10_relates 0 = .ok (.iconst 0, 1) := by decide +kernel
theorem dX10_relates_1 : decode cX10_relates 1 = .ok (.istore_n 3, 1) := by decide +kernel
theorem dX10_relates_2 : decode cX10_relates 2 = .ok (.iload_n 3, 1) := by decide +kernel
theorem dX10_relates_3 : decode cX10_relates 3 = .ok (.bipush 9, 2) := by decide +kernel
theorem dX10_relates_5 : decode cX10_relates 5 = .ok (.if_icmp .ge 43, 3) := by decide +kernel
theorem dX10_relates_8 : decode cX10_relates 8 = .ok (.iload_n 3, 1) := by decide +kernel
theorem dX10_relates_9 : decode cX10_relates 9 = .ok (.iload_n 1, 1) := by decide +kernel
theorem dX10_relates_10 : decode cX10_relates 10 = .ok (.if_icmp .eq 15, 3) := by decide +kernel
theorem dX10_relates_13 : decode cX10_relates 13 = .ok (.aload_n 0, 1) := by decide +kernel
theorem dX10_relates_14 : decode cX10_relates 14 = .ok (.iconst 3, 1) := by decide +kernel
theorem dX10_relates_15 : decode cX10_relates 15 = .ok (.iload_n 3, 1) := by decide +kernel
theorem dX10_relates_16 : decode cX10_relates 16 = .ok (.iadd, 1) := by decide +kernel
theorem dX10_relates_17 : decode cX10_relates 17 = .ok (.iaload, 1) := by decide +kernel
theorem dX10_relates_18 : decode cX10_relates 18 = .ok (.iload_n 1, 1) := by decide +kernel
theorem dX10_relates_19 : decode cX10_relates 19 = .ok (.invokestatic 91, 3) := by decide +kernel
theorem dX10_relates_22 : decode cX10_relates 22 = .ok (.ifCond .eq 20, 3) := by decide +kernel
theorem dX10_relates_25 : decode cX10_relates 25 = .ok (.aload_n 0, 1) := by decide +kernel
theorem dX10_relates_26 : decode cX10_relates 26 = .ok (.iconst 3, 1) := by decide +kernel
theorem dX10_relates_27 : decode cX10_relates 27 = .ok (.iload_n 3, 1) := by decide +kernel
theorem dX10_relates_28 : decode cX10_relates 28 = .ok (.iadd, 1) := by decide +kernel
theorem dX10_relates_29 : decode cX10_relates 29 = .ok (.dup2, 1) := by decide +kernel
theorem dX10_relates_30 : decode cX10_relates 30 = .ok (.iaload, 1) := by decide +kernel
theorem dX10_relates_31 : decode cX10_relates 31 = .ok (.iconst 1, 1) := by decide +kernel
theorem dX10_relates_32 : decode cX10_relates 32 = .ok (.iload_n 2, 1) := by decide +kernel
theorem dX10_relates_33 : decode cX10_relates 33 = .ok (.ishl, 1) := by decide +kernel
theorem dX10_relates_34 : decode cX10_relates 34 = .ok (.aload_n 0, 1) := by decide +kernel
theorem dX10_relates_35 : decode cX10_relates 35 = .ok (.iconst 3, 1) := by decide +kernel
theorem dX10_relates_36 : decode cX10_relates 36 = .ok (.iload_n 2, 1) := by decide +kernel
theorem dX10_relates_37 : decode cX10_relates 37 = .ok (.iadd, 1) := by decide +kernel
theorem dX10_relates_38 : decode cX10_relates 38 = .ok (.iaload, 1) := by decide +kernel
theorem dX10_relates_39 : decode cX10_relates 39 = .ok (.ior, 1) := by decide +kernel
theorem dX10_relates_40 : decode cX10_relates 40 = .ok (.ior, 1) := by decide +kernel
theorem dX10_relates_41 : decode cX10_relates 41 = .ok (.iastore, 1) := by decide +kernel
theorem dX10_relates_42 : decode cX10_relates 42 = .ok (.iinc 3 1, 3) := by decide +kernel
theorem dX10_relates_45 : decode cX10_relates 45 = .ok (.goto (-43), 3) := by decide +kernel
theorem dX10_relates_48 : decode cX10_relates 48 = .ok (.return_, 1) := by decide +kernel
set_option maxRecDepth 20000 in
theorem ggX10_readRow_X10_pointHere : GoodIn wsX10_readRow wsX10_pointHere := goodIn_r _ [8, 3, 9, 10, 11, 7, 12, 1, 13, 14, 15, 16, 2, 17, 18, 19, 20, 21, 22, 23, 24, 25, 26, 27, 28, 29, 40, 41, 42, 43, 44, 45, 46, 47, 48, 49, 50, 51, 52, 53, 54, 55, 56, 57, 58, 59, 60, 61, 62, 63, 64, 65, 66, 67, 68, 69] (by decide +kernel) (by decide +kernel)
set_option maxRecDepth 20000 in
theorem gX10_readRow_X10_pointHere : GoodIn wsX10_readRow (wsV RX10 161 RX10 yX10_pointHere wsX10_pointHere) := goodIn_app (goodIn_of _ (by decide +kernel)) ggX10_readRow_X10_pointHere
set_option maxRecDepth 20000 in
theorem ggX10_readRow_X10_takes : GoodIn wsX10_readRow wsX10_takes := goodIn_r _ [33, 2, 1, 13, 17, 18, 19, 7, 20, 14, 40, 41, 42, 43, 44, 45, 46, 47, 48, 49, 50, 51, 52, 53, 54, 55, 56, 57, 58, 59, 60, 61, 62, 63, 64, 65, 66, 67, 68, 69] (by decide +kernel) (by decide +kernel)
set_option maxRecDepth 20000 in
theorem gX10_readRow_X10_takes : GoodIn wsX10_readRow (wsV RX10 164 RX10 yX10_takes wsX10_takes) := goodIn_app (goodIn_of _ (by decide +kernel)) ggX10_readRow_X10_takes
set_option maxRecDepth 20000 in
theorem ggX10_readRow_X10_wrong : GoodIn wsX10_readRow wsX10_wrong := goodIn_r _ [27, 2, 28, 29, 40, 41, 42, 43, 44, 45, 46, 47, 48, 49, 50, 51, 52, 53, 54, 55, 56, 57, 58, 59, 60, 61, 62, 63, 64, 65, 66, 67, 68, 69] (by decide +kernel) (by decide +kernel)
set_option maxRecDepth 20000 in
theorem gX10_readRow_X10_wrong : GoodIn wsX10_readRow (wsV RX10 154 RX10 yX10_wrong wsX10_wrong) := goodIn_app (goodIn_of _ (by decide +kernel)) ggX10_readRow_X10_wrong
set_option maxRecDepth 20000 in
theorem ggX10_readRow_X10_next : GoodIn wsX10_readRow wsX10_next := goodIn_r _ [20, 1, 13, 14, 40, 41, 42, 43, 44, 45, 46, 47, 48, 49, 50, 51, 52, 53, 54, 55, 56, 57, 58, 59, 60, 61, 62, 63, 64, 65, 66, 67, 68, 69] (by decide +kernel) (by decide +kernel)
set_option maxRecDepth 20000 in
theorem gX10_readRow_X10_next : GoodIn wsX10_readRow (wsV RX10 129 RX10 yX10_next wsX10_next) := goodIn_app (goodIn_of _ (by decide +kernel)) ggX10_readRow_X10_next
set_option maxRecDepth 20000 in
theorem ggX10_readRow_X10_has : GoodIn wsX10_readRow wsX10_has := goodIn_r _ [36] (by decide +kernel) (by decide +kernel)
set_option maxRecDepth 20000 in
theorem gX10_readRow_X10_has : GoodIn wsX10_readRow (va_wsS RX10 91 yX10_has wsX10_has) := goodIn_app (goodIn_of _ (by decide +kernel)) ggX10_readRow_X10_has
set_option maxRecDepth 20000 in
theorem ggX10_readRow_X10_relates : GoodIn wsX10_readRow wsX10_relates := goodIn_r _ [39, 34, 35, 7, 36] (by decide +kernel) (by decide +kernel)
set_option maxRecDepth 20000 in
theorem gX10_readRow_X10_relates : GoodIn wsX10_readRow (va_wsS RX10 167 yX10_relates wsX10_relates) := goodIn_app (goodIn_of _ (by decide +kernel)) ggX10_readRow_X10_relates
theorem dX10_readRow_0 : decode cX10_readRow 0 = .ok (.aload_n 0, 1) := by decide +kernel
theorem dX10_readRow_1 : decode cX10_readRow 1 = .ok (.invokevirtual 161, 3) := by decide +kernel
theorem dX10_readRow_4 : decode cX10_readRow 4 = .ok (.istore_n 1, 1) := by decide +kernel
theorem dX10_readRow_5 : decode cX10_readRow 5 = .ok (.iconst 1, 1) := by decide +kernel
theorem dX10_readRow_6 : decode cX10_readRow 6 = .ok (.istore_n 2, 1) := by decide +kernel
theorem dX10_readRow_7 : decode cX10_readRow 7 = .ok (.iconst 0, 1) := by decide +kernel
theorem dX10_readRow_8 : decode cX10_readRow 8 = .ok (.istore_n 3, 1) := by decide +kernel
theorem dX10_readRow_9 : decode cX10_readRow 9 = .ok (.iload_n 2, 1) := by decide +kernel
theorem dX10_readRow_10 : decode cX10_readRow 10 = .ok (.ifCond .eq 109, 3) := by decide +kernel
theorem dX10_readRow_13 : decode cX10_readRow 13 = .ok (.aload_n 0, 1) := by decide +kernel
theorem dX10_readRow_14 : decode cX10_readRow 14 = .ok (.bipush 60, 2) := by decide +kernel
theorem dX10_readRow_16 : decode cX10_readRow 16 = .ok (.invokevirtual 164, 3) := by decide +kernel
theorem dX10_readRow_19 : decode cX10_readRow 19 = .ok (.ifCond .ne 21, 3) := by decide +kernel
theorem dX10_readRow_22 : decode cX10_readRow 22 = .ok (.iload_n 3, 1) := by decide +kernel
theorem dX10_readRow_23 : decode cX10_readRow 23 = .ok (.ifCond .ne 12, 3) := by decide +kernel
theorem dX10_readRow_26 : decode cX10_readRow 26 = .ok (.aload_n 0, 1) := by decide +kernel
theorem dX10_readRow_27 : decode cX10_readRow 27 = .ok (.iconst 1, 1) := by decide +kernel
theorem dX10_readRow_28 : decode cX10_readRow 28 = .ok (.aload_n 0, 1) := by decide +kernel
theorem dX10_readRow_29 : decode cX10_readRow 29 = .ok (.getfield 126, 3) := by decide +kernel
theorem dX10_readRow_32 : decode cX10_readRow 32 = .ok (.invokevirtual 154, 3) := by decide +kernel
theorem dX10_readRow_35 : decode cX10_readRow 35 = .ok (.iconst 0, 1) := by decide +kernel
theorem dX10_readRow_36 : decode cX10_readRow 36 = .ok (.istore_n 2, 1) := by decide +kernel
theorem dX10_readRow_37 : decode cX10_readRow 37 = .ok (.goto (-28), 3) := by decide +kernel
theorem dX10_readRow_40 : decode cX10_readRow 40 = .ok (.aload_n 0, 1) := by decide +kernel
theorem dX10_readRow_41 : decode cX10_readRow 41 = .ok (.invokevirtual 129, 3) := by decide +kernel
theorem dX10_readRow_44 : decode cX10_readRow 44 = .ok (.pop, 1) := by decide +kernel
theorem dX10_readRow_45 : decode cX10_readRow 45 = .ok (.aload_n 0, 1) := by decide +kernel
theorem dX10_readRow_46 : decode cX10_readRow 46 = .ok (.getfield 126, 3) := by decide +kernel
theorem dX10_readRow_49 : decode cX10_readRow 49 = .ok (.istore 4, 2) := by decide +kernel
theorem dX10_readRow_51 : decode cX10_readRow 51 = .ok (.aload_n 0, 1) := by decide +kernel
theorem dX10_readRow_52 : decode cX10_readRow 52 = .ok (.invokevirtual 161, 3) := by decide +kernel
theorem dX10_readRow_55 : decode cX10_readRow 55 = .ok (.istore 5, 2) := by decide +kernel
theorem dX10_readRow_57 : decode cX10_readRow 57 = .ok (.aload_n 0, 1) := by decide +kernel
theorem dX10_readRow_58 : decode cX10_readRow 58 = .ok (.getfield 122, 3) := by decide +kernel
theorem dX10_readRow_61 : decode cX10_readRow 61 = .ok (.ifCond .eq 32, 3) := by decide +kernel
theorem dX10_readRow_64 : decode cX10_readRow 64 = .ok (.iload_n 1, 1) := by decide +kernel
theorem dX10_readRow_65 : decode cX10_readRow 65 = .ok (.iload 5, 2) := by decide +kernel
theorem dX10_readRow_67 : decode cX10_readRow 67 = .ok (.if_icmp .eq 19, 3) := by decide +kernel
theorem dX10_readRow_70 : decode cX10_readRow 70 = .ok (.aload_n 0, 1) := by decide +kernel
theorem dX10_readRow_71 : decode cX10_readRow 71 = .ok (.getfield 15, 3) := by decide +kernel
theorem dX10_readRow_74 : decode cX10_readRow 74 = .ok (.iconst 3, 1) := by decide +kernel
theorem dX10_readRow_75 : decode cX10_readRow 75 = .ok (.iload 5, 2) := by decide +kernel
theorem dX10_readRow_77 : decode cX10_readRow 77 = .ok (.iadd, 1) := by decide +kernel
theorem dX10_readRow_78 : decode cX10_readRow 78 = .ok (.iaload, 1) := by decide +kernel
theorem dX10_readRow_79 : decode cX10_readRow 79 = .ok (.iload_n 1, 1) := by decide +kernel
theorem dX10_readRow_80 : decode cX10_readRow 80 = .ok (.invokestatic 91, 3) := by decide +kernel
theorem dX10_readRow_83 : decode cX10_readRow 83 = .ok (.ifCond .eq 10, 3) := by decide +kernel
theorem dX10_readRow_86 : decode cX10_readRow 86 = .ok (.aload_n 0, 1) := by decide +kernel
theorem dX10_readRow_87 : decode cX10_readRow 87 = .ok (.iconst 4, 1) := by decide +kernel
theorem dX10_readRow_88 : decode cX10_readRow 88 = .ok (.iload 4, 2) := by decide +kernel
theorem dX10_readRow_90 : decode cX10_readRow 90 = .ok (.invokevirtual 154, 3) := by decide +kernel
theorem dX10_readRow_93 : decode cX10_readRow 93 = .ok (.aload_n 0, 1) := by decide +kernel
theorem dX10_readRow_94 : decode cX10_readRow 94 = .ok (.getfield 122, 3) := by decide +kernel
theorem dX10_readRow_97 : decode cX10_readRow 97 = .ok (.ifCond .eq 13, 3) := by decide +kernel
theorem dX10_readRow_100 : decode cX10_readRow 100 = .ok (.aload_n 0, 1) := by decide +kernel
theorem dX10_readRow_101 : decode cX10_readRow 101 = .ok (.getfield 15, 3) := by decide +kernel
theorem dX10_readRow_104 : decode cX10_readRow 104 = .ok (.iload_n 1, 1) := by decide +kernel
theorem dX10_readRow_105 : decode cX10_readRow 105 = .ok (.iload 5, 2) := by decide +kernel
theorem dX10_readRow_107 : decode cX10_readRow 107 = .ok (.invokestatic 167, 3) := by decide +kernel
theorem dX10_readRow_110 : decode cX10_readRow 110 = .ok (.iload 5, 2) := by decide +kernel
theorem dX10_readRow_112 : decode cX10_readRow 112 = .ok (.istore_n 1, 1) := by decide +kernel
theorem dX10_readRow_113 : decode cX10_readRow 113 = .ok (.iinc 3 1, 3) := by decide +kernel
theorem dX10_readRow_116 : decode cX10_readRow 116 = .ok (.goto (-107), 3) := by decide +kernel
theorem dX10_readRow_119 : decode cX10_readRow 119 = .ok (.return_, 1) := by decide +kernel
set_option maxRecDepth 20000 in
theorem ggX10_readLabel_X10_pointHere : GoodIn wsX10_readLabel wsX10_pointHere := goodIn_r _ [8, 3, 9, 10, 11, 7, 12, 1, 13, 14, 15, 16, 2, 17, 18, 19, 20, 21, 22, 23, 24, 25, 26, 27, 28, 29, 30, 31, 32, 33, 34, 35, 36, 37, 38, 39, 40, 41, 42, 43, 44, 45, 46, 47, 48, 49, 50, 51, 52, 53, 54, 55, 56, 57, 58, 59] (by decide +kernel) (by decide +kernel)
set_option maxRecDepth 20000 in
theorem gX10_readLabel_X10_pointHere : GoodIn wsX10_readLabel (wsV RX10 161 RX10 yX10_pointHere wsX10_pointHere) := goodIn_app (goodIn_of _ (by decide +kernel)) ggX10_readLabel_X10_pointHere
set_option maxRecDepth 20000 in
theorem ggX10_readLabel_X10_next : GoodIn wsX10_readLabel wsX10_next := goodIn_r _ [20, 1, 13, 14, 30, 31, 32, 33, 34, 35, 36, 37, 38, 39, 40, 41, 42, 43, 44, 45, 46, 47, 48, 49, 50, 51, 52, 53, 54, 55, 56, 57, 58, 59] (by decide +kernel) (by decide +kernel)
set_option maxRecDepth 20000 in
theorem gX10_readLabel_X10_next : GoodIn wsX10_readLabel (wsV RX10 129 RX10 yX10_next wsX10_next) := goodIn_app (goodIn_of _ (by decide +kernel)) ggX10_readLabel_X10_next
set_option maxRecDepth 20000 in
theorem ggX10_readLabel_X10_wrong : GoodIn wsX10_readLabel wsX10_wrong := goodIn_r _ [27, 2, 28, 29, 30, 31, 32, 33, 34, 35, 36, 37, 38, 39, 40, 41, 42, 43, 44, 45, 46, 47, 48, 49, 50, 51, 52, 53, 54, 55, 56, 57, 58, 59] (by decide +kernel) (by decide +kernel)
set_option maxRecDepth 20000 in
theorem gX10_readLabel_X10_wrong : GoodIn wsX10_readLabel (wsV RX10 154 RX10 yX10_wrong wsX10_wrong) := goodIn_app (goodIn_of _ (by decide +kernel)) ggX10_readLabel_X10_wrong
set_option maxRecDepth 20000 in
theorem ggX10_readLabel_X10_number : GoodIn wsX10_readLabel wsX10_number := goodIn_r _ [12, 1, 13, 14, 15, 16, 2, 17, 18, 19, 7, 20, 21, 22, 23, 24, 25, 26, 27, 28, 29, 30, 31, 32, 33, 34, 35, 36, 37, 38, 39, 40, 41, 42, 43, 44, 45, 46, 47, 48, 49, 50, 51, 52, 53, 54, 55, 56, 57, 58, 59] (by decide +kernel) (by decide +kernel)
set_option maxRecDepth 20000 in
theorem gX10_readLabel_X10_number : GoodIn wsX10_readLabel (wsV RX10 158 RX10 yX10_number wsX10_number) := goodIn_app (goodIn_of _ (by decide +kernel)) ggX10_readLabel_X10_number
theorem dX10_readLabel_0 : decode cX10_readLabel 0 = .ok (.aload_n 0, 1) := by decide +kernel
theorem dX10_readLabel_1 : decode cX10_readLabel 1 = .ok (.invokevirtual 161, 3) := by decide +kernel
theorem dX10_readLabel_4 : decode cX10_readLabel 4 = .ok (.istore_n 1, 1) := by decide +kernel
theorem dX10_readLabel_5 : decode cX10_readLabel 5 = .ok (.aload_n 0, 1) := by decide +kernel
theorem dX10_readLabel_6 : decode cX10_readLabel 6 = .ok (.invokevirtual 129, 3) := by decide +kernel
theorem dX10_readLabel_9 : decode cX10_readLabel 9 = .ok (.pop, 1) := by decide +kernel
theorem dX10_readLabel_10 : decode cX10_readLabel 10 = .ok (.aload_n 0, 1) := by decide +kernel
theorem dX10_readLabel_11 : decode cX10_readLabel 11 = .ok (.getfield 126, 3) := by decide +kernel
theorem dX10_readLabel_14 : decode cX10_readLabel 14 = .ok (.istore_n 2, 1) := by decide +kernel
theorem dX10_readLabel_15 : decode cX10_readLabel 15 = .ok (.aload_n 0, 1) := by decide +kernel
theorem dX10_readLabel_16 : decode cX10_readLabel 16 = .ok (.invokevirtual 161, 3) := by decide +kernel
theorem dX10_readLabel_19 : decode cX10_readLabel 19 = .ok (.istore_n 3, 1) := by decide +kernel
theorem dX10_readLabel_20 : decode cX10_readLabel 20 = .ok (.aload_n 0, 1) := by decide +kernel
theorem dX10_readLabel_21 : decode cX10_readLabel 21 = .ok (.getfield 122, 3) := by decide +kernel
theorem dX10_readLabel_24 : decode cX10_readLabel 24 = .ok (.ifCond .eq 14, 3) := by decide +kernel
theorem dX10_readLabel_27 : decode cX10_readLabel 27 = .ok (.iload_n 1, 1) := by decide +kernel
theorem dX10_readLabel_28 : decode cX10_readLabel 28 = .ok (.iload_n 3, 1) := by decide +kernel
theorem dX10_readLabel_29 : decode cX10_readLabel 29 = .ok (.if_icmp .ne 9, 3) := by decide +kernel
theorem dX10_readLabel_32 : decode cX10_readLabel 32 = .ok (.aload_n 0, 1) := by decide +kernel
theorem dX10_readLabel_33 : decode cX10_readLabel 33 = .ok (.iconst 2, 1) := by decide +kernel
theorem dX10_readLabel_34 : decode cX10_readLabel 34 = .ok (.iload_n 2, 1) := by decide +kernel
theorem dX10_readLabel_35 : decode cX10_readLabel 35 = .ok (.invokevirtual 154, 3) := by decide +kernel
theorem dX10_readLabel_38 : decode cX10_readLabel 38 = .ok (.aload_n 0, 1) := by decide +kernel
theorem dX10_readLabel_39 : decode cX10_readLabel 39 = .ok (.iconst 0, 1) := by decide +kernel
theorem dX10_readLabel_40 : decode cX10_readLabel 40 = .ok (.bipush 99, 2) := by decide +kernel
theorem dX10_readLabel_42 : decode cX10_readLabel 42 = .ok (.invokevirtual 158, 3) := by decide +kernel
theorem dX10_readLabel_45 : decode cX10_readLabel 45 = .ok (.istore 4, 2) := by decide +kernel
theorem dX10_readLabel_47 : decode cX10_readLabel 47 = .ok (.aload_n 0, 1) := by decide +kernel
theorem dX10_readLabel_48 : decode cX10_readLabel 48 = .ok (.getfield 122, 3) := by decide +kernel
theorem dX10_readLabel_51 : decode cX10_readLabel 51 = .ok (.ifCond .eq 19, 3) := by decide +kernel
theorem dX10_readLabel_54 : decode cX10_readLabel 54 = .ok (.aload_n 0, 1) := by decide +kernel
theorem dX10_readLabel_55 : decode cX10_readLabel 55 = .ok (.getfield 15, 3) := by decide +kernel
theorem dX10_readLabel_58 : decode cX10_readLabel 58 = .ok (.bipush 12, 2) := by decide +kernel
theorem dX10_readLabel_60 : decode cX10_readLabel 60 = .ok (.bipush 9, 2) := by decide +kernel
theorem dX10_readLabel_62 : decode cX10_readLabel 62 = .ok (.iload_n 1, 1) := by decide +kernel
theorem dX10_readLabel_63 : decode cX10_readLabel 63 = .ok (.imul, 1) := by decide +kernel
theorem dX10_readLabel_64 : decode cX10_readLabel 64 = .ok (.iadd, 1) := by decide +kernel
theorem dX10_readLabel_65 : decode cX10_readLabel 65 = .ok (.iload_n 3, 1) := by decide +kernel
theorem dX10_readLabel_66 : decode cX10_readLabel 66 = .ok (.iadd, 1) := by decide +kernel
theorem dX10_readLabel_67 : decode cX10_readLabel 67 = .ok (.iload 4, 2) := by decide +kernel
theorem dX10_readLabel_69 : decode cX10_readLabel 69 = .ok (.iastore, 1) := by decide +kernel
theorem dX10_readLabel_70 : decode cX10_readLabel 70 = .ok (.return_, 1) := by decide +kernel
set_option maxRecDepth 20000 in
theorem ggX10_readLine_X10_next : GoodIn wsX10_readLine wsX10_next := goodIn_r _ [9, 1, 10, 11, 108, 109, 110, 111, 112, 113, 114, 115, 116, 117, 118, 119, 120, 121, 122, 123, 124, 125, 126, 127, 128, 129, 130, 131, 132, 133, 134, 135, 136, 137] (by decide +kernel) (by decide +kernel)
set_option maxRecDepth 20000 in
theorem gX10_readLine_X10_next : GoodIn wsX10_readLine (wsV RX10 129 RX10 yX10_next wsX10_next) := goodIn_app (goodIn_of _ (by decide +kernel)) ggX10_readLine_X10_next
set_option maxRecDepth 20000 in
theorem ggX10_readLine_X10_isWord : GoodIn wsX10_readLine wsX10_isWord := goodIn_r _ [15, 1, 10, 11, 16, 17, 3, 5, 6, 7, 8, 9, 18, 19, 20, 21, 22, 23, 24, 25, 26, 27, 28, 29, 30, 31, 32, 33, 34, 35, 36, 37, 38, 39, 40, 41, 42, 43, 44, 45, 46, 47, 48, 49, 50, 51, 52, 53, 54, 55, 56, 57, 58, 59, 60, 61, 62, 63, 64, 65, 66, 67, 68, 69, 108, 109, 110, 111, 112, 113, 114, 115, 116, 117, 118, 119, 120, 121, 122, 123, 124, 125, 126, 127, 128, 129, 130, 131, 132, 133, 134, 135, 136, 137] (by decide +kernel) (by decide +kernel)
set_option maxRecDepth 20000 in
theorem gX10_readLine_X10_isWord : GoodIn wsX10_readLine (wsV RX10 146 RX10 yX10_isWord wsX10_isWord) := goodIn_app (goodIn_of _ (by decide +kernel)) ggX10_readLine_X10_isWord
set_option maxRecDepth 20000 in
theorem ggX10_readLine_X10_isNumber : GoodIn wsX10_readLine wsX10_isNumber := goodIn_r _ [73, 3, 74, 75, 5, 6, 7, 8, 9, 1, 10, 11, 18, 19, 20, 108, 109, 110, 111, 112, 113, 114, 115, 116, 117, 118, 119, 120, 121, 122, 123, 124, 125, 126, 127, 128, 129, 130, 131, 132, 133, 134, 135, 136, 137] (by decide +kernel) (by decide +kernel)
set_option maxRecDepth 20000 in
theorem gX10_readLine_X10_isNumber : GoodIn wsX10_readLine (wsV RX10 177 RX10 yX10_isNumber wsX10_isNumber) := goodIn_app (goodIn_of _ (by decide +kernel)) ggX10_readLine_X10_isNumber
set_option maxRecDepth 20000 in
theorem ggX10_readLine_X10_wrong : GoodIn wsX10_readLine wsX10_wrong := goodIn_r _ [79, 3, 80, 81, 108, 109, 110, 111, 112, 113, 114, 115, 116, 117, 118, 119, 120, 121, 122, 123, 124, 125, 126, 127, 128, 129, 130, 131, 132, 133, 134, 135, 136, 137] (by decide +kernel) (by decide +kernel)
set_option maxRecDepth 20000 in
theorem gX10_readLine_X10_wrong : GoodIn wsX10_readLine (wsV RX10 154 RX10 yX10_wrong wsX10_wrong) := goodIn_app (goodIn_of _ (by decide +kernel)) ggX10_readLine_X10_wrong
set_option maxRecDepth 20000 in
theorem ggX10_readLine_X10_number : GoodIn wsX10_readLine wsX10_number := goodIn_r _ [85, 1, 10, 11, 74, 75, 3, 5, 6, 7, 8, 9, 18, 19, 20, 76, 77, 78, 79, 80, 81, 108, 109, 110, 111, 112, 113, 114, 115, 116, 117, 118, 119, 120, 121, 122, 123, 124, 125, 126, 127, 128, 129, 130, 131, 132, 133, 134, 135, 136, 137] (by decide +kernel) (by decide +kernel)
set_option maxRecDepth 20000 in
theorem gX10_readLine_X10_number : GoodIn wsX10_readLine (wsV RX10 158 RX10 yX10_number wsX10_number) := goodIn_app (goodIn_of _ (by decide +kernel)) ggX10_readLine_X10_number
set_option maxRecDepth 20000 in
theorem ggX10_readLine_X10_readLabel : GoodIn wsX10_readLine wsX10_readLabel := goodIn_r _ [89, 1, 3, 4, 90, 91, 92, 8, 93, 82, 83, 84, 85, 10, 11, 74, 75, 5, 6, 7, 9, 18, 19, 20, 76, 77, 78, 79, 80, 81, 108, 109, 110, 111, 112, 113, 114, 115, 116, 117, 118, 119, 120, 121, 122, 123, 124, 125, 126, 127, 128, 129, 130, 131, 132, 133, 134, 135, 136, 137] (by decide +kernel) (by decide +kernel)
set_option maxRecDepth 20000 in
theorem gX10_readLine_X10_readLabel : GoodIn wsX10_readLine (wsV RX10 184 RX10 yX10_readLabel wsX10_readLabel) := goodIn_app (goodIn_of _ (by decide +kernel)) ggX10_readLine_X10_readLabel
set_option maxRecDepth 20000 in
theorem ggX10_readLine_X10_readRow : GoodIn wsX10_readLine wsX10_readRow := goodIn_r _ [97, 1, 3, 4, 90, 91, 92, 8, 93, 82, 83, 84, 85, 10, 11, 74, 75, 5, 6, 7, 9, 18, 19, 20, 76, 77, 78, 79, 80, 81, 98, 99, 100, 101, 102, 103, 104, 105, 106, 107, 108, 109, 110, 111, 112, 113, 114, 115, 116, 117, 118, 119, 120, 121, 122, 123, 124, 125, 126, 127, 128, 129, 130, 131, 132, 133, 134, 135, 136, 137] (by decide +kernel) (by decide +kernel)
set_option maxRecDepth 20000 in
theorem gX10_readLine_X10_readRow : GoodIn wsX10_readLine (wsV RX10 187 RX10 yX10_readRow wsX10_readRow) := goodIn_app (goodIn_of _ (by decide +kernel)) ggX10_readLine_X10_readRow
theorem dX10_readLine_0 : decode cX10_readLine 0 = .ok (.aload_n 0, 1) := by decide +kernel
theorem dX10_readLine_1 : decode cX10_readLine 1 = .ok (.invokevirtual 129, 3) := by decide +kernel
theorem dX10_readLine_4 : decode cX10_readLine 4 = .ok (.pop, 1) := by decide +kernel
theorem dX10_readLine_5 : decode cX10_readLine 5 = .ok (.aload_n 0, 1) := by decide +kernel
theorem dX10_readLine_6 : decode cX10_readLine 6 = .ok (.getfield 126, 3) := by decide +kernel
theorem dX10_readLine_9 : decode cX10_readLine 9 = .ok (.istore_n 2, 1) := by decide +kernel
theorem dX10_readLine_10 : decode cX10_readLine 10 = .ok (.aload_n 0, 1) := by decide +kernel
theorem dX10_readLine_11 : decode cX10_readLine 11 = .ok (.ldc 171, 2) := by decide +kernel
theorem dX10_readLine_13 : decode cX10_readLine 13 = .ok (.invokevirtual 146, 3) := by decide +kernel
theorem dX10_readLine_16 : decode cX10_readLine 16 = .ok (.istore_n 3, 1) := by decide +kernel
theorem dX10_readLine_17 : decode cX10_readLine 17 = .ok (.aload_n 0, 1) := by decide +kernel
theorem dX10_readLine_18 : decode cX10_readLine 18 = .ok (.ldc 173, 2) := by decide +kernel
theorem dX10_readLine_20 : decode cX10_readLine 20 = .ok (.invokevirtual 146, 3) := by decide +kernel
theorem dX10_readLine_23 : decode cX10_readLine 23 = .ok (.istore 4, 2) := by decide +kernel
theorem dX10_readLine_25 : decode cX10_readLine 25 = .ok (.aload_n 0, 1) := by decide +kernel
theorem dX10_readLine_26 : decode cX10_readLine 26 = .ok (.ldc 175, 2) := by decide +kernel
theorem dX10_readLine_28 : decode cX10_readLine 28 = .ok (.invokevirtual 146, 3) := by decide +kernel
theorem dX10_readLine_31 : decode cX10_readLine 31 = .ok (.istore 5, 2) := by decide +kernel
theorem dX10_readLine_33 : decode cX10_readLine 33 = .ok (.iload_n 3, 1) := by decide +kernel
theorem dX10_readLine_34 : decode cX10_readLine 34 = .ok (.ifCond .ne 29, 3) := by decide +kernel
theorem dX10_readLine_37 : decode cX10_readLine 37 = .ok (.iload 4, 2) := by decide +kernel
theorem dX10_readLine_39 : decode cX10_readLine 39 = .ok (.ifCond .ne 24, 3) := by decide +kernel
theorem dX10_readLine_42 : decode cX10_readLine 42 = .ok (.iload 5, 2) := by decide +kernel
theorem dX10_readLine_44 : decode cX10_readLine 44 = .ok (.ifCond .ne 19, 3) := by decide +kernel
theorem dX10_readLine_47 : decode cX10_readLine 47 = .ok (.aload_n 0, 1) := by decide +kernel
theorem dX10_readLine_48 : decode cX10_readLine 48 = .ok (.invokevirtual 177, 3) := by decide +kernel
theorem dX10_readLine_51 : decode cX10_readLine 51 = .ok (.ifCond .ne 12, 3) := by decide +kernel
theorem dX10_readLine_54 : decode cX10_readLine 54 = .ok (.aload_n 0, 1) := by decide +kernel
theorem dX10_readLine_55 : decode cX10_readLine 55 = .ok (.iconst 1, 1) := by decide +kernel
theorem dX10_readLine_56 : decode cX10_readLine 56 = .ok (.iload_n 2, 1) := by decide +kernel
theorem dX10_readLine_57 : decode cX10_readLine 57 = .ok (.invokevirtual 154, 3) := by decide +kernel
theorem dX10_readLine_60 : decode cX10_readLine 60 = .ok (.goto 34, 3) := by decide +kernel
theorem dX10_readLine_63 : decode cX10_readLine 63 = .ok (.iload_n 3, 1) := by decide +kernel
theorem dX10_readLine_64 : decode cX10_readLine 64 = .ok (.iload_n 1, 1) := by decide +kernel
theorem dX10_readLine_65 : decode cX10_readLine 65 = .ok (.ifCond .ne 7, 3) := by decide +kernel
theorem dX10_readLine_68 : decode cX10_readLine 68 = .ok (.iconst 1, 1) := by decide +kernel
theorem dX10_readLine_69 : decode cX10_readLine 69 = .ok (.goto 4, 3) := by decide +kernel
theorem dX10_readLine_72 : decode cX10_readLine 72 = .ok (.iconst 0, 1) := by decide +kernel
theorem dX10_readLine_73 : decode cX10_readLine 73 = .ok (.if_icmp .ne 15, 3) := by decide +kernel
theorem dX10_readLine_76 : decode cX10_readLine 76 = .ok (.iload 4, 2) := by decide +kernel
theorem dX10_readLine_78 : decode cX10_readLine 78 = .ok (.ifCond .eq 16, 3) := by decide +kernel
theorem dX10_readLine_81 : decode cX10_readLine 81 = .ok (.aload_n 0, 1) := by decide +kernel
theorem dX10_readLine_82 : decode cX10_readLine 82 = .ok (.getfield 181, 3) := by decide +kernel
theorem dX10_readLine_85 : decode cX10_readLine 85 = .ok (.ifCond .eq 9, 3) := by decide +kernel
theorem dX10_readLine_88 : decode cX10_readLine 88 = .ok (.aload_n 0, 1) := by decide +kernel
theorem dX10_readLine_89 : decode cX10_readLine 89 = .ok (.iconst 3, 1) := by decide +kernel
theorem dX10_readLine_90 : decode cX10_readLine 90 = .ok (.iload_n 2, 1) := by decide +kernel
theorem dX10_readLine_91 : decode cX10_readLine 91 = .ok (.invokevirtual 154, 3) := by decide +kernel
theorem dX10_readLine_94 : decode cX10_readLine 94 = .ok (.aload_n 0, 1) := by decide +kernel
theorem dX10_readLine_95 : decode cX10_readLine 95 = .ok (.getfield 122, 3) := by decide +kernel
theorem dX10_readLine_98 : decode cX10_readLine 98 = .ok (.ifCond .ne 4, 3) := by decide +kernel
theorem dX10_readLine_101 : decode cX10_readLine 101 = .ok (.return_, 1) := by decide +kernel
theorem dX10_readLine_102 : decode cX10_readLine 102 = .ok (.iload_n 3, 1) := by decide +kernel
theorem dX10_readLine_103 : decode cX10_readLine 103 = .ok (.ifCond .eq 46, 3) := by decide +kernel
theorem dX10_readLine_106 : decode cX10_readLine 106 = .ok (.aload_n 0, 1) := by decide +kernel
theorem dX10_readLine_107 : decode cX10_readLine 107 = .ok (.dup, 1) := by decide +kernel
theorem dX10_readLine_108 : decode cX10_readLine 108 = .ok (.getfield 126, 3) := by decide +kernel
theorem dX10_readLine_111 : decode cX10_readLine 111 = .ok (.bipush 6, 2) := by decide +kernel
theorem dX10_readLine_113 : decode cX10_readLine 113 = .ok (.iadd, 1) := by decide +kernel
theorem dX10_readLine_114 : decode cX10_readLine 114 = .ok (.putfield 126, 3) := by decide +kernel
theorem dX10_readLine_117 : decode cX10_readLine 117 = .ok (.aload_n 0, 1) := by decide +kernel
theorem dX10_readLine_118 : decode cX10_readLine 118 = .ok (.getfield 15, 3) := by decide +kernel
theorem dX10_readLine_121 : decode cX10_readLine 121 = .ok (.iconst 0, 1) := by decide +kernel
theorem dX10_readLine_122 : decode cX10_readLine 122 = .ok (.aload_n 0, 1) := by decide +kernel
theorem dX10_readLine_123 : decode cX10_readLine 123 = .ok (.iconst 1, 1) := by decide +kernel
theorem dX10_readLine_124 : decode cX10_readLine 124 = .ok (.bipush 9, 2) := by decide +kernel
theorem dX10_readLine_126 : decode cX10_readLine 126 = .ok (.invokevirtual 158, 3) := by decide +kernel
theorem dX10_readLine_129 : decode cX10_readLine 129 = .ok (.iastore, 1) := by decide +kernel
theorem dX10_readLine_130 : decode cX10_readLine 130 = .ok (.aload_n 0, 1) := by decide +kernel
theorem dX10_readLine_131 : decode cX10_readLine 131 = .ok (.getfield 15, 3) := by decide +kernel
theorem dX10_readLine_134 : decode cX10_readLine 134 = .ok (.iconst 1, 1) := by decide +kernel
theorem dX10_readLine_135 : decode cX10_readLine 135 = .ok (.iconst 1, 1) := by decide +kernel
theorem dX10_readLine_136 : decode cX10_readLine 136 = .ok (.aload_n 0, 1) := by decide +kernel
theorem dX10_readLine_137 : decode cX10_readLine 137 = .ok (.getfield 15, 3) := by decide +kernel
theorem dX10_readLine_140 : decode cX10_readLine 140 = .ok (.iconst 0, 1) := by decide +kernel
theorem dX10_readLine_141 : decode cX10_readLine 141 = .ok (.iaload, 1) := by decide +kernel
theorem dX10_readLine_142 : decode cX10_readLine 142 = .ok (.ishl, 1) := by decide +kernel
theorem dX10_readLine_143 : decode cX10_readLine 143 = .ok (.iconst 1, 1) := by decide +kernel
theorem dX10_readLine_144 : decode cX10_readLine 144 = .ok (.isub, 1) := by decide +kernel
theorem dX10_readLine_145 : decode cX10_readLine 145 = .ok (.iastore, 1) := by decide +kernel
theorem dX10_readLine_146 : decode cX10_readLine 146 = .ok (.goto 64, 3) := by decide +kernel
theorem dX10_readLine_149 : decode cX10_readLine 149 = .ok (.iload 4, 2) := by decide +kernel
theorem dX10_readLine_151 : decode cX10_readLine 151 = .ok (.ifCond .eq 33, 3) := by decide +kernel
theorem dX10_readLine_154 : decode cX10_readLine 154 = .ok (.aload_n 0, 1) := by decide +kernel
theorem dX10_readLine_155 : decode cX10_readLine 155 = .ok (.dup, 1) := by decide +kernel
theorem dX10_readLine_156 : decode cX10_readLine 156 = .ok (.getfield 126, 3) := by decide +kernel
theorem dX10_readLine_159 : decode cX10_readLine 159 = .ok (.iconst 4, 1) := by decide +kernel
theorem dX10_readLine_160 : decode cX10_readLine 160 = .ok (.iadd, 1) := by decide +kernel
theorem dX10_readLine_161 : decode cX10_readLine 161 = .ok (.putfield 126, 3) := by decide +kernel
theorem dX10_readLine_164 : decode cX10_readLine 164 = .ok (.aload_n 0, 1) := by decide +kernel
theorem dX10_readLine_165 : decode cX10_readLine 165 = .ok (.iconst 1, 1) := by decide +kernel
theorem dX10_readLine_166 : decode cX10_readLine 166 = .ok (.putfield 181, 3) := by decide +kernel
theorem dX10_readLine_169 : decode cX10_readLine 169 = .ok (.aload_n 0, 1) := by decide +kernel
theorem dX10_readLine_170 : decode cX10_readLine 170 = .ok (.getfield 15, 3) := by decide +kernel
theorem dX10_readLine_173 : decode cX10_readLine 173 = .ok (.iconst 2, 1) := by decide +kernel
theorem dX10_readLine_174 : decode cX10_readLine 174 = .ok (.aload_n 0, 1) := by decide +kernel
theorem dX10_readLine_175 : decode cX10_readLine 175 = .ok (.iconst 0, 1) := by decide +kernel
theorem dX10_readLine_176 : decode cX10_readLine 176 = .ok (.iconst 3, 1) := by decide +kernel
theorem dX10_readLine_177 : decode cX10_readLine 177 = .ok (.invokevirtual 158, 3) := by decide +kernel
theorem dX10_readLine_180 : decode cX10_readLine 180 = .ok (.iastore, 1) := by decide +kernel
theorem dX10_readLine_181 : decode cX10_readLine 181 = .ok (.goto 29, 3) := by decide +kernel
theorem dX10_readLine_184 : decode cX10_readLine 184 = .ok (.iload 5, 2) := by decide +kernel
theorem dX10_readLine_186 : decode cX10_readLine 186 = .ok (.ifCond .eq 20, 3) := by decide +kernel
theorem dX10_readLine_189 : decode cX10_readLine 189 = .ok (.aload_n 0, 1) := by decide +kernel
theorem dX10_readLine_190 : decode cX10_readLine 190 = .ok (.dup, 1) := by decide +kernel
theorem dX10_readLine_191 : decode cX10_readLine 191 = .ok (.getfield 126, 3) := by decide +kernel
theorem dX10_readLine_194 : decode cX10_readLine 194 = .ok (.iconst 5, 1) := by decide +kernel
theorem dX10_readLine_195 : decode cX10_readLine 195 = .ok (.iadd, 1) := by decide +kernel
theorem dX10_readLine_196 : decode cX10_readLine 196 = .ok (.putfield 126, 3) := by decide +kernel
theorem dX10_readLine_199 : decode cX10_readLine 199 = .ok (.aload_n 0, 1) := by decide +kernel
theorem dX10_readLine_200 : decode cX10_readLine 200 = .ok (.invokevirtual 184, 3) := by decide +kernel
theorem dX10_readLine_203 : decode cX10_readLine 203 = .ok (.goto 7, 3) := by decide +kernel
theorem dX10_readLine_206 : decode cX10_readLine 206 = .ok (.aload_n 0, 1) := by decide +kernel
theorem dX10_readLine_207 : decode cX10_readLine 207 = .ok (.invokevirtual 187, 3) := by decide +kernel
theorem dX10_readLine_210 : decode cX10_readLine 210 = .ok (.return_, 1) := by decide +kernel
set_option maxRecDepth 20000 in
theorem ggX10_order_X10_readLine : GoodIn wsX10_order wsX10_readLine := goodIn_r _ [16, 2, 6, 3, 7, 17, 18, 19, 15, 20, 8, 21, 22, 23, 24, 25, 26, 27, 28, 29, 30, 31, 32, 33, 34, 35, 36, 37, 38, 39, 40, 41, 42, 43, 44, 45, 46, 47, 48, 49, 50, 51, 52, 53, 54, 55, 56, 57, 58, 59, 60, 61, 62, 63, 64, 65, 66, 67, 68, 69, 70, 71, 72, 73, 74, 75, 76, 77, 78, 79, 80, 81, 82, 83, 84, 85, 86, 87, 88, 89, 4, 5, 90, 91, 92, 93, 94, 95, 96, 97, 98, 99, 100, 101, 102, 103, 104, 105, 106, 107, 108, 109, 110, 111, 112, 113, 114, 115, 116, 117, 118, 119, 120, 121, 122, 123, 124, 125, 126, 127, 128, 129, 130, 131, 132, 133, 134, 135, 136, 137, 138, 139, 140, 141, 142, 143, 144, 145] (by decide +kernel) (by decide +kernel)
set_option maxRecDepth 20000 in
theorem gX10_order_X10_readLine : GoodIn wsX10_order (wsV RX10 190 RX10 yX10_readLine wsX10_readLine) := goodIn_app (goodIn_of _ (by decide +kernel)) ggX10_order_X10_readLine
set_option maxRecDepth 20000 in
theorem ggX10_order_X10_takes : GoodIn wsX10_order wsX10_takes := goodIn_r _ [109, 3, 2, 8, 17, 18, 19, 15, 20, 21, 116, 117, 118, 119, 120, 121, 122, 123, 124, 125, 126, 127, 128, 129, 130, 131, 132, 133, 134, 135, 136, 137, 138, 139, 140, 141, 142, 143, 144, 145] (by decide +kernel) (by decide +kernel)
set_option maxRecDepth 20000 in
theorem gX10_order_X10_takes : GoodIn wsX10_order (wsV RX10 164 RX10 yX10_takes wsX10_takes) := goodIn_app (goodIn_of _ (by decide +kernel)) ggX10_order_X10_takes
set_option maxRecDepth 20000 in
theorem ggX10_order_X10_next : GoodIn wsX10_order wsX10_next := goodIn_r _ [20, 2, 8, 21, 116, 117, 118, 119, 120, 121, 122, 123, 124, 125, 126, 127, 128, 129, 130, 131, 132, 133, 134, 135, 136, 137, 138, 139, 140, 141, 142, 143, 144, 145] (by decide +kernel) (by decide +kernel)
set_option maxRecDepth 20000 in
theorem gX10_order_X10_next : GoodIn wsX10_order (wsV RX10 129 RX10 yX10_next wsX10_next) := goodIn_app (goodIn_of _ (by decide +kernel)) ggX10_order_X10_next
set_option maxRecDepth 20000 in
theorem ggX10_order_X10_wrong : GoodIn wsX10_order wsX10_wrong := goodIn_r _ [89, 3, 4, 5, 116, 117, 118, 119, 120, 121, 122, 123, 124, 125, 126, 127, 128, 129, 130, 131, 132, 133, 134, 135, 136, 137, 138, 139, 140, 141, 142, 143, 144, 145] (by decide +kernel) (by decide +kernel)
set_option maxRecDepth 20000 in
theorem gX10_order_X10_wrong : GoodIn wsX10_order (wsV RX10 154 RX10 yX10_wrong wsX10_wrong) := goodIn_app (goodIn_of _ (by decide +kernel)) ggX10_order_X10_wrong
theorem dX10_order_0 : decode cX10_order 0 = .ok (.aload_n 0, 1) := by decide +kernel
theorem dX10_order_1 : decode cX10_order 1 = .ok (.iconst 0, 1) := by decide +kernel
theorem dX10_order_2 : decode cX10_order 2 = .ok (.putfield 82, 3) := by decide +kernel
theorem dX10_order_5 : decode cX10_order 5 = .ok (.aload_n 0, 1) := by decide +kernel
theorem dX10_order_6 : decode cX10_order 6 = .ok (.iconst 0, 1) := by decide +kernel
theorem dX10_order_7 : decode cX10_order 7 = .ok (.putfield 126, 3) := by decide +kernel
theorem dX10_order_10 : decode cX10_order 10 = .ok (.aload_n 0, 1) := by decide +kernel
theorem dX10_order_11 : decode cX10_order 11 = .ok (.iconst 1, 1) := by decide +kernel
theorem dX10_order_12 : decode cX10_order 12 = .ok (.putfield 122, 3) := by decide +kernel
theorem dX10_order_15 : decode cX10_order 15 = .ok (.aload_n 0, 1) := by decide +kernel
theorem dX10_order_16 : decode cX10_order 16 = .ok (.iconst 0, 1) := by decide +kernel
theorem dX10_order_17 : decode cX10_order 17 = .ok (.putfield 119, 3) := by decide +kernel
theorem dX10_order_20 : decode cX10_order 20 = .ok (.aload_n 0, 1) := by decide +kernel
theorem dX10_order_21 : decode cX10_order 21 = .ok (.iconst (-1), 1) := by decide +kernel
theorem dX10_order_22 : decode cX10_order 22 = .ok (.putfield 32, 3) := by decide +kernel
theorem dX10_order_25 : decode cX10_order 25 = .ok (.aload_n 0, 1) := by decide +kernel
theorem dX10_order_26 : decode cX10_order 26 = .ok (.iconst 0, 1) := by decide +kernel
theorem dX10_order_27 : decode cX10_order 27 = .ok (.putfield 181, 3) := by decide +kernel
theorem dX10_order_30 : decode cX10_order 30 = .ok (.iconst 0, 1) := by decide +kernel
theorem dX10_order_31 : decode cX10_order 31 = .ok (.istore_n 1, 1) := by decide +kernel
theorem dX10_order_32 : decode cX10_order 32 = .ok (.iload_n 1, 1) := by decide +kernel
theorem dX10_order_33 : decode cX10_order 33 = .ok (.bipush 93, 2) := by decide +kernel
theorem dX10_order_35 : decode cX10_order 35 = .ok (.if_icmp .ge 16, 3) := by decide +kernel
theorem dX10_order_38 : decode cX10_order 38 = .ok (.aload_n 0, 1) := by decide +kernel
theorem dX10_order_39 : decode cX10_order 39 = .ok (.getfield 15, 3) := by decide +kernel
theorem dX10_order_42 : decode cX10_order 42 = .ok (.iload_n 1, 1) := by decide +kernel
theorem dX10_order_43 : decode cX10_order 43 = .ok (.iconst 0, 1) := by decide +kernel
theorem dX10_order_44 : decode cX10_order 44 = .ok (.iastore, 1) := by decide +kernel
theorem dX10_order_45 : decode cX10_order 45 = .ok (.iinc 1 1, 3) := by decide +kernel
theorem dX10_order_48 : decode cX10_order 48 = .ok (.goto (-16), 3) := by decide +kernel
theorem dX10_order_51 : decode cX10_order 51 = .ok (.iconst 1, 1) := by decide +kernel
theorem dX10_order_52 : decode cX10_order 52 = .ok (.istore_n 1, 1) := by decide +kernel
theorem dX10_order_53 : decode cX10_order 53 = .ok (.aload_n 0, 1) := by decide +kernel
theorem dX10_order_54 : decode cX10_order 54 = .ok (.iconst 0, 1) := by decide +kernel
theorem dX10_order_55 : decode cX10_order 55 = .ok (.invokevirtual 190, 3) := by decide +kernel
theorem dX10_order_58 : decode cX10_order 58 = .ok (.aload_n 0, 1) := by decide +kernel
theorem dX10_order_59 : decode cX10_order 59 = .ok (.bipush 59, 2) := by decide +kernel
theorem dX10_order_61 : decode cX10_order 61 = .ok (.invokevirtual 164, 3) := by decide +kernel
theorem dX10_order_64 : decode cX10_order 64 = .ok (.ifCond .eq 14, 3) := by decide +kernel
theorem dX10_order_67 : decode cX10_order 67 = .ok (.aload_n 0, 1) := by decide +kernel
theorem dX10_order_68 : decode cX10_order 68 = .ok (.iload_n 1, 1) := by decide +kernel
theorem dX10_order_69 : decode cX10_order 69 = .ok (.invokevirtual 190, 3) := by decide +kernel
theorem dX10_order_72 : decode cX10_order 72 = .ok (.iinc 1 1, 3) := by decide +kernel
theorem dX10_order_75 : decode cX10_order 75 = .ok (.goto (-17), 3) := by decide +kernel
theorem dX10_order_78 : decode cX10_order 78 = .ok (.aload_n 0, 1) := by decide +kernel
theorem dX10_order_79 : decode cX10_order 79 = .ok (.invokevirtual 129, 3) := by decide +kernel
theorem dX10_order_82 : decode cX10_order 82 = .ok (.pop, 1) := by decide +kernel
theorem dX10_order_83 : decode cX10_order 83 = .ok (.aload_n 0, 1) := by decide +kernel
theorem dX10_order_84 : decode cX10_order 84 = .ok (.getfield 122, 3) := by decide +kernel
theorem dX10_order_87 : decode cX10_order 87 = .ok (.ifCond .eq 23, 3) := by decide +kernel
theorem dX10_order_90 : decode cX10_order 90 = .ok (.aload_n 0, 1) := by decide +kernel
theorem dX10_order_91 : decode cX10_order 91 = .ok (.getfield 126, 3) := by decide +kernel
theorem dX10_order_94 : decode cX10_order 94 = .ok (.aload_n 0, 1) := by decide +kernel
theorem dX10_order_95 : decode cX10_order 95 = .ok (.getfield 116, 3) := by decide +kernel
theorem dX10_order_98 : decode cX10_order 98 = .ok (.if_icmp .ge 12, 3) := by decide +kernel
theorem dX10_order_101 : decode cX10_order 101 = .ok (.aload_n 0, 1) := by decide +kernel
theorem dX10_order_102 : decode cX10_order 102 = .ok (.iconst 1, 1) := by decide +kernel
theorem dX10_order_103 : decode cX10_order 103 = .ok (.aload_n 0, 1) := by decide +kernel
theorem dX10_order_104 : decode cX10_order 104 = .ok (.getfield 126, 3) := by decide +kernel
theorem dX10_order_107 : decode cX10_order 107 = .ok (.invokevirtual 154, 3) := by decide +kernel
theorem dX10_order_110 : decode cX10_order 110 = .ok (.aload_n 0, 1) := by decide +kernel
theorem dX10_order_111 : decode cX10_order 111 = .ok (.iconst 0, 1) := by decide +kernel
theorem dX10_order_112 : decode cX10_order 112 = .ok (.putfield 116, 3) := by decide +kernel
theorem dX10_order_115 : decode cX10_order 115 = .ok (.aload_n 0, 1) := by decide +kernel
theorem dX10_order_116 : decode cX10_order 116 = .ok (.getfield 122, 3) := by decide +kernel
theorem dX10_order_119 : decode cX10_order 119 = .ok (.ifCond .ne 5, 3) := by decide +kernel
theorem dX10_order_122 : decode cX10_order 122 = .ok (.iconst (-1), 1) := by decide +kernel
theorem dX10_order_123 : decode cX10_order 123 = .ok (.ireturn, 1) := by decide +kernel
theorem dX10_order_124 : decode cX10_order 124 = .ok (.iconst 0, 1) := by decide +kernel
theorem dX10_order_125 : decode cX10_order 125 = .ok (.istore_n 2, 1) := by decide +kernel
theorem dX10_order_126 : decode cX10_order 126 = .ok (.iload_n 2, 1) := by decide +kernel
theorem dX10_order_127 : decode cX10_order 127 = .ok (.bipush 93, 2) := by decide +kernel
theorem dX10_order_129 : decode cX10_order 129 = .ok (.if_icmp .ge 21, 3) := by decide +kernel
theorem dX10_order_132 : decode cX10_order 132 = .ok (.aload_n 0, 1) := by decide +kernel
theorem dX10_order_133 : decode cX10_order 133 = .ok (.getfield 9, 3) := by decide +kernel
theorem dX10_order_136 : decode cX10_order 136 = .ok (.iload_n 2, 1) := by decide +kernel
theorem dX10_order_137 : decode cX10_order 137 = .ok (.aload_n 0, 1) := by decide +kernel
theorem dX10_order_138 : decode cX10_order 138 = .ok (.getfield 15, 3) := by decide +kernel
theorem dX10_order_141 : decode cX10_order 141 = .ok (.iload_n 2, 1) := by decide +kernel
theorem dX10_order_142 : decode cX10_order 142 = .ok (.iaload, 1) := by decide +kernel
theorem dX10_order_143 : decode cX10_order 143 = .ok (.iastore, 1) := by decide +kernel
theorem dX10_order_144 : decode cX10_order 144 = .ok (.iinc 2 1, 3) := by decide +kernel
theorem dX10_order_147 : decode cX10_order 147 = .ok (.goto (-21), 3) := by decide +kernel
theorem dX10_order_150 : decode cX10_order 150 = .ok (.aload_n 0, 1) := by decide +kernel
theorem dX10_order_151 : decode cX10_order 151 = .ok (.iconst 0, 1) := by decide +kernel
theorem dX10_order_152 : decode cX10_order 152 = .ok (.putfield 113, 3) := by decide +kernel
theorem dX10_order_155 : decode cX10_order 155 = .ok (.aload_n 0, 1) := by decide +kernel
theorem dX10_order_156 : decode cX10_order 156 = .ok (.getfield 24, 3) := by decide +kernel
theorem dX10_order_159 : decode cX10_order 159 = .ok (.iconst 0, 1) := by decide +kernel
theorem dX10_order_160 : decode cX10_order 160 = .ok (.iconst 0, 1) := by decide +kernel
theorem dX10_order_161 : decode cX10_order 161 = .ok (.bastore, 1) := by decide +kernel
theorem dX10_order_162 : decode cX10_order 162 = .ok (.aload_n 0, 1) := by decide +kernel
theorem dX10_order_163 : decode cX10_order 163 = .ok (.getfield 24, 3) := by decide +kernel
theorem dX10_order_166 : decode cX10_order 166 = .ok (.iconst 1, 1) := by decide +kernel
theorem dX10_order_167 : decode cX10_order 167 = .ok (.iconst 0, 1) := by decide +kernel
theorem dX10_order_168 : decode cX10_order 168 = .ok (.bastore, 1) := by decide +kernel
theorem dX10_order_169 : decode cX10_order 169 = .ok (.iload_n 1, 1) := by decide +kernel
theorem dX10_order_170 : decode cX10_order 170 = .ok (.ireturn, 1) := by decide +kernel
set_option maxRecDepth 20000 in
theorem ggX10_pairs_X10_has : GoodIn wsX10_pairs wsX10_has := goodIn_r _ [5] (by decide +kernel) (by decide +kernel)
set_option maxRecDepth 20000 in
theorem gX10_pairs_X10_has : GoodIn wsX10_pairs (va_wsS RX10 91 yX10_has wsX10_has) := goodIn_app (goodIn_of _ (by decide +kernel)) ggX10_pairs_X10_has
set_option maxRecDepth 20000 in
theorem ggX10_pairs_X10_above : GoodIn wsX10_pairs wsX10_above := goodIn_r _ [9, 1, 13, 14, 15, 16, 17, 18, 19, 20, 21, 22, 23, 24, 25, 26, 27, 28, 29, 30, 31, 32, 33, 34, 35, 36, 37, 38, 39, 40, 41, 42] (by decide +kernel) (by decide +kernel)
set_option maxRecDepth 20000 in
theorem gX10_pairs_X10_above : GoodIn wsX10_pairs (wsV RX10 102 RX10 yX10_above wsX10_above) := goodIn_app (goodIn_of _ (by decide +kernel)) ggX10_pairs_X10_above
set_option maxRecDepth 20000 in
theorem ggX10_pairs_X10_bits : GoodIn wsX10_pairs wsX10_bits := goodIn_r _ [12] (by decide +kernel) (by decide +kernel)
set_option maxRecDepth 20000 in
theorem gX10_pairs_X10_bits : GoodIn wsX10_pairs (va_wsS RX10 194 yX10_bits wsX10_bits) := goodIn_app (goodIn_of _ (by decide +kernel)) ggX10_pairs_X10_bits
theorem dX10_pairs_0 : decode cX10_pairs 0 = .ok (.iconst 0, 1) := by decide +kernel
theorem dX10_pairs_1 : decode cX10_pairs 1 = .ok (.istore_n 1, 1) := by decide +kernel
theorem dX10_pairs_2 : decode cX10_pairs 2 = .ok (.iconst 0, 1) := by decide +kernel
theorem dX10_pairs_3 : decode cX10_pairs 3 = .ok (.istore_n 2, 1) := by decide +kernel
theorem dX10_pairs_4 : decode cX10_pairs 4 = .ok (.iload_n 2, 1) := by decide +kernel
theorem dX10_pairs_5 : decode cX10_pairs 5 = .ok (.bipush 9, 2) := by decide +kernel
theorem dX10_pairs_7 : decode cX10_pairs 7 = .ok (.if_icmp .ge 37, 3) := by decide +kernel
theorem dX10_pairs_10 : decode cX10_pairs 10 = .ok (.iload_n 1, 1) := by decide +kernel
theorem dX10_pairs_11 : decode cX10_pairs 11 = .ok (.aload_n 0, 1) := by decide +kernel
theorem dX10_pairs_12 : decode cX10_pairs 12 = .ok (.getfield 9, 3) := by decide +kernel
theorem dX10_pairs_15 : decode cX10_pairs 15 = .ok (.iconst 1, 1) := by decide +kernel
theorem dX10_pairs_16 : decode cX10_pairs 16 = .ok (.iaload, 1) := by decide +kernel
theorem dX10_pairs_17 : decode cX10_pairs 17 = .ok (.iload_n 2, 1) := by decide +kernel
theorem dX10_pairs_18 : decode cX10_pairs 18 = .ok (.invokestatic 91, 3) := by decide +kernel
theorem dX10_pairs_21 : decode cX10_pairs 21 = .ok (.ifCond .eq 14, 3) := by decide +kernel
theorem dX10_pairs_24 : decode cX10_pairs 24 = .ok (.aload_n 0, 1) := by decide +kernel
theorem dX10_pairs_25 : decode cX10_pairs 25 = .ok (.iload_n 2, 1) := by decide +kernel
theorem dX10_pairs_26 : decode cX10_pairs 26 = .ok (.invokevirtual 102, 3) := by decide +kernel
theorem dX10_pairs_29 : decode cX10_pairs 29 = .ok (.invokestatic 194, 3) := by decide +kernel
theorem dX10_pairs_32 : decode cX10_pairs 32 = .ok (.goto 4, 3) := by decide +kernel
theorem dX10_pairs_35 : decode cX10_pairs 35 = .ok (.iconst 0, 1) := by decide +kernel
theorem dX10_pairs_36 : decode cX10_pairs 36 = .ok (.iadd, 1) := by decide +kernel
theorem dX10_pairs_37 : decode cX10_pairs 37 = .ok (.istore_n 1, 1) := by decide +kernel
theorem dX10_pairs_38 : decode cX10_pairs 38 = .ok (.iinc 2 1, 3) := by decide +kernel
theorem dX10_pairs_41 : decode cX10_pairs 41 = .ok (.goto (-37), 3) := by decide +kernel
theorem dX10_pairs_44 : decode cX10_pairs 44 = .ok (.iload_n 1, 1) := by decide +kernel
theorem dX10_pairs_45 : decode cX10_pairs 45 = .ok (.ireturn, 1) := by decide +kernel
set_option maxRecDepth 20000 in
theorem ggX10_relate_X10_areThere : GoodIn wsX10_relate wsX10_areThere := goodIn_r _ [7, 8, 9, 10, 6, 11, 12, 2, 13, 14, 15, 16, 17, 18, 43, 44, 45, 46, 47, 48, 49, 50, 51, 52, 53, 54, 55, 56, 57, 58, 59, 60, 61, 62, 63, 64, 65, 66, 67, 68, 69, 70, 71, 72] (by decide +kernel) (by decide +kernel)
set_option maxRecDepth 20000 in
theorem gX10_relate_X10_areThere : GoodIn wsX10_relate (wsV RX10 197 RX10 yX10_areThere wsX10_areThere) := goodIn_app (goodIn_of _ (by decide +kernel)) ggX10_relate_X10_areThere
set_option maxRecDepth 20000 in
theorem ggX10_relate_X10_isBelow : GoodIn wsX10_relate wsX10_isBelow := goodIn_r _ [22, 2, 16, 17, 6, 18, 43, 44, 45, 46, 47, 48, 49, 50, 51, 52, 53, 54, 55, 56, 57, 58, 59, 60, 61, 62, 63, 64, 65, 66, 67, 68, 69, 70, 71, 72] (by decide +kernel) (by decide +kernel)
set_option maxRecDepth 20000 in
theorem gX10_relate_X10_isBelow : GoodIn wsX10_relate (wsV RX10 99 RX10 yX10_isBelow wsX10_isBelow) := goodIn_app (goodIn_of _ (by decide +kernel)) ggX10_relate_X10_isBelow
set_option maxRecDepth 20000 in
theorem ggX10_relate_X10_remember : GoodIn wsX10_relate wsX10_remember := goodIn_r _ [26, 27, 28, 2, 43, 44, 45, 46, 47, 48, 49, 50, 51, 52, 53, 54, 55, 56, 57, 58, 59, 60, 61, 62, 63, 64, 65, 66, 67, 68, 69, 70, 71, 72] (by decide +kernel) (by decide +kernel)
set_option maxRecDepth 20000 in
theorem gX10_relate_X10_remember : GoodIn wsX10_relate (wsV RX10 200 RX10 yX10_remember wsX10_remember) := goodIn_app (goodIn_of _ (by decide +kernel)) ggX10_relate_X10_remember
set_option maxRecDepth 20000 in
theorem ggX10_relate_X10_relates : GoodIn wsX10_relate wsX10_relates := goodIn_r _ [31, 16, 17, 6, 18] (by decide +kernel) (by decide +kernel)
set_option maxRecDepth 20000 in
theorem gX10_relate_X10_relates : GoodIn wsX10_relate (va_wsS RX10 167 yX10_relates wsX10_relates) := goodIn_app (goodIn_of _ (by decide +kernel)) ggX10_relate_X10_relates
set_option maxRecDepth 20000 in
theorem ggX10_relate_X10_pairs : GoodIn wsX10_relate wsX10_pairs := goodIn_r _ [35, 2, 16, 17, 6, 18, 36, 37, 38, 39, 40, 41, 42, 43, 44, 45, 46, 47, 48, 49, 50, 51, 52, 53, 54, 55, 56, 57, 58, 59, 60, 61, 62, 63, 64, 65, 66, 67, 68, 69, 70, 71, 72] (by decide +kernel) (by decide +kernel)
set_option maxRecDepth 20000 in
theorem gX10_relate_X10_pairs : GoodIn wsX10_relate (wsV RX10 203 RX10 yX10_pairs wsX10_pairs) := goodIn_app (goodIn_of _ (by decide +kernel)) ggX10_relate_X10_pairs
theorem dX10_relate_0 : decode cX10_relate 0 = .ok (.aload_n 0, 1) := by decide +kernel
theorem dX10_relate_1 : decode cX10_relate 1 = .ok (.iconst 0, 1) := by decide +kernel
theorem dX10_relate_2 : decode cX10_relate 2 = .ok (.putfield 82, 3) := by decide +kernel
theorem dX10_relate_5 : decode cX10_relate 5 = .ok (.aload_n 0, 1) := by decide +kernel
theorem dX10_relate_6 : decode cX10_relate 6 = .ok (.iload_n 1, 1) := by decide +kernel
theorem dX10_relate_7 : decode cX10_relate 7 = .ok (.iload_n 2, 1) := by decide +kernel
theorem dX10_relate_8 : decode cX10_relate 8 = .ok (.invokevirtual 197, 3) := by decide +kernel
theorem dX10_relate_11 : decode cX10_relate 11 = .ok (.ifCond .ne 5, 3) := by decide +kernel
theorem dX10_relate_14 : decode cX10_relate 14 = .ok (.iconst (-1), 1) := by decide +kernel
theorem dX10_relate_15 : decode cX10_relate 15 = .ok (.ireturn, 1) := by decide +kernel
theorem dX10_relate_16 : decode cX10_relate 16 = .ok (.iload_n 1, 1) := by decide +kernel
theorem dX10_relate_17 : decode cX10_relate 17 = .ok (.iload_n 2, 1) := by decide +kernel
theorem dX10_relate_18 : decode cX10_relate 18 = .ok (.if_icmp .eq 12, 3) := by decide +kernel
theorem dX10_relate_21 : decode cX10_relate 21 = .ok (.aload_n 0, 1) := by decide +kernel
theorem dX10_relate_22 : decode cX10_relate 22 = .ok (.iload_n 2, 1) := by decide +kernel
theorem dX10_relate_23 : decode cX10_relate 23 = .ok (.iload_n 1, 1) := by decide +kernel
theorem dX10_relate_24 : decode cX10_relate 24 = .ok (.invokevirtual 99, 3) := by decide +kernel
theorem dX10_relate_27 : decode cX10_relate 27 = .ok (.ifCond .eq 6, 3) := by decide +kernel
theorem dX10_relate_30 : decode cX10_relate 30 = .ok (.bipush (-2), 2) := by decide +kernel
theorem dX10_relate_32 : decode cX10_relate 32 = .ok (.ireturn, 1) := by decide +kernel
theorem dX10_relate_33 : decode cX10_relate 33 = .ok (.aload_n 0, 1) := by decide +kernel
theorem dX10_relate_34 : decode cX10_relate 34 = .ok (.invokevirtual 200, 3) := by decide +kernel
theorem dX10_relate_37 : decode cX10_relate 37 = .ok (.aload_n 0, 1) := by decide +kernel
theorem dX10_relate_38 : decode cX10_relate 38 = .ok (.getfield 9, 3) := by decide +kernel
theorem dX10_relate_41 : decode cX10_relate 41 = .ok (.iload_n 1, 1) := by decide +kernel
theorem dX10_relate_42 : decode cX10_relate 42 = .ok (.iload_n 2, 1) := by decide +kernel
theorem dX10_relate_43 : decode cX10_relate 43 = .ok (.invokestatic 167, 3) := by decide +kernel
theorem dX10_relate_46 : decode cX10_relate 46 = .ok (.aload_n 0, 1) := by decide +kernel
theorem dX10_relate_47 : decode cX10_relate 47 = .ok (.invokevirtual 203, 3) := by decide +kernel
theorem dX10_relate_50 : decode cX10_relate 50 = .ok (.ireturn, 1) := by decide +kernel
set_option maxRecDepth 20000 in
theorem ggX10_lift_X10_areThere : GoodIn wsX10_lift wsX10_areThere := goodIn_r _ [8, 9, 10, 11, 7, 12, 13, 3, 14, 15, 16, 17, 18, 19, 30, 31, 32, 33, 34, 35, 36, 37, 38, 39, 40, 41, 42, 43, 44, 45, 46, 47, 48, 49, 50, 51, 52, 53, 54, 55, 56, 57, 58, 59] (by decide +kernel) (by decide +kernel)
set_option maxRecDepth 20000 in
theorem gX10_lift_X10_areThere : GoodIn wsX10_lift (wsV RX10 197 RX10 yX10_areThere wsX10_areThere) := goodIn_app (goodIn_of _ (by decide +kernel)) ggX10_lift_X10_areThere
set_option maxRecDepth 20000 in
theorem ggX10_lift_X10_isIn : GoodIn wsX10_lift wsX10_isIn := goodIn_r _ [16] (by decide +kernel) (by decide +kernel)
set_option maxRecDepth 20000 in
theorem gX10_lift_X10_isIn : GoodIn wsX10_lift (va_wsS RX10 87 yX10_isIn wsX10_isIn) := goodIn_app (goodIn_of _ (by decide +kernel)) ggX10_lift_X10_isIn
set_option maxRecDepth 20000 in
theorem ggX10_lift_X10_remember : GoodIn wsX10_lift wsX10_remember := goodIn_r _ [23, 24, 25, 3, 30, 31, 32, 33, 34, 35, 36, 37, 38, 39, 40, 41, 42, 43, 44, 45, 46, 47, 48, 49, 50, 51, 52, 53, 54, 55, 56, 57, 58, 59] (by decide +kernel) (by decide +kernel)
set_option maxRecDepth 20000 in
theorem gX10_lift_X10_remember : GoodIn wsX10_lift (wsV RX10 200 RX10 yX10_remember wsX10_remember) := goodIn_app (goodIn_of _ (by decide +kernel)) ggX10_lift_X10_remember
set_option maxRecDepth 20000 in
theorem ggX10_lift_X10_told : GoodIn wsX10_lift wsX10_told := goodIn_r _ [29, 3, 30, 31, 32, 33, 34, 35, 36, 37, 38, 39, 40, 41, 42, 43, 44, 45, 46, 47, 48, 49, 50, 51, 52, 53, 54, 55, 56, 57, 58, 59] (by decide +kernel) (by decide +kernel)
set_option maxRecDepth 20000 in
theorem gX10_lift_X10_told : GoodIn wsX10_lift (wsV RX10 109 RX10 yX10_told wsX10_told) := goodIn_app (goodIn_of _ (by decide +kernel)) ggX10_lift_X10_told
theorem dX10_lift_0 : decode cX10_lift 0 = .ok (.aload_n 0, 1) := by decide +kernel
theorem dX10_lift_1 : decode cX10_lift 1 = .ok (.iconst 0, 1) := by decide +kernel
theorem dX10_lift_2 : decode cX10_lift 2 = .ok (.putfield 82, 3) := by decide +kernel
theorem dX10_lift_5 : decode cX10_lift 5 = .ok (.aload_n 0, 1) := by decide +kernel
theorem dX10_lift_6 : decode cX10_lift 6 = .ok (.iload_n 1, 1) := by decide +kernel
theorem dX10_lift_7 : decode cX10_lift 7 = .ok (.iload_n 2, 1) := by decide +kernel
theorem dX10_lift_8 : decode cX10_lift 8 = .ok (.invokevirtual 197, 3) := by decide +kernel
theorem dX10_lift_11 : decode cX10_lift 11 = .ok (.ifCond .eq 20, 3) := by decide +kernel
theorem dX10_lift_14 : decode cX10_lift 14 = .ok (.iload_n 1, 1) := by decide +kernel
theorem dX10_lift_15 : decode cX10_lift 15 = .ok (.iload_n 2, 1) := by decide +kernel
theorem dX10_lift_16 : decode cX10_lift 16 = .ok (.if_icmp .eq 15, 3) := by decide +kernel
theorem dX10_lift_19 : decode cX10_lift 19 = .ok (.iload_n 3, 1) := by decide +kernel
theorem dX10_lift_20 : decode cX10_lift 20 = .ok (.i2l, 1) := by decide +kernel
theorem dX10_lift_21 : decode cX10_lift 21 = .ok (.lconst 0, 1) := by decide +kernel
theorem dX10_lift_22 : decode cX10_lift 22 = .ok (.ldc2_w 206, 3) := by decide +kernel
theorem dX10_lift_25 : decode cX10_lift 25 = .ok (.invokestatic 87, 3) := by decide +kernel
theorem dX10_lift_28 : decode cX10_lift 28 = .ok (.ifCond .ne 5, 3) := by decide +kernel
theorem dX10_lift_31 : decode cX10_lift 31 = .ok (.iconst (-1), 1) := by decide +kernel
theorem dX10_lift_32 : decode cX10_lift 32 = .ok (.ireturn, 1) := by decide +kernel
theorem dX10_lift_33 : decode cX10_lift 33 = .ok (.aload_n 0, 1) := by decide +kernel
theorem dX10_lift_34 : decode cX10_lift 34 = .ok (.invokevirtual 200, 3) := by decide +kernel
theorem dX10_lift_37 : decode cX10_lift 37 = .ok (.aload_n 0, 1) := by decide +kernel
theorem dX10_lift_38 : decode cX10_lift 38 = .ok (.iload_n 1, 1) := by decide +kernel
theorem dX10_lift_39 : decode cX10_lift 39 = .ok (.iload_n 2, 1) := by decide +kernel
theorem dX10_lift_40 : decode cX10_lift 40 = .ok (.invokevirtual 109, 3) := by decide +kernel
theorem dX10_lift_43 : decode cX10_lift 43 = .ok (.istore 4, 2) := by decide +kernel
theorem dX10_lift_45 : decode cX10_lift 45 = .ok (.aload_n 0, 1) := by decide +kernel
theorem dX10_lift_46 : decode cX10_lift 46 = .ok (.getfield 9, 3) := by decide +kernel
theorem dX10_lift_49 : decode cX10_lift 49 = .ok (.bipush 12, 2) := by decide +kernel
theorem dX10_lift_51 : decode cX10_lift 51 = .ok (.bipush 9, 2) := by decide +kernel
theorem dX10_lift_53 : decode cX10_lift 53 = .ok (.iload_n 1, 1) := by decide +kernel
theorem dX10_lift_54 : decode cX10_lift 54 = .ok (.imul, 1) := by decide +kernel
theorem dX10_lift_55 : decode cX10_lift 55 = .ok (.iadd, 1) := by decide +kernel
theorem dX10_lift_56 : decode cX10_lift 56 = .ok (.iload_n 2, 1) := by decide +kernel
theorem dX10_lift_57 : decode cX10_lift 57 = .ok (.iadd, 1) := by decide +kernel
theorem dX10_lift_58 : decode cX10_lift 58 = .ok (.iload_n 3, 1) := by decide +kernel
theorem dX10_lift_59 : decode cX10_lift 59 = .ok (.iastore, 1) := by decide +kernel
theorem dX10_lift_60 : decode cX10_lift 60 = .ok (.iload 4, 2) := by decide +kernel
theorem dX10_lift_62 : decode cX10_lift 62 = .ok (.ireturn, 1) := by decide +kernel
set_option maxRecDepth 20000 in
theorem ggX10_rule_X10_isTold : GoodIn wsX10_rule wsX10_isTold := goodIn_r _ [8, 3, 18, 19, 20, 21, 22, 23, 24, 25, 26, 27, 28, 29, 30, 31, 32, 33, 34, 35, 36, 37, 38, 39, 40, 41, 42, 43, 44, 45, 46, 47] (by decide +kernel) (by decide +kernel)
set_option maxRecDepth 20000 in
theorem gX10_rule_X10_isTold : GoodIn wsX10_rule (wsV RX10 208 RX10 yX10_isTold wsX10_isTold) := goodIn_app (goodIn_of _ (by decide +kernel)) ggX10_rule_X10_isTold
set_option maxRecDepth 20000 in
theorem ggX10_rule_X10_isIn : GoodIn wsX10_rule wsX10_isIn := goodIn_r _ [11] (by decide +kernel) (by decide +kernel)
set_option maxRecDepth 20000 in
theorem gX10_rule_X10_isIn : GoodIn wsX10_rule (va_wsS RX10 87 yX10_isIn wsX10_isIn) := goodIn_app (goodIn_of _ (by decide +kernel)) ggX10_rule_X10_isIn
set_option maxRecDepth 20000 in
theorem ggX10_rule_X10_remember : GoodIn wsX10_rule wsX10_remember := goodIn_r _ [15, 16, 17, 3, 18, 19, 20, 21, 22, 23, 24, 25, 26, 27, 28, 29, 30, 31, 32, 33, 34, 35, 36, 37, 38, 39, 40, 41, 42, 43, 44, 45, 46, 47] (by decide +kernel) (by decide +kernel)
set_option maxRecDepth 20000 in
theorem gX10_rule_X10_remember : GoodIn wsX10_rule (wsV RX10 200 RX10 yX10_remember wsX10_remember) := goodIn_app (goodIn_of _ (by decide +kernel)) ggX10_rule_X10_remember
theorem dX10_rule_0 : decode cX10_rule 0 = .ok (.aload_n 0, 1) := by decide +kernel
theorem dX10_rule_1 : decode cX10_rule 1 = .ok (.iconst 0, 1) := by decide +kernel
theorem dX10_rule_2 : decode cX10_rule 2 = .ok (.putfield 82, 3) := by decide +kernel
theorem dX10_rule_5 : decode cX10_rule 5 = .ok (.aload_n 0, 1) := by decide +kernel
theorem dX10_rule_6 : decode cX10_rule 6 = .ok (.invokevirtual 208, 3) := by decide +kernel
theorem dX10_rule_9 : decode cX10_rule 9 = .ok (.ifCond .eq 15, 3) := by decide +kernel
theorem dX10_rule_12 : decode cX10_rule 12 = .ok (.iload_n 1, 1) := by decide +kernel
theorem dX10_rule_13 : decode cX10_rule 13 = .ok (.i2l, 1) := by decide +kernel
theorem dX10_rule_14 : decode cX10_rule 14 = .ok (.lconst 0, 1) := by decide +kernel
theorem dX10_rule_15 : decode cX10_rule 15 = .ok (.ldc2_w 211, 3) := by decide +kernel
theorem dX10_rule_18 : decode cX10_rule 18 = .ok (.invokestatic 87, 3) := by decide +kernel
theorem dX10_rule_21 : decode cX10_rule 21 = .ok (.ifCond .ne 5, 3) := by decide +kernel
theorem dX10_rule_24 : decode cX10_rule 24 = .ok (.iconst (-1), 1) := by decide +kernel
theorem dX10_rule_25 : decode cX10_rule 25 = .ok (.ireturn, 1) := by decide +kernel
theorem dX10_rule_26 : decode cX10_rule 26 = .ok (.aload_n 0, 1) := by decide +kernel
theorem dX10_rule_27 : decode cX10_rule 27 = .ok (.invokevirtual 200, 3) := by decide +kernel
theorem dX10_rule_30 : decode cX10_rule 30 = .ok (.aload_n 0, 1) := by decide +kernel
theorem dX10_rule_31 : decode cX10_rule 31 = .ok (.getfield 9, 3) := by decide +kernel
theorem dX10_rule_34 : decode cX10_rule 34 = .ok (.iconst 2, 1) := by decide +kernel
theorem dX10_rule_35 : decode cX10_rule 35 = .ok (.iaload, 1) := by decide +kernel
theorem dX10_rule_36 : decode cX10_rule 36 = .ok (.istore_n 2, 1) := by decide +kernel
theorem dX10_rule_37 : decode cX10_rule 37 = .ok (.aload_n 0, 1) := by decide +kernel
theorem dX10_rule_38 : decode cX10_rule 38 = .ok (.getfield 9, 3) := by decide +kernel
theorem dX10_rule_41 : decode cX10_rule 41 = .ok (.iconst 2, 1) := by decide +kernel
theorem dX10_rule_42 : decode cX10_rule 42 = .ok (.iload_n 1, 1) := by decide +kernel
theorem dX10_rule_43 : decode cX10_rule 43 = .ok (.iastore, 1) := by decide +kernel
theorem dX10_rule_44 : decode cX10_rule 44 = .ok (.iload_n 2, 1) := by decide +kernel
theorem dX10_rule_45 : decode cX10_rule 45 = .ok (.ireturn, 1) := by decide +kernel
set_option maxRecDepth 20000 in
theorem ggX10_drop_X10_isThere : GoodIn wsX10_drop wsX10_isThere := goodIn_r _ [7, 8, 2, 9, 10, 6, 11, 12, 13, 14, 24, 25, 26, 27, 28, 29, 30, 31, 32, 33, 34, 35, 36, 37, 38, 39, 40, 41, 42, 43, 44, 45, 46, 47, 48, 49, 50, 51, 52, 53] (by decide +kernel) (by decide +kernel)
set_option maxRecDepth 20000 in
theorem gX10_drop_X10_isThere : GoodIn wsX10_drop (wsV RX10 95 RX10 yX10_isThere wsX10_isThere) := goodIn_app (goodIn_of _ (by decide +kernel)) ggX10_drop_X10_isThere
set_option maxRecDepth 20000 in
theorem ggX10_drop_X10_bits : GoodIn wsX10_drop wsX10_bits := goodIn_r _ [17] (by decide +kernel) (by decide +kernel)
set_option maxRecDepth 20000 in
theorem gX10_drop_X10_bits : GoodIn wsX10_drop (va_wsS RX10 194 yX10_bits wsX10_bits) := goodIn_app (goodIn_of _ (by decide +kernel)) ggX10_drop_X10_bits
set_option maxRecDepth 20000 in
theorem ggX10_drop_X10_remember : GoodIn wsX10_drop wsX10_remember := goodIn_r _ [21, 22, 23, 2, 24, 25, 26, 27, 28, 29, 30, 31, 32, 33, 34, 35, 36, 37, 38, 39, 40, 41, 42, 43, 44, 45, 46, 47, 48, 49, 50, 51, 52, 53] (by decide +kernel) (by decide +kernel)
set_option maxRecDepth 20000 in
theorem gX10_drop_X10_remember : GoodIn wsX10_drop (wsV RX10 200 RX10 yX10_remember wsX10_remember) := goodIn_app (goodIn_of _ (by decide +kernel)) ggX10_drop_X10_remember
theorem dX10_drop_0 : decode cX10_drop 0 = .ok (.aload_n 0, 1) := by decide +kernel
theorem dX10_drop_1 : decode cX10_drop 1 = .ok (.iconst 0, 1) := by decide +kernel
theorem dX10_drop_2 : decode cX10_drop 2 = .ok (.putfield 82, 3) := by decide +kernel
theorem dX10_drop_5 : decode cX10_drop 5 = .ok (.aload_n 0, 1) := by decide +kernel
theorem dX10_drop_6 : decode cX10_drop 6 = .ok (.iload_n 1, 1) := by decide +kernel
theorem dX10_drop_7 : decode cX10_drop 7 = .ok (.invokevirtual 95, 3) := by decide +kernel
theorem dX10_drop_10 : decode cX10_drop 10 = .ok (.ifCond .ne 5, 3) := by decide +kernel
theorem dX10_drop_13 : decode cX10_drop 13 = .ok (.iconst (-1), 1) := by decide +kernel
theorem dX10_drop_14 : decode cX10_drop 14 = .ok (.ireturn, 1) := by decide +kernel
theorem dX10_drop_15 : decode cX10_drop 15 = .ok (.aload_n 0, 1) := by decide +kernel
theorem dX10_drop_16 : decode cX10_drop 16 = .ok (.getfield 9, 3) := by decide +kernel
theorem dX10_drop_19 : decode cX10_drop 19 = .ok (.iconst 1, 1) := by decide +kernel
theorem dX10_drop_20 : decode cX10_drop 20 = .ok (.iaload, 1) := by decide +kernel
theorem dX10_drop_21 : decode cX10_drop 21 = .ok (.invokestatic 194, 3) := by decide +kernel
theorem dX10_drop_24 : decode cX10_drop 24 = .ok (.iconst 1, 1) := by decide +kernel
theorem dX10_drop_25 : decode cX10_drop 25 = .ok (.if_icmp .ne 6, 3) := by decide +kernel
theorem dX10_drop_28 : decode cX10_drop 28 = .ok (.bipush (-2), 2) := by decide +kernel
theorem dX10_drop_30 : decode cX10_drop 30 = .ok (.ireturn, 1) := by decide +kernel
theorem dX10_drop_31 : decode cX10_drop 31 = .ok (.aload_n 0, 1) := by decide +kernel
theorem dX10_drop_32 : decode cX10_drop 32 = .ok (.invokevirtual 200, 3) := by decide +kernel
theorem dX10_drop_35 : decode cX10_drop 35 = .ok (.aload_n 0, 1) := by decide +kernel
theorem dX10_drop_36 : decode cX10_drop 36 = .ok (.getfield 9, 3) := by decide +kernel
theorem dX10_drop_39 : decode cX10_drop 39 = .ok (.iconst 1, 1) := by decide +kernel
theorem dX10_drop_40 : decode cX10_drop 40 = .ok (.dup2, 1) := by decide +kernel
theorem dX10_drop_41 : decode cX10_drop 41 = .ok (.iaload, 1) := by decide +kernel
theorem dX10_drop_42 : decode cX10_drop 42 = .ok (.iconst 1, 1) := by decide +kernel
theorem dX10_drop_43 : decode cX10_drop 43 = .ok (.iload_n 1, 1) := by decide +kernel
theorem dX10_drop_44 : decode cX10_drop 44 = .ok (.ishl, 1) := by decide +kernel
theorem dX10_drop_45 : decode cX10_drop 45 = .ok (.ixor, 1) := by decide +kernel
theorem dX10_drop_46 : decode cX10_drop 46 = .ok (.iastore, 1) := by decide +kernel
theorem dX10_drop_47 : decode cX10_drop 47 = .ok (.aload_n 0, 1) := by decide +kernel
theorem dX10_drop_48 : decode cX10_drop 48 = .ok (.getfield 9, 3) := by decide +kernel
theorem dX10_drop_51 : decode cX10_drop 51 = .ok (.iconst 1, 1) := by decide +kernel
theorem dX10_drop_52 : decode cX10_drop 52 = .ok (.iaload, 1) := by decide +kernel
theorem dX10_drop_53 : decode cX10_drop 53 = .ok (.invokestatic 194, 3) := by decide +kernel
theorem dX10_drop_56 : decode cX10_drop 56 = .ok (.ireturn, 1) := by decide +kernel
set_option maxRecDepth 20000 in
theorem ggX10_undo_X10_isTold : GoodIn wsX10_undo wsX10_isTold := goodIn_r _ [9, 3, 10, 11, 12, 13, 14, 15, 16, 17, 18, 19, 20, 21, 22, 23, 24, 25, 26, 27, 28, 29, 30, 31, 32, 33, 34, 35, 36, 37, 38, 39] (by decide +kernel) (by decide +kernel)
set_option maxRecDepth 20000 in
theorem gX10_undo_X10_isTold : GoodIn wsX10_undo (wsV RX10 208 RX10 yX10_isTold wsX10_isTold) := goodIn_app (goodIn_of _ (by decide +kernel)) ggX10_undo_X10_isTold
theorem dX10_undo_0 : decode cX10_undo 0 = .ok (.aload_n 0, 1) := by decide +kernel
theorem dX10_undo_1 : decode cX10_undo 1 = .ok (.iconst 0, 1) := by decide +kernel
theorem dX10_undo_2 : decode cX10_undo 2 = .ok (.putfield 82, 3) := by decide +kernel
theorem dX10_undo_5 : decode cX10_undo 5 = .ok (.aload_n 0, 1) := by decide +kernel
theorem dX10_undo_6 : decode cX10_undo 6 = .ok (.invokevirtual 208, 3) := by decide +kernel
theorem dX10_undo_9 : decode cX10_undo 9 = .ok (.ifCond .ne 5, 3) := by decide +kernel
theorem dX10_undo_12 : decode cX10_undo 12 = .ok (.iconst (-1), 1) := by decide +kernel
theorem dX10_undo_13 : decode cX10_undo 13 = .ok (.ireturn, 1) := by decide +kernel
theorem dX10_undo_14 : decode cX10_undo 14 = .ok (.aload_n 0, 1) := by decide +kernel
theorem dX10_undo_15 : decode cX10_undo 15 = .ok (.getfield 113, 3) := by decide +kernel
theorem dX10_undo_18 : decode cX10_undo 18 = .ok (.ifCond .ne 6, 3) := by decide +kernel
theorem dX10_undo_21 : decode cX10_undo 21 = .ok (.bipush (-2), 2) := by decide +kernel
theorem dX10_undo_23 : decode cX10_undo 23 = .ok (.ireturn, 1) := by decide +kernel
theorem dX10_undo_24 : decode cX10_undo 24 = .ok (.aload_n 0, 1) := by decide +kernel
theorem dX10_undo_25 : decode cX10_undo 25 = .ok (.dup, 1) := by decide +kernel
theorem dX10_undo_26 : decode cX10_undo 26 = .ok (.getfield 113, 3) := by decide +kernel
theorem dX10_undo_29 : decode cX10_undo 29 = .ok (.iconst 1, 1) := by decide +kernel
theorem dX10_undo_30 : decode cX10_undo 30 = .ok (.isub, 1) := by decide +kernel
theorem dX10_undo_31 : decode cX10_undo 31 = .ok (.putfield 113, 3) := by decide +kernel
theorem dX10_undo_34 : decode cX10_undo 34 = .ok (.iconst 0, 1) := by decide +kernel
theorem dX10_undo_35 : decode cX10_undo 35 = .ok (.istore_n 1, 1) := by decide +kernel
theorem dX10_undo_36 : decode cX10_undo 36 = .ok (.iload_n 1, 1) := by decide +kernel
theorem dX10_undo_37 : decode cX10_undo 37 = .ok (.bipush 93, 2) := by decide +kernel
theorem dX10_undo_39 : decode cX10_undo 39 = .ok (.if_icmp .ge 29, 3) := by decide +kernel
theorem dX10_undo_42 : decode cX10_undo 42 = .ok (.aload_n 0, 1) := by decide +kernel
theorem dX10_undo_43 : decode cX10_undo 43 = .ok (.getfield 9, 3) := by decide +kernel
theorem dX10_undo_46 : decode cX10_undo 46 = .ok (.iload_n 1, 1) := by decide +kernel
theorem dX10_undo_47 : decode cX10_undo 47 = .ok (.aload_n 0, 1) := by decide +kernel
theorem dX10_undo_48 : decode cX10_undo 48 = .ok (.getfield 18, 3) := by decide +kernel
theorem dX10_undo_51 : decode cX10_undo 51 = .ok (.bipush 93, 2) := by decide +kernel
theorem dX10_undo_53 : decode cX10_undo 53 = .ok (.aload_n 0, 1) := by decide +kernel
theorem dX10_undo_54 : decode cX10_undo 54 = .ok (.getfield 113, 3) := by decide +kernel
theorem dX10_undo_57 : decode cX10_undo 57 = .ok (.imul, 1) := by decide +kernel
theorem dX10_undo_58 : decode cX10_undo 58 = .ok (.iload_n 1, 1) := by decide +kernel
theorem dX10_undo_59 : decode cX10_undo 59 = .ok (.iadd, 1) := by decide +kernel
theorem dX10_undo_60 : decode cX10_undo 60 = .ok (.iaload, 1) := by decide +kernel
theorem dX10_undo_61 : decode cX10_undo 61 = .ok (.iastore, 1) := by decide +kernel
theorem dX10_undo_62 : decode cX10_undo 62 = .ok (.iinc 1 1, 3) := by decide +kernel
theorem dX10_undo_65 : decode cX10_undo 65 = .ok (.goto (-29), 3) := by decide +kernel
theorem dX10_undo_68 : decode cX10_undo 68 = .ok (.aload_n 0, 1) := by decide +kernel
theorem dX10_undo_69 : decode cX10_undo 69 = .ok (.getfield 113, 3) := by decide +kernel
theorem dX10_undo_72 : decode cX10_undo 72 = .ok (.ireturn, 1) := by decide +kernel
set_option maxRecDepth 20000 in
theorem ggX10_keep_X10_isIn : GoodIn wsX10_keep wsX10_isIn := goodIn_r _ [8] (by decide +kernel) (by decide +kernel)
set_option maxRecDepth 20000 in
theorem gX10_keep_X10_isIn : GoodIn wsX10_keep (va_wsS RX10 87 yX10_isIn wsX10_isIn) := goodIn_app (goodIn_of _ (by decide +kernel)) ggX10_keep_X10_isIn
set_option maxRecDepth 20000 in
theorem ggX10_keep_X10_isTold : GoodIn wsX10_keep wsX10_isTold := goodIn_r _ [12, 3, 13, 14, 15, 16, 17, 18, 19, 20, 21, 22, 23, 24, 25, 26, 27, 28, 29, 30, 31, 32, 33, 34, 35, 36, 37, 38, 39, 40, 41, 42] (by decide +kernel) (by decide +kernel)
set_option maxRecDepth 20000 in
theorem gX10_keep_X10_isTold : GoodIn wsX10_keep (wsV RX10 208 RX10 yX10_isTold wsX10_isTold) := goodIn_app (goodIn_of _ (by decide +kernel)) ggX10_keep_X10_isTold
theorem dX10_keep_0 : decode cX10_keep 0 = .ok (.aload_n 0, 1) := by decide +kernel
theorem dX10_keep_1 : decode cX10_keep 1 = .ok (.iconst 0, 1) := by decide +kernel
theorem dX10_keep_2 : decode cX10_keep 2 = .ok (.putfield 82, 3) := by decide +kernel
theorem dX10_keep_5 : decode cX10_keep 5 = .ok (.iload_n 1, 1) := by decide +kernel
theorem dX10_keep_6 : decode cX10_keep 6 = .ok (.i2l, 1) := by decide +kernel
theorem dX10_keep_7 : decode cX10_keep 7 = .ok (.lconst 0, 1) := by decide +kernel
theorem dX10_keep_8 : decode cX10_keep 8 = .ok (.lconst 1, 1) := by decide +kernel
theorem dX10_keep_9 : decode cX10_keep 9 = .ok (.invokestatic 87, 3) := by decide +kernel
theorem dX10_keep_12 : decode cX10_keep 12 = .ok (.ifCond .eq 10, 3) := by decide +kernel
theorem dX10_keep_15 : decode cX10_keep 15 = .ok (.aload_n 0, 1) := by decide +kernel
theorem dX10_keep_16 : decode cX10_keep 16 = .ok (.invokevirtual 208, 3) := by decide +kernel
theorem dX10_keep_19 : decode cX10_keep 19 = .ok (.ifCond .ne 5, 3) := by decide +kernel
theorem dX10_keep_22 : decode cX10_keep 22 = .ok (.iconst 0, 1) := by decide +kernel
theorem dX10_keep_23 : decode cX10_keep 23 = .ok (.ireturn, 1) := by decide +kernel
theorem dX10_keep_24 : decode cX10_keep 24 = .ok (.iconst 0, 1) := by decide +kernel
theorem dX10_keep_25 : decode cX10_keep 25 = .ok (.istore_n 2, 1) := by decide +kernel
theorem dX10_keep_26 : decode cX10_keep 26 = .ok (.iload_n 2, 1) := by decide +kernel
theorem dX10_keep_27 : decode cX10_keep 27 = .ok (.bipush 93, 2) := by decide +kernel
theorem dX10_keep_29 : decode cX10_keep 29 = .ok (.if_icmp .ge 26, 3) := by decide +kernel
theorem dX10_keep_32 : decode cX10_keep 32 = .ok (.aload_n 0, 1) := by decide +kernel
theorem dX10_keep_33 : decode cX10_keep 33 = .ok (.getfield 21, 3) := by decide +kernel
theorem dX10_keep_36 : decode cX10_keep 36 = .ok (.bipush 93, 2) := by decide +kernel
theorem dX10_keep_38 : decode cX10_keep 38 = .ok (.iload_n 1, 1) := by decide +kernel
theorem dX10_keep_39 : decode cX10_keep 39 = .ok (.imul, 1) := by decide +kernel
theorem dX10_keep_40 : decode cX10_keep 40 = .ok (.iload_n 2, 1) := by decide +kernel
theorem dX10_keep_41 : decode cX10_keep 41 = .ok (.iadd, 1) := by decide +kernel
theorem dX10_keep_42 : decode cX10_keep 42 = .ok (.aload_n 0, 1) := by decide +kernel
theorem dX10_keep_43 : decode cX10_keep 43 = .ok (.getfield 9, 3) := by decide +kernel
theorem dX10_keep_46 : decode cX10_keep 46 = .ok (.iload_n 2, 1) := by decide +kernel
theorem dX10_keep_47 : decode cX10_keep 47 = .ok (.iaload, 1) := by decide +kernel
theorem dX10_keep_48 : decode cX10_keep 48 = .ok (.iastore, 1) := by decide +kernel
theorem dX10_keep_49 : decode cX10_keep 49 = .ok (.iinc 2 1, 3) := by decide +kernel
theorem dX10_keep_52 : decode cX10_keep 52 = .ok (.goto (-26), 3) := by decide +kernel
theorem dX10_keep_55 : decode cX10_keep 55 = .ok (.aload_n 0, 1) := by decide +kernel
theorem dX10_keep_56 : decode cX10_keep 56 = .ok (.getfield 24, 3) := by decide +kernel
theorem dX10_keep_59 : decode cX10_keep 59 = .ok (.iload_n 1, 1) := by decide +kernel
theorem dX10_keep_60 : decode cX10_keep 60 = .ok (.iconst 1, 1) := by decide +kernel
theorem dX10_keep_61 : decode cX10_keep 61 = .ok (.bastore, 1) := by decide +kernel
theorem dX10_keep_62 : decode cX10_keep 62 = .ok (.iconst 1, 1) := by decide +kernel
theorem dX10_keep_63 : decode cX10_keep 63 = .ok (.ireturn, 1) := by decide +kernel
set_option maxRecDepth 20000 in
theorem ggX10_again_X10_isIn : GoodIn wsX10_again wsX10_isIn := goodIn_r _ [8] (by decide +kernel) (by decide +kernel)
set_option maxRecDepth 20000 in
theorem gX10_again_X10_isIn : GoodIn wsX10_again (va_wsS RX10 87 yX10_isIn wsX10_isIn) := goodIn_app (goodIn_of _ (by decide +kernel)) ggX10_again_X10_isIn
set_option maxRecDepth 20000 in
theorem ggX10_again_X10_remember : GoodIn wsX10_again wsX10_remember := goodIn_r _ [12, 13, 14, 3, 15, 16, 17, 18, 19, 20, 21, 22, 23, 24, 25, 26, 27, 28, 29, 30, 31, 32, 33, 34, 35, 36, 37, 38, 39, 40, 41, 42, 43, 44] (by decide +kernel) (by decide +kernel)
set_option maxRecDepth 20000 in
theorem gX10_again_X10_remember : GoodIn wsX10_again (wsV RX10 200 RX10 yX10_remember wsX10_remember) := goodIn_app (goodIn_of _ (by decide +kernel)) ggX10_again_X10_remember
theorem dX10_again_0 : decode cX10_again 0 = .ok (.aload_n 0, 1) := by decide +kernel
theorem dX10_again_1 : decode cX10_again 1 = .ok (.iconst 0, 1) := by decide +kernel
theorem dX10_again_2 : decode cX10_again 2 = .ok (.putfield 82, 3) := by decide +kernel
theorem dX10_again_5 : decode cX10_again 5 = .ok (.iload_n 1, 1) := by decide +kernel
theorem dX10_again_6 : decode cX10_again 6 = .ok (.i2l, 1) := by decide +kernel
theorem dX10_again_7 : decode cX10_again 7 = .ok (.lconst 0, 1) := by decide +kernel
theorem dX10_again_8 : decode cX10_again 8 = .ok (.lconst 1, 1) := by decide +kernel
theorem dX10_again_9 : decode cX10_again 9 = .ok (.invokestatic 87, 3) := by decide +kernel
theorem dX10_again_12 : decode cX10_again 12 = .ok (.ifCond .eq 12, 3) := by decide +kernel
theorem dX10_again_15 : decode cX10_again 15 = .ok (.aload_n 0, 1) := by decide +kernel
theorem dX10_again_16 : decode cX10_again 16 = .ok (.getfield 24, 3) := by decide +kernel
theorem dX10_again_19 : decode cX10_again 19 = .ok (.iload_n 1, 1) := by decide +kernel
theorem dX10_again_20 : decode cX10_again 20 = .ok (.baload, 1) := by decide +kernel
theorem dX10_again_21 : decode cX10_again 21 = .ok (.ifCond .ne 5, 3) := by decide +kernel
theorem dX10_again_24 : decode cX10_again 24 = .ok (.iconst 0, 1) := by decide +kernel
theorem dX10_again_25 : decode cX10_again 25 = .ok (.ireturn, 1) := by decide +kernel
theorem dX10_again_26 : decode cX10_again 26 = .ok (.aload_n 0, 1) := by decide +kernel
theorem dX10_again_27 : decode cX10_again 27 = .ok (.invokevirtual 200, 3) := by decide +kernel
theorem dX10_again_30 : decode cX10_again 30 = .ok (.iconst 0, 1) := by decide +kernel
theorem dX10_again_31 : decode cX10_again 31 = .ok (.istore_n 2, 1) := by decide +kernel
theorem dX10_again_32 : decode cX10_again 32 = .ok (.iload_n 2, 1) := by decide +kernel
theorem dX10_again_33 : decode cX10_again 33 = .ok (.bipush 93, 2) := by decide +kernel
theorem dX10_again_35 : decode cX10_again 35 = .ok (.if_icmp .ge 26, 3) := by decide +kernel
theorem dX10_again_38 : decode cX10_again 38 = .ok (.aload_n 0, 1) := by decide +kernel
theorem dX10_again_39 : decode cX10_again 39 = .ok (.getfield 9, 3) := by decide +kernel
theorem dX10_again_42 : decode cX10_again 42 = .ok (.iload_n 2, 1) := by decide +kernel
theorem dX10_again_43 : decode cX10_again 43 = .ok (.aload_n 0, 1) := by decide +kernel
theorem dX10_again_44 : decode cX10_again 44 = .ok (.getfield 21, 3) := by decide +kernel
theorem dX10_again_47 : decode cX10_again 47 = .ok (.bipush 93, 2) := by decide +kernel
theorem dX10_again_49 : decode cX10_again 49 = .ok (.iload_n 1, 1) := by decide +kernel
theorem dX10_again_50 : decode cX10_again 50 = .ok (.imul, 1) := by decide +kernel
theorem dX10_again_51 : decode cX10_again 51 = .ok (.iload_n 2, 1) := by decide +kernel
theorem dX10_again_52 : decode cX10_again 52 = .ok (.iadd, 1) := by decide +kernel
theorem dX10_again_53 : decode cX10_again 53 = .ok (.iaload, 1) := by decide +kernel
theorem dX10_again_54 : decode cX10_again 54 = .ok (.iastore, 1) := by decide +kernel
theorem dX10_again_55 : decode cX10_again 55 = .ok (.iinc 2 1, 3) := by decide +kernel
theorem dX10_again_58 : decode cX10_again 58 = .ok (.goto (-26), 3) := by decide +kernel
theorem dX10_again_61 : decode cX10_again 61 = .ok (.iconst 1, 1) := by decide +kernel
theorem dX10_again_62 : decode cX10_again 62 = .ok (.ireturn, 1) := by decide +kernel
set_option maxRecDepth 20000 in
theorem ggX10_coverers_X10_has : GoodIn wsX10_coverers wsX10_has := goodIn_r _ [5] (by decide +kernel) (by decide +kernel)
set_option maxRecDepth 20000 in
theorem gX10_coverers_X10_has : GoodIn wsX10_coverers (va_wsS RX10 91 yX10_has wsX10_has) := goodIn_app (goodIn_of _ (by decide +kernel)) ggX10_coverers_X10_has
set_option maxRecDepth 20000 in
theorem ggX10_coverers_X10_covers : GoodIn wsX10_coverers wsX10_covers := goodIn_r _ [9, 10, 11, 12, 4, 13, 1, 2, 3, 5, 14, 15, 16, 17, 18, 19, 20, 21, 22, 23, 24, 25, 26, 27, 28, 29, 30, 31, 32, 33, 34, 35, 36, 37, 38, 39, 40, 41, 42, 43, 44, 45, 46, 47, 48, 49, 50, 51] (by decide +kernel) (by decide +kernel)
set_option maxRecDepth 20000 in
theorem gX10_coverers_X10_covers : GoodIn wsX10_coverers (wsV RX10 213 RX10 yX10_covers wsX10_covers) := goodIn_app (goodIn_of _ (by decide +kernel)) ggX10_coverers_X10_covers
theorem dX10_coverers_0 : decode cX10_coverers 0 = .ok (.iconst 0, 1) := by decide +kernel
theorem dX10_coverers_1 : decode cX10_coverers 1 = .ok (.istore_n 2, 1) := by decide +kernel
theorem dX10_coverers_2 : decode cX10_coverers 2 = .ok (.iconst 0, 1) := by decide +kernel
theorem dX10_coverers_3 : decode cX10_coverers 3 = .ok (.istore_n 3, 1) := by decide +kernel
theorem dX10_coverers_4 : decode cX10_coverers 4 = .ok (.iload_n 3, 1) := by decide +kernel
theorem dX10_coverers_5 : decode cX10_coverers 5 = .ok (.bipush 9, 2) := by decide +kernel
theorem dX10_coverers_7 : decode cX10_coverers 7 = .ok (.if_icmp .ge 41, 3) := by decide +kernel
theorem dX10_coverers_10 : decode cX10_coverers 10 = .ok (.iload_n 2, 1) := by decide +kernel
theorem dX10_coverers_11 : decode cX10_coverers 11 = .ok (.aload_n 0, 1) := by decide +kernel
theorem dX10_coverers_12 : decode cX10_coverers 12 = .ok (.getfield 9, 3) := by decide +kernel
theorem dX10_coverers_15 : decode cX10_coverers 15 = .ok (.iconst 1, 1) := by decide +kernel
theorem dX10_coverers_16 : decode cX10_coverers 16 = .ok (.iaload, 1) := by decide +kernel
theorem dX10_coverers_17 : decode cX10_coverers 17 = .ok (.iload_n 3, 1) := by decide +kernel
theorem dX10_coverers_18 : decode cX10_coverers 18 = .ok (.invokestatic 91, 3) := by decide +kernel
theorem dX10_coverers_21 : decode cX10_coverers 21 = .ok (.ifCond .eq 18, 3) := by decide +kernel
theorem dX10_coverers_24 : decode cX10_coverers 24 = .ok (.aload_n 0, 1) := by decide +kernel
theorem dX10_coverers_25 : decode cX10_coverers 25 = .ok (.iload_n 3, 1) := by decide +kernel
theorem dX10_coverers_26 : decode cX10_coverers 26 = .ok (.iload_n 1, 1) := by decide +kernel
theorem dX10_coverers_27 : decode cX10_coverers 27 = .ok (.invokevirtual 213, 3) := by decide +kernel
theorem dX10_coverers_30 : decode cX10_coverers 30 = .ok (.ifCond .eq 9, 3) := by decide +kernel
theorem dX10_coverers_33 : decode cX10_coverers 33 = .ok (.iconst 1, 1) := by decide +kernel
theorem dX10_coverers_34 : decode cX10_coverers 34 = .ok (.iload_n 3, 1) := by decide +kernel
theorem dX10_coverers_35 : decode cX10_coverers 35 = .ok (.ishl, 1) := by decide +kernel
theorem dX10_coverers_36 : decode cX10_coverers 36 = .ok (.goto 4, 3) := by decide +kernel
theorem dX10_coverers_39 : decode cX10_coverers 39 = .ok (.iconst 0, 1) := by decide +kernel
theorem dX10_coverers_40 : decode cX10_coverers 40 = .ok (.ior, 1) := by decide +kernel
theorem dX10_coverers_41 : decode cX10_coverers 41 = .ok (.istore_n 2, 1) := by decide +kernel
theorem dX10_coverers_42 : decode cX10_coverers 42 = .ok (.iinc 3 1, 3) := by decide +kernel
theorem dX10_coverers_45 : decode cX10_coverers 45 = .ok (.goto (-41), 3) := by decide +kernel
theorem dX10_coverers_48 : decode cX10_coverers 48 = .ok (.iload_n 2, 1) := by decide +kernel
theorem dX10_coverers_49 : decode cX10_coverers 49 = .ok (.ireturn, 1) := by decide +kernel
set_option maxRecDepth 20000 in
theorem ggX10_covered_X10_has : GoodIn wsX10_covered wsX10_has := goodIn_r _ [5] (by decide +kernel) (by decide +kernel)
set_option maxRecDepth 20000 in
theorem gX10_covered_X10_has : GoodIn wsX10_covered (va_wsS RX10 91 yX10_has wsX10_has) := goodIn_app (goodIn_of _ (by decide +kernel)) ggX10_covered_X10_has
set_option maxRecDepth 20000 in
theorem ggX10_covered_X10_covers : GoodIn wsX10_covered wsX10_covers := goodIn_r _ [9, 10, 11, 12, 4, 13, 1, 2, 3, 5, 14, 15, 16, 17, 18, 19, 20, 21, 22, 23, 24, 25, 26, 27, 28, 29, 30, 31, 32, 33, 34, 35, 36, 37, 38, 39, 40, 41, 42, 43, 44, 45, 46, 47, 48, 49, 50, 51] (by decide +kernel) (by decide +kernel)
set_option maxRecDepth 20000 in
theorem gX10_covered_X10_covers : GoodIn wsX10_covered (wsV RX10 213 RX10 yX10_covers wsX10_covers) := goodIn_app (goodIn_of _ (by decide +kernel)) ggX10_covered_X10_covers
theorem dX10_covered_0 : decode cX10_covered 0 = .ok (.iconst 0, 1) := by decide +kernel
theorem dX10_covered_1 : decode cX10_covered 1 = .ok (.istore_n 2, 1) := by decide +kernel
theorem dX10_covered_2 : decode cX10_covered 2 = .ok (.iconst 0, 1) := by decide +kernel
theorem dX10_covered_3 : decode cX10_covered 3 = .ok (.istore_n 3, 1) := by decide +kernel
theorem dX10_covered_4 : decode cX10_covered 4 = .ok (.iload_n 3, 1) := by decide +kernel
theorem dX10_covered_5 : decode cX10_covered 5 = .ok (.bipush 9, 2) := by decide +kernel
theorem dX10_covered_7 : decode cX10_covered 7 = .ok (.if_icmp .ge 41, 3) := by decide +kernel
theorem dX10_covered_10 : decode cX10_covered 10 = .ok (.iload_n 2, 1) := by decide +kernel
theorem dX10_covered_11 : decode cX10_covered 11 = .ok (.aload_n 0, 1) := by decide +kernel
theorem dX10_covered_12 : decode cX10_covered 12 = .ok (.getfield 9, 3) := by decide +kernel
theorem dX10_covered_15 : decode cX10_covered 15 = .ok (.iconst 1, 1) := by decide +kernel
theorem dX10_covered_16 : decode cX10_covered 16 = .ok (.iaload, 1) := by decide +kernel
theorem dX10_covered_17 : decode cX10_covered 17 = .ok (.iload_n 3, 1) := by decide +kernel
theorem dX10_covered_18 : decode cX10_covered 18 = .ok (.invokestatic 91, 3) := by decide +kernel
theorem dX10_covered_21 : decode cX10_covered 21 = .ok (.ifCond .eq 18, 3) := by decide +kernel
theorem dX10_covered_24 : decode cX10_covered 24 = .ok (.aload_n 0, 1) := by decide +kernel
theorem dX10_covered_25 : decode cX10_covered 25 = .ok (.iload_n 1, 1) := by decide +kernel
theorem dX10_covered_26 : decode cX10_covered 26 = .ok (.iload_n 3, 1) := by decide +kernel
theorem dX10_covered_27 : decode cX10_covered 27 = .ok (.invokevirtual 213, 3) := by decide +kernel
theorem dX10_covered_30 : decode cX10_covered 30 = .ok (.ifCond .eq 9, 3) := by decide +kernel
theorem dX10_covered_33 : decode cX10_covered 33 = .ok (.iconst 1, 1) := by decide +kernel
theorem dX10_covered_34 : decode cX10_covered 34 = .ok (.iload_n 3, 1) := by decide +kernel
theorem dX10_covered_35 : decode cX10_covered 35 = .ok (.ishl, 1) := by decide +kernel
theorem dX10_covered_36 : decode cX10_covered 36 = .ok (.goto 4, 3) := by decide +kernel
theorem dX10_covered_39 : decode cX10_covered 39 = .ok (.iconst 0, 1) := by decide +kernel
theorem dX10_covered_40 : decode cX10_covered 40 = .ok (.ior, 1) := by decide +kernel
theorem dX10_covered_41 : decode cX10_covered 41 = .ok (.istore_n 2, 1) := by decide +kernel
theorem dX10_covered_42 : decode cX10_covered 42 = .ok (.iinc 3 1, 3) := by decide +kernel
theorem dX10_covered_45 : decode cX10_covered 45 = .ok (.goto (-41), 3) := by decide +kernel
theorem dX10_covered_48 : decode cX10_covered 48 = .ok (.iload_n 2, 1) := by decide +kernel
theorem dX10_covered_49 : decode cX10_covered 49 = .ok (.ireturn, 1) := by decide +kernel
set_option maxRecDepth 20000 in
theorem ggX10_of_X10_isThere : GoodIn wsX10_of wsX10_isThere := goodIn_r _ [7, 8, 9, 10, 11, 6, 12, 13, 14, 15, 40, 41, 42, 43, 44, 45, 46, 47, 48, 49, 50, 51, 52, 53, 54, 55, 56, 57, 58, 59, 60, 61, 62, 63, 64, 65, 66, 67, 68, 69] (by decide +kernel) (by decide +kernel)
set_option maxRecDepth 20000 in
theorem gX10_of_X10_isThere : GoodIn wsX10_of (wsV RX10 95 RX10 yX10_isThere wsX10_isThere) := goodIn_app (goodIn_of _ (by decide +kernel)) ggX10_of_X10_isThere
set_option maxRecDepth 20000 in
theorem ggX10_of_X10_isIn : GoodIn wsX10_of wsX10_isIn := goodIn_r _ [12] (by decide +kernel) (by decide +kernel)
set_option maxRecDepth 20000 in
theorem gX10_of_X10_isIn : GoodIn wsX10_of (va_wsS RX10 87 yX10_isIn wsX10_isIn) := goodIn_app (goodIn_of _ (by decide +kernel)) ggX10_of_X10_isIn
set_option maxRecDepth 20000 in
theorem ggX10_of_X10_above : GoodIn wsX10_of wsX10_above := goodIn_r _ [19, 9, 40, 41, 42, 43, 44, 45, 46, 47, 48, 49, 50, 51, 52, 53, 54, 55, 56, 57, 58, 59, 60, 61, 62, 63, 64, 65, 66, 67, 68, 69] (by decide +kernel) (by decide +kernel)
set_option maxRecDepth 20000 in
theorem gX10_of_X10_above : GoodIn wsX10_of (wsV RX10 102 RX10 yX10_above wsX10_above) := goodIn_app (goodIn_of _ (by decide +kernel)) ggX10_of_X10_above
set_option maxRecDepth 20000 in
theorem ggX10_of_X10_below : GoodIn wsX10_of wsX10_below := goodIn_r _ [23, 9, 13, 14, 6, 15, 24, 25, 26, 27, 40, 41, 42, 43, 44, 45, 46, 47, 48, 49, 50, 51, 52, 53, 54, 55, 56, 57, 58, 59, 60, 61, 62, 63, 64, 65, 66, 67, 68, 69] (by decide +kernel) (by decide +kernel)
set_option maxRecDepth 20000 in
theorem gX10_of_X10_below : GoodIn wsX10_of (wsV RX10 106 RX10 yX10_below wsX10_below) := goodIn_app (goodIn_of _ (by decide +kernel)) ggX10_of_X10_below
set_option maxRecDepth 20000 in
theorem ggX10_of_X10_coverers : GoodIn wsX10_of wsX10_coverers := goodIn_r _ [31, 9, 13, 14, 6, 15, 32, 33, 34, 35, 24, 25, 26, 27, 16, 17, 18, 19, 20, 21, 22, 23, 40, 41, 42, 43, 44, 45, 46, 47, 48, 49, 50, 51, 52, 53, 54, 55, 56, 57, 58, 59, 60, 61, 62, 63, 64, 65, 66, 67, 68, 69] (by decide +kernel) (by decide +kernel)
set_option maxRecDepth 20000 in
theorem gX10_of_X10_coverers : GoodIn wsX10_of (wsV RX10 216 RX10 yX10_coverers wsX10_coverers) := goodIn_app (goodIn_of _ (by decide +kernel)) ggX10_of_X10_coverers
set_option maxRecDepth 20000 in
theorem ggX10_of_X10_covered : GoodIn wsX10_of wsX10_covered := goodIn_r _ [39, 9, 13, 14, 6, 15, 32, 33, 34, 35, 24, 25, 26, 27, 16, 17, 18, 19, 20, 21, 22, 23, 40, 41, 42, 43, 44, 45, 46, 47, 48, 49, 50, 51, 52, 53, 54, 55, 56, 57, 58, 59, 60, 61, 62, 63, 64, 65, 66, 67, 68, 69] (by decide +kernel) (by decide +kernel)
set_option maxRecDepth 20000 in
theorem gX10_of_X10_covered : GoodIn wsX10_of (wsV RX10 219 RX10 yX10_covered wsX10_covered) := goodIn_app (goodIn_of _ (by decide +kernel)) ggX10_of_X10_covered
theorem dX10_of_0 : decode cX10_of 0 = .ok (.aload_n 0, 1) := by decide +kernel
theorem dX10_of_1 : decode cX10_of 1 = .ok (.aload_n 0, 1) := by decide +kernel
theorem dX10_of_2 : decode cX10_of 2 = .ok (.iload_n 1, 1) := by decide +kernel
theorem dX10_of_3 : decode cX10_of 3 = .ok (.invokevirtual 95, 3) := by decide +kernel
theorem dX10_of_6 : decode cX10_of 6 = .ok (.ifCond .eq 19, 3) := by decide +kernel
theorem dX10_of_9 : decode cX10_of 9 = .ok (.iload_n 2, 1) := by decide +kernel
theorem dX10_of_10 : decode cX10_of 10 = .ok (.i2l, 1) := by decide +kernel
theorem dX10_of_11 : decode cX10_of 11 = .ok (.lconst 0, 1) := by decide +kernel
theorem dX10_of_12 : decode cX10_of 12 = .ok (.ldc2_w 211, 3) := by decide +kernel
theorem dX10_of_15 : decode cX10_of 15 = .ok (.invokestatic 87, 3) := by decide +kernel
theorem dX10_of_18 : decode cX10_of 18 = .ok (.ifCond .eq 7, 3) := by decide +kernel
theorem dX10_of_21 : decode cX10_of 21 = .ok (.iconst 0, 1) := by decide +kernel
theorem dX10_of_22 : decode cX10_of 22 = .ok (.goto 4, 3) := by decide +kernel
theorem dX10_of_25 : decode cX10_of 25 = .ok (.iconst 1, 1) := by decide +kernel
theorem dX10_of_26 : decode cX10_of 26 = .ok (.putfield 82, 3) := by decide +kernel
theorem dX10_of_29 : decode cX10_of 29 = .ok (.aload_n 0, 1) := by decide +kernel
theorem dX10_of_30 : decode cX10_of 30 = .ok (.getfield 82, 3) := by decide +kernel
theorem dX10_of_33 : decode cX10_of 33 = .ok (.iconst 1, 1) := by decide +kernel
theorem dX10_of_34 : decode cX10_of 34 = .ok (.if_icmp .ne 5, 3) := by decide +kernel
theorem dX10_of_37 : decode cX10_of 37 = .ok (.iconst 0, 1) := by decide +kernel
theorem dX10_of_38 : decode cX10_of 38 = .ok (.ireturn, 1) := by decide +kernel
theorem dX10_of_39 : decode cX10_of 39 = .ok (.iload_n 2, 1) := by decide +kernel
theorem dX10_of_40 : decode cX10_of 40 = .ok (.ifCond .ne 11, 3) := by decide +kernel
theorem dX10_of_43 : decode cX10_of 43 = .ok (.aload_n 0, 1) := by decide +kernel
theorem dX10_of_44 : decode cX10_of 44 = .ok (.iload_n 1, 1) := by decide +kernel
theorem dX10_of_45 : decode cX10_of 45 = .ok (.invokevirtual 102, 3) := by decide +kernel
theorem dX10_of_48 : decode cX10_of 48 = .ok (.goto 34, 3) := by decide +kernel
theorem dX10_of_51 : decode cX10_of 51 = .ok (.iload_n 2, 1) := by decide +kernel
theorem dX10_of_52 : decode cX10_of 52 = .ok (.iconst 1, 1) := by decide +kernel
theorem dX10_of_53 : decode cX10_of 53 = .ok (.if_icmp .ne 11, 3) := by decide +kernel
theorem dX10_of_56 : decode cX10_of 56 = .ok (.aload_n 0, 1) := by decide +kernel
theorem dX10_of_57 : decode cX10_of 57 = .ok (.iload_n 1, 1) := by decide +kernel
theorem dX10_of_58 : decode cX10_of 58 = .ok (.invokevirtual 106, 3) := by decide +kernel
theorem dX10_of_61 : decode cX10_of 61 = .ok (.goto 21, 3) := by decide +kernel
theorem dX10_of_64 : decode cX10_of 64 = .ok (.iload_n 2, 1) := by decide +kernel
theorem dX10_of_65 : decode cX10_of 65 = .ok (.iconst 2, 1) := by decide +kernel
theorem dX10_of_66 : decode cX10_of 66 = .ok (.if_icmp .ne 11, 3) := by decide +kernel
theorem dX10_of_69 : decode cX10_of 69 = .ok (.aload_n 0, 1) := by decide +kernel
theorem dX10_of_70 : decode cX10_of 70 = .ok (.iload_n 1, 1) := by decide +kernel
theorem dX10_of_71 : decode cX10_of 71 = .ok (.invokevirtual 216, 3) := by decide +kernel
theorem dX10_of_74 : decode cX10_of 74 = .ok (.goto 8, 3) := by decide +kernel
theorem dX10_of_77 : decode cX10_of 77 = .ok (.aload_n 0, 1) := by decide +kernel
theorem dX10_of_78 : decode cX10_of 78 = .ok (.iload_n 1, 1) := by decide +kernel
theorem dX10_of_79 : decode cX10_of 79 = .ok (.invokevirtual 219, 3) := by decide +kernel
theorem dX10_of_82 : decode cX10_of 82 = .ok (.ireturn, 1) := by decide +kernel
set_option maxRecDepth 20000 in
theorem ggX10_label_X10_areThere : GoodIn wsX10_label wsX10_areThere := goodIn_r _ [6, 7, 8, 9, 5, 10, 11, 12, 13, 14, 15, 16, 17, 18, 43, 44, 45, 46, 47, 48, 49, 50, 51, 52, 53, 54, 55, 56, 57, 58, 59, 60, 61, 62, 63, 64, 65, 66, 67, 68, 69, 70, 71, 72] (by decide +kernel) (by decide +kernel)
set_option maxRecDepth 20000 in
theorem gX10_label_X10_areThere : GoodIn wsX10_label (wsV RX10 197 RX10 yX10_areThere wsX10_areThere) := goodIn_app (goodIn_of _ (by decide +kernel)) ggX10_label_X10_areThere
set_option maxRecDepth 20000 in
theorem ggX10_label_X10_covers : GoodIn wsX10_label wsX10_covers := goodIn_r _ [22, 23, 24, 25, 5, 26, 12, 16, 17, 18, 27, 28, 29, 30, 31, 32, 33, 34, 43, 44, 45, 46, 47, 48, 49, 50, 51, 52, 53, 54, 55, 56, 57, 58, 59, 60, 61, 62, 63, 64, 65, 66, 67, 68, 69, 70, 71, 72] (by decide +kernel) (by decide +kernel)
set_option maxRecDepth 20000 in
theorem gX10_label_X10_covers : GoodIn wsX10_label (wsV RX10 213 RX10 yX10_covers wsX10_covers) := goodIn_app (goodIn_of _ (by decide +kernel)) ggX10_label_X10_covers
set_option maxRecDepth 20000 in
theorem ggX10_label_X10_labelBy : GoodIn wsX10_label wsX10_labelBy := goodIn_r _ [38, 12, 39, 40, 41, 5, 42, 43, 44, 45, 46, 47, 48, 49, 50, 51, 52, 53, 54, 55, 56, 57, 58, 59, 60, 61, 62, 63, 64, 65, 66, 67, 68, 69, 70, 71, 72] (by decide +kernel) (by decide +kernel)
set_option maxRecDepth 20000 in
theorem gX10_label_X10_labelBy : GoodIn wsX10_label (wsV RX10 222 RX10 yX10_labelBy wsX10_labelBy) := goodIn_app (goodIn_of _ (by decide +kernel)) ggX10_label_X10_labelBy
theorem dX10_label_0 : decode cX10_label 0 = .ok (.aload_n 0, 1) := by decide +kernel
theorem dX10_label_1 : decode cX10_label 1 = .ok (.iconst 0, 1) := by decide +kernel
theorem dX10_label_2 : decode cX10_label 2 = .ok (.putfield 82, 3) := by decide +kernel
theorem dX10_label_5 : decode cX10_label 5 = .ok (.aload_n 0, 1) := by decide +kernel
theorem dX10_label_6 : decode cX10_label 6 = .ok (.iload_n 1, 1) := by decide +kernel
theorem dX10_label_7 : decode cX10_label 7 = .ok (.iload_n 2, 1) := by decide +kernel
theorem dX10_label_8 : decode cX10_label 8 = .ok (.invokevirtual 197, 3) := by decide +kernel
theorem dX10_label_11 : decode cX10_label 11 = .ok (.ifCond .ne 7, 3) := by decide +kernel
theorem dX10_label_14 : decode cX10_label 14 = .ok (.iconst (-1), 1) := by decide +kernel
theorem dX10_label_15 : decode cX10_label 15 = .ok (.goto 23, 3) := by decide +kernel
theorem dX10_label_18 : decode cX10_label 18 = .ok (.aload_n 0, 1) := by decide +kernel
theorem dX10_label_19 : decode cX10_label 19 = .ok (.iload_n 2, 1) := by decide +kernel
theorem dX10_label_20 : decode cX10_label 20 = .ok (.iload_n 1, 1) := by decide +kernel
theorem dX10_label_21 : decode cX10_label 21 = .ok (.invokevirtual 213, 3) := by decide +kernel
theorem dX10_label_24 : decode cX10_label 24 = .ok (.ifCond .eq 12, 3) := by decide +kernel
theorem dX10_label_27 : decode cX10_label 27 = .ok (.aload_n 0, 1) := by decide +kernel
theorem dX10_label_28 : decode cX10_label 28 = .ok (.iload_n 1, 1) := by decide +kernel
theorem dX10_label_29 : decode cX10_label 29 = .ok (.iload_n 2, 1) := by decide +kernel
theorem dX10_label_30 : decode cX10_label 30 = .ok (.invokevirtual 222, 3) := by decide +kernel
theorem dX10_label_33 : decode cX10_label 33 = .ok (.goto 5, 3) := by decide +kernel
theorem dX10_label_36 : decode cX10_label 36 = .ok (.bipush (-2), 2) := by decide +kernel
theorem dX10_label_38 : decode cX10_label 38 = .ok (.ireturn, 1) := by decide +kernel
set_option maxRecDepth 20000 in
theorem ggX10_layHeights_X10_has : GoodIn wsX10_layHeights wsX10_has := goodIn_r _ [6] (by decide +kernel) (by decide +kernel)
set_option maxRecDepth 20000 in
theorem gX10_layHeights_X10_has : GoodIn wsX10_layHeights (va_wsS RX10 91 yX10_has wsX10_has) := goodIn_app (goodIn_of _ (by decide +kernel)) ggX10_layHeights_X10_has
set_option maxRecDepth 20000 in
theorem ggX10_layHeights_X10_isBelow : GoodIn wsX10_layHeights wsX10_isBelow := goodIn_r _ [10, 2, 3, 4, 5, 6, 11, 12, 13, 14, 15, 16, 17, 18, 19, 20, 21, 22, 23, 24, 25, 26, 27, 28, 29, 30, 31, 32, 33, 34, 35, 36, 37, 38, 39, 40] (by decide +kernel) (by decide +kernel)
set_option maxRecDepth 20000 in
theorem gX10_layHeights_X10_isBelow : GoodIn wsX10_layHeights (wsV RX10 99 RX10 yX10_isBelow wsX10_isBelow) := goodIn_app (goodIn_of _ (by decide +kernel)) ggX10_layHeights_X10_isBelow
theorem dX10_layHeights_0 : decode cX10_layHeights 0 = .ok (.iconst 0, 1) := by decide +kernel
theorem dX10_layHeights_1 : decode cX10_layHeights 1 = .ok (.istore_n 2, 1) := by decide +kernel
theorem dX10_layHeights_2 : decode cX10_layHeights 2 = .ok (.iload_n 2, 1) := by decide +kernel
theorem dX10_layHeights_3 : decode cX10_layHeights 3 = .ok (.bipush 9, 2) := by decide +kernel
theorem dX10_layHeights_5 : decode cX10_layHeights 5 = .ok (.if_icmp .ge 25, 3) := by decide +kernel
theorem dX10_layHeights_8 : decode cX10_layHeights 8 = .ok (.aload_n 0, 1) := by decide +kernel
theorem dX10_layHeights_9 : decode cX10_layHeights 9 = .ok (.getfield 36, 3) := by decide +kernel
theorem dX10_layHeights_12 : decode cX10_layHeights 12 = .ok (.iload_n 2, 1) := by decide +kernel
theorem dX10_layHeights_13 : decode cX10_layHeights 13 = .ok (.iload_n 2, 1) := by decide +kernel
theorem dX10_layHeights_14 : decode cX10_layHeights 14 = .ok (.iload_n 1, 1) := by decide +kernel
theorem dX10_layHeights_15 : decode cX10_layHeights 15 = .ok (.if_icmp .ne 7, 3) := by decide +kernel
theorem dX10_layHeights_18 : decode cX10_layHeights 18 = .ok (.iconst 0, 1) := by decide +kernel
theorem dX10_layHeights_19 : decode cX10_layHeights 19 = .ok (.goto 4, 3) := by decide +kernel
theorem dX10_layHeights_22 : decode cX10_layHeights 22 = .ok (.iconst (-1), 1) := by decide +kernel
theorem dX10_layHeights_23 : decode cX10_layHeights 23 = .ok (.iastore, 1) := by decide +kernel
theorem dX10_layHeights_24 : decode cX10_layHeights 24 = .ok (.iinc 2 1, 3) := by decide +kernel
theorem dX10_layHeights_27 : decode cX10_layHeights 27 = .ok (.goto (-25), 3) := by decide +kernel
theorem dX10_layHeights_30 : decode cX10_layHeights 30 = .ok (.iconst 0, 1) := by decide +kernel
theorem dX10_layHeights_31 : decode cX10_layHeights 31 = .ok (.istore_n 2, 1) := by decide +kernel
theorem dX10_layHeights_32 : decode cX10_layHeights 32 = .ok (.iload_n 2, 1) := by decide +kernel
theorem dX10_layHeights_33 : decode cX10_layHeights 33 = .ok (.bipush 9, 2) := by decide +kernel
theorem dX10_layHeights_35 : decode cX10_layHeights 35 = .ok (.if_icmp .ge 127, 3) := by decide +kernel
theorem dX10_layHeights_38 : decode cX10_layHeights 38 = .ok (.iconst 0, 1) := by decide +kernel
theorem dX10_layHeights_39 : decode cX10_layHeights 39 = .ok (.istore_n 3, 1) := by decide +kernel
theorem dX10_layHeights_40 : decode cX10_layHeights 40 = .ok (.iload_n 3, 1) := by decide +kernel
theorem dX10_layHeights_41 : decode cX10_layHeights 41 = .ok (.bipush 9, 2) := by decide +kernel
theorem dX10_layHeights_43 : decode cX10_layHeights 43 = .ok (.if_icmp .ge 113, 3) := by decide +kernel
theorem dX10_layHeights_46 : decode cX10_layHeights 46 = .ok (.iconst 0, 1) := by decide +kernel
theorem dX10_layHeights_47 : decode cX10_layHeights 47 = .ok (.istore 4, 2) := by decide +kernel
theorem dX10_layHeights_49 : decode cX10_layHeights 49 = .ok (.iload 4, 2) := by decide +kernel
theorem dX10_layHeights_51 : decode cX10_layHeights 51 = .ok (.bipush 9, 2) := by decide +kernel
theorem dX10_layHeights_53 : decode cX10_layHeights 53 = .ok (.if_icmp .ge 97, 3) := by decide +kernel
theorem dX10_layHeights_56 : decode cX10_layHeights 56 = .ok (.aload_n 0, 1) := by decide +kernel
theorem dX10_layHeights_57 : decode cX10_layHeights 57 = .ok (.getfield 36, 3) := by decide +kernel
theorem dX10_layHeights_60 : decode cX10_layHeights 60 = .ok (.iload_n 3, 1) := by decide +kernel
theorem dX10_layHeights_61 : decode cX10_layHeights 61 = .ok (.iaload, 1) := by decide +kernel
theorem dX10_layHeights_62 : decode cX10_layHeights 62 = .ok (.ifCond .lt 49, 3) := by decide +kernel
theorem dX10_layHeights_65 : decode cX10_layHeights 65 = .ok (.aload_n 0, 1) := by decide +kernel
theorem dX10_layHeights_66 : decode cX10_layHeights 66 = .ok (.getfield 9, 3) := by decide +kernel
theorem dX10_layHeights_69 : decode cX10_layHeights 69 = .ok (.iconst 1, 1) := by decide +kernel
theorem dX10_layHeights_70 : decode cX10_layHeights 70 = .ok (.iaload, 1) := by decide +kernel
theorem dX10_layHeights_71 : decode cX10_layHeights 71 = .ok (.iload 4, 2) := by decide +kernel
theorem dX10_layHeights_73 : decode cX10_layHeights 73 = .ok (.invokestatic 91, 3) := by decide +kernel
theorem dX10_layHeights_76 : decode cX10_layHeights 76 = .ok (.ifCond .eq 35, 3) := by decide +kernel
theorem dX10_layHeights_79 : decode cX10_layHeights 79 = .ok (.aload_n 0, 1) := by decide +kernel
theorem dX10_layHeights_80 : decode cX10_layHeights 80 = .ok (.iload_n 3, 1) := by decide +kernel
theorem dX10_layHeights_81 : decode cX10_layHeights 81 = .ok (.iload 4, 2) := by decide +kernel
theorem dX10_layHeights_83 : decode cX10_layHeights 83 = .ok (.invokevirtual 99, 3) := by decide +kernel
theorem dX10_layHeights_86 : decode cX10_layHeights 86 = .ok (.ifCond .eq 25, 3) := by decide +kernel
theorem dX10_layHeights_89 : decode cX10_layHeights 89 = .ok (.aload_n 0, 1) := by decide +kernel
theorem dX10_layHeights_90 : decode cX10_layHeights 90 = .ok (.getfield 36, 3) := by decide +kernel
theorem dX10_layHeights_93 : decode cX10_layHeights 93 = .ok (.iload_n 3, 1) := by decide +kernel
theorem dX10_layHeights_94 : decode cX10_layHeights 94 = .ok (.iaload, 1) := by decide +kernel
theorem dX10_layHeights_95 : decode cX10_layHeights 95 = .ok (.iconst 1, 1) := by decide +kernel
theorem dX10_layHeights_96 : decode cX10_layHeights 96 = .ok (.iadd, 1) := by decide +kernel
theorem dX10_layHeights_97 : decode cX10_layHeights 97 = .ok (.aload_n 0, 1) := by decide +kernel
theorem dX10_layHeights_98 : decode cX10_layHeights 98 = .ok (.getfield 36, 3) := by decide +kernel
theorem dX10_layHeights_101 : decode cX10_layHeights 101 = .ok (.iload 4, 2) := by decide +kernel
theorem dX10_layHeights_103 : decode cX10_layHeights 103 = .ok (.iaload, 1) := by decide +kernel
theorem dX10_layHeights_104 : decode cX10_layHeights 104 = .ok (.if_icmp .le 7, 3) := by decide +kernel
theorem dX10_layHeights_107 : decode cX10_layHeights 107 = .ok (.iconst 1, 1) := by decide +kernel
theorem dX10_layHeights_108 : decode cX10_layHeights 108 = .ok (.goto 4, 3) := by decide +kernel
theorem dX10_layHeights_111 : decode cX10_layHeights 111 = .ok (.iconst 0, 1) := by decide +kernel
theorem dX10_layHeights_112 : decode cX10_layHeights 112 = .ok (.istore 5, 2) := by decide +kernel
theorem dX10_layHeights_114 : decode cX10_layHeights 114 = .ok (.aload_n 0, 1) := by decide +kernel
theorem dX10_layHeights_115 : decode cX10_layHeights 115 = .ok (.getfield 36, 3) := by decide +kernel
theorem dX10_layHeights_118 : decode cX10_layHeights 118 = .ok (.iload 4, 2) := by decide +kernel
theorem dX10_layHeights_120 : decode cX10_layHeights 120 = .ok (.iload 5, 2) := by decide +kernel
theorem dX10_layHeights_122 : decode cX10_layHeights 122 = .ok (.ifCond .eq 14, 3) := by decide +kernel
theorem dX10_layHeights_125 : decode cX10_layHeights 125 = .ok (.aload_n 0, 1) := by decide +kernel
theorem dX10_layHeights_126 : decode cX10_layHeights 126 = .ok (.getfield 36, 3) := by decide +kernel
theorem dX10_layHeights_129 : decode cX10_layHeights 129 = .ok (.iload_n 3, 1) := by decide +kernel
theorem dX10_layHeights_130 : decode cX10_layHeights 130 = .ok (.iaload, 1) := by decide +kernel
theorem dX10_layHeights_131 : decode cX10_layHeights 131 = .ok (.iconst 1, 1) := by decide +kernel
theorem dX10_layHeights_132 : decode cX10_layHeights 132 = .ok (.iadd, 1) := by decide +kernel
theorem dX10_layHeights_133 : decode cX10_layHeights 133 = .ok (.goto 10, 3) := by decide +kernel
theorem dX10_layHeights_136 : decode cX10_layHeights 136 = .ok (.aload_n 0, 1) := by decide +kernel
theorem dX10_layHeights_137 : decode cX10_layHeights 137 = .ok (.getfield 36, 3) := by decide +kernel
theorem dX10_layHeights_140 : decode cX10_layHeights 140 = .ok (.iload 4, 2) := by decide +kernel
theorem dX10_layHeights_142 : decode cX10_layHeights 142 = .ok (.iaload, 1) := by decide +kernel
theorem dX10_layHeights_143 : decode cX10_layHeights 143 = .ok (.iastore, 1) := by decide +kernel
theorem dX10_layHeights_144 : decode cX10_layHeights 144 = .ok (.iinc 4 1, 3) := by decide +kernel
theorem dX10_layHeights_147 : decode cX10_layHeights 147 = .ok (.goto (-98), 3) := by decide +kernel
theorem dX10_layHeights_150 : decode cX10_layHeights 150 = .ok (.iinc 3 1, 3) := by decide +kernel
theorem dX10_layHeights_153 : decode cX10_layHeights 153 = .ok (.goto (-113), 3) := by decide +kernel
theorem dX10_layHeights_156 : decode cX10_layHeights 156 = .ok (.iinc 2 1, 3) := by decide +kernel
theorem dX10_layHeights_159 : decode cX10_layHeights 159 = .ok (.goto (-127), 3) := by decide +kernel
theorem dX10_layHeights_162 : decode cX10_layHeights 162 = .ok (.return_, 1) := by decide +kernel
set_option maxRecDepth 20000 in
theorem ggX10_height_X10_isThere : GoodIn wsX10_height wsX10_isThere := goodIn_r _ [8, 9, 2, 10, 11, 7, 12, 13, 14, 15, 24, 25, 26, 27, 28, 29, 30, 31, 32, 33, 34, 35, 36, 37, 38, 39, 40, 41, 42, 43, 44, 45, 46, 47, 48, 49, 50, 51, 52, 53] (by decide +kernel) (by decide +kernel)
set_option maxRecDepth 20000 in
theorem gX10_height_X10_isThere : GoodIn wsX10_height (wsV RX10 95 RX10 yX10_isThere wsX10_isThere) := goodIn_app (goodIn_of _ (by decide +kernel)) ggX10_height_X10_isThere
set_option maxRecDepth 20000 in
theorem ggX10_height_X10_has : GoodIn wsX10_height wsX10_has := goodIn_r _ [15] (by decide +kernel) (by decide +kernel)
set_option maxRecDepth 20000 in
theorem gX10_height_X10_has : GoodIn wsX10_height (va_wsS RX10 91 yX10_has wsX10_has) := goodIn_app (goodIn_of _ (by decide +kernel)) ggX10_height_X10_has
set_option maxRecDepth 20000 in
theorem ggX10_height_X10_layHeights : GoodIn wsX10_height wsX10_layHeights := goodIn_r _ [19, 3, 2, 13, 14, 7, 15, 20, 21, 22, 23, 24, 25, 26, 27, 28, 29, 30, 31, 32, 33, 34, 35, 36, 37, 38, 39, 40, 41, 42, 43, 44, 45, 46, 47, 48, 49, 50, 51, 52, 53] (by decide +kernel) (by decide +kernel)
set_option maxRecDepth 20000 in
theorem gX10_height_X10_layHeights : GoodIn wsX10_height (wsV RX10 225 RX10 yX10_layHeights wsX10_layHeights) := goodIn_app (goodIn_of _ (by decide +kernel)) ggX10_height_X10_layHeights
theorem dX10_height_0 : decode cX10_height 0 = .ok (.aload_n 0, 1) := by decide +kernel
theorem dX10_height_1 : decode cX10_height 1 = .ok (.iconst 0, 1) := by decide +kernel
theorem dX10_height_2 : decode cX10_height 2 = .ok (.putfield 82, 3) := by decide +kernel
theorem dX10_height_5 : decode cX10_height 5 = .ok (.aload_n 0, 1) := by decide +kernel
theorem dX10_height_6 : decode cX10_height 6 = .ok (.iload_n 1, 1) := by decide +kernel
theorem dX10_height_7 : decode cX10_height 7 = .ok (.invokevirtual 95, 3) := by decide +kernel
theorem dX10_height_10 : decode cX10_height 10 = .ok (.ifCond .ne 5, 3) := by decide +kernel
theorem dX10_height_13 : decode cX10_height 13 = .ok (.iconst (-1), 1) := by decide +kernel
theorem dX10_height_14 : decode cX10_height 14 = .ok (.ireturn, 1) := by decide +kernel
theorem dX10_height_15 : decode cX10_height 15 = .ok (.iconst 0, 1) := by decide +kernel
theorem dX10_height_16 : decode cX10_height 16 = .ok (.istore_n 2, 1) := by decide +kernel
theorem dX10_height_17 : decode cX10_height 17 = .ok (.iconst 0, 1) := by decide +kernel
theorem dX10_height_18 : decode cX10_height 18 = .ok (.istore_n 3, 1) := by decide +kernel
theorem dX10_height_19 : decode cX10_height 19 = .ok (.iload_n 3, 1) := by decide +kernel
theorem dX10_height_20 : decode cX10_height 20 = .ok (.bipush 9, 2) := by decide +kernel
theorem dX10_height_22 : decode cX10_height 22 = .ok (.if_icmp .ge 48, 3) := by decide +kernel
theorem dX10_height_25 : decode cX10_height 25 = .ok (.aload_n 0, 1) := by decide +kernel
theorem dX10_height_26 : decode cX10_height 26 = .ok (.getfield 9, 3) := by decide +kernel
theorem dX10_height_29 : decode cX10_height 29 = .ok (.iconst 1, 1) := by decide +kernel
theorem dX10_height_30 : decode cX10_height 30 = .ok (.iaload, 1) := by decide +kernel
theorem dX10_height_31 : decode cX10_height 31 = .ok (.iload_n 3, 1) := by decide +kernel
theorem dX10_height_32 : decode cX10_height 32 = .ok (.invokestatic 91, 3) := by decide +kernel
theorem dX10_height_35 : decode cX10_height 35 = .ok (.ifCond .eq 29, 3) := by decide +kernel
theorem dX10_height_38 : decode cX10_height 38 = .ok (.aload_n 0, 1) := by decide +kernel
theorem dX10_height_39 : decode cX10_height 39 = .ok (.iload_n 3, 1) := by decide +kernel
theorem dX10_height_40 : decode cX10_height 40 = .ok (.invokevirtual 225, 3) := by decide +kernel
theorem dX10_height_43 : decode cX10_height 43 = .ok (.aload_n 0, 1) := by decide +kernel
theorem dX10_height_44 : decode cX10_height 44 = .ok (.getfield 36, 3) := by decide +kernel
theorem dX10_height_47 : decode cX10_height 47 = .ok (.iload_n 1, 1) := by decide +kernel
theorem dX10_height_48 : decode cX10_height 48 = .ok (.iaload, 1) := by decide +kernel
theorem dX10_height_49 : decode cX10_height 49 = .ok (.iload_n 2, 1) := by decide +kernel
theorem dX10_height_50 : decode cX10_height 50 = .ok (.if_icmp .le 12, 3) := by decide +kernel
theorem dX10_height_53 : decode cX10_height 53 = .ok (.aload_n 0, 1) := by decide +kernel
theorem dX10_height_54 : decode cX10_height 54 = .ok (.getfield 36, 3) := by decide +kernel
theorem dX10_height_57 : decode cX10_height 57 = .ok (.iload_n 1, 1) := by decide +kernel
theorem dX10_height_58 : decode cX10_height 58 = .ok (.iaload, 1) := by decide +kernel
theorem dX10_height_59 : decode cX10_height 59 = .ok (.goto 4, 3) := by decide +kernel
theorem dX10_height_62 : decode cX10_height 62 = .ok (.iload_n 2, 1) := by decide +kernel
theorem dX10_height_63 : decode cX10_height 63 = .ok (.istore_n 2, 1) := by decide +kernel
theorem dX10_height_64 : decode cX10_height 64 = .ok (.iinc 3 1, 3) := by decide +kernel
theorem dX10_height_67 : decode cX10_height 67 = .ok (.goto (-48), 3) := by decide +kernel
theorem dX10_height_70 : decode cX10_height 70 = .ok (.iload_n 2, 1) := by decide +kernel
theorem dX10_height_71 : decode cX10_height 71 = .ok (.ireturn, 1) := by decide +kernel
set_option maxRecDepth 20000 in
theorem ggX10_upTo_X10_above : GoodIn wsX10_upTo wsX10_above := goodIn_r _ [5, 6, 7, 8, 9, 10, 11, 12, 13, 14, 15, 16, 17, 18, 19, 20, 21, 22, 23, 24, 25, 26, 27, 28, 29, 30, 31, 32, 33, 34, 35, 36] (by decide +kernel) (by decide +kernel)
set_option maxRecDepth 20000 in
theorem gX10_upTo_X10_above : GoodIn wsX10_upTo (wsV RX10 102 RX10 yX10_above wsX10_above) := goodIn_app (goodIn_of _ (by decide +kernel)) ggX10_upTo_X10_above
theorem dX10_upTo_0 : decode cX10_upTo 0 = .ok (.aload_n 0, 1) := by decide +kernel
theorem dX10_upTo_1 : decode cX10_upTo 1 = .ok (.iload_n 1, 1) := by decide +kernel
theorem dX10_upTo_2 : decode cX10_upTo 2 = .ok (.invokevirtual 102, 3) := by decide +kernel
theorem dX10_upTo_5 : decode cX10_upTo 5 = .ok (.iconst 1, 1) := by decide +kernel
theorem dX10_upTo_6 : decode cX10_upTo 6 = .ok (.iload_n 1, 1) := by decide +kernel
theorem dX10_upTo_7 : decode cX10_upTo 7 = .ok (.ishl, 1) := by decide +kernel
theorem dX10_upTo_8 : decode cX10_upTo 8 = .ok (.ior, 1) := by decide +kernel
theorem dX10_upTo_9 : decode cX10_upTo 9 = .ok (.ireturn, 1) := by decide +kernel
set_option maxRecDepth 20000 in
theorem ggX10_downTo_X10_below : GoodIn wsX10_downTo wsX10_below := goodIn_r _ [5, 6, 7, 8, 4, 9, 10, 11, 12, 13, 14, 15, 16, 17, 18, 19, 20, 21, 22, 23, 24, 25, 26, 27, 28, 29, 30, 31, 32, 33, 34, 35, 36, 37, 38, 39, 40, 41, 42, 43] (by decide +kernel) (by decide +kernel)
set_option maxRecDepth 20000 in
theorem gX10_downTo_X10_below : GoodIn wsX10_downTo (wsV RX10 106 RX10 yX10_below wsX10_below) := goodIn_app (goodIn_of _ (by decide +kernel)) ggX10_downTo_X10_below
theorem dX10_downTo_0 : decode cX10_downTo 0 = .ok (.aload_n 0, 1) := by decide +kernel
theorem dX10_downTo_1 : decode cX10_downTo 1 = .ok (.iload_n 1, 1) := by decide +kernel
theorem dX10_downTo_2 : decode cX10_downTo 2 = .ok (.invokevirtual 106, 3) := by decide +kernel
theorem dX10_downTo_5 : decode cX10_downTo 5 = .ok (.iconst 1, 1) := by decide +kernel
theorem dX10_downTo_6 : decode cX10_downTo 6 = .ok (.iload_n 1, 1) := by decide +kernel
theorem dX10_downTo_7 : decode cX10_downTo 7 = .ok (.ishl, 1) := by decide +kernel
theorem dX10_downTo_8 : decode cX10_downTo 8 = .ok (.ior, 1) := by decide +kernel
theorem dX10_downTo_9 : decode cX10_downTo 9 = .ok (.ireturn, 1) := by decide +kernel
set_option maxRecDepth 20000 in
theorem ggX10_leastOf_X10_has : GoodIn wsX10_leastOf wsX10_has := goodIn_r _ [4] (by decide +kernel) (by decide +kernel)
set_option maxRecDepth 20000 in
theorem gX10_leastOf_X10_has : GoodIn wsX10_leastOf (va_wsS RX10 91 yX10_has wsX10_has) := goodIn_app (goodIn_of _ (by decide +kernel)) ggX10_leastOf_X10_has
set_option maxRecDepth 20000 in
theorem ggX10_leastOf_X10_upTo : GoodIn wsX10_leastOf wsX10_upTo := goodIn_r _ [8, 9, 10, 11, 3, 12, 13, 14, 15, 16, 17, 18, 19, 20, 21, 22, 23, 24, 25, 26, 27, 28, 29, 30, 31, 32, 33, 34, 35, 36, 37, 38, 39, 40, 41, 42, 43] (by decide +kernel) (by decide +kernel)
set_option maxRecDepth 20000 in
theorem gX10_leastOf_X10_upTo : GoodIn wsX10_leastOf (wsV RX10 228 RX10 yX10_upTo wsX10_upTo) := goodIn_app (goodIn_of _ (by decide +kernel)) ggX10_leastOf_X10_upTo
theorem dX10_leastOf_0 : decode cX10_leastOf 0 = .ok (.iconst 0, 1) := by decide +kernel
theorem dX10_leastOf_1 : decode cX10_leastOf 1 = .ok (.istore_n 2, 1) := by decide +kernel
theorem dX10_leastOf_2 : decode cX10_leastOf 2 = .ok (.iload_n 2, 1) := by decide +kernel
theorem dX10_leastOf_3 : decode cX10_leastOf 3 = .ok (.bipush 9, 2) := by decide +kernel
theorem dX10_leastOf_5 : decode cX10_leastOf 5 = .ok (.if_icmp .ge 31, 3) := by decide +kernel
theorem dX10_leastOf_8 : decode cX10_leastOf 8 = .ok (.iload_n 1, 1) := by decide +kernel
theorem dX10_leastOf_9 : decode cX10_leastOf 9 = .ok (.iload_n 2, 1) := by decide +kernel
theorem dX10_leastOf_10 : decode cX10_leastOf 10 = .ok (.invokestatic 91, 3) := by decide +kernel
theorem dX10_leastOf_13 : decode cX10_leastOf 13 = .ok (.ifCond .eq 17, 3) := by decide +kernel
theorem dX10_leastOf_16 : decode cX10_leastOf 16 = .ok (.iload_n 1, 1) := by decide +kernel
theorem dX10_leastOf_17 : decode cX10_leastOf 17 = .ok (.aload_n 0, 1) := by decide +kernel
theorem dX10_leastOf_18 : decode cX10_leastOf 18 = .ok (.iload_n 2, 1) := by decide +kernel
theorem dX10_leastOf_19 : decode cX10_leastOf 19 = .ok (.invokevirtual 228, 3) := by decide +kernel
theorem dX10_leastOf_22 : decode cX10_leastOf 22 = .ok (.iconst (-1), 1) := by decide +kernel
theorem dX10_leastOf_23 : decode cX10_leastOf 23 = .ok (.ixor, 1) := by decide +kernel
theorem dX10_leastOf_24 : decode cX10_leastOf 24 = .ok (.iand, 1) := by decide +kernel
theorem dX10_leastOf_25 : decode cX10_leastOf 25 = .ok (.ifCond .ne 5, 3) := by decide +kernel
theorem dX10_leastOf_28 : decode cX10_leastOf 28 = .ok (.iload_n 2, 1) := by decide +kernel
theorem dX10_leastOf_29 : decode cX10_leastOf 29 = .ok (.ireturn, 1) := by decide +kernel
theorem dX10_leastOf_30 : decode cX10_leastOf 30 = .ok (.iinc 2 1, 3) := by decide +kernel
theorem dX10_leastOf_33 : decode cX10_leastOf 33 = .ok (.goto (-31), 3) := by decide +kernel
theorem dX10_leastOf_36 : decode cX10_leastOf 36 = .ok (.bipush (-2), 2) := by decide +kernel
theorem dX10_leastOf_38 : decode cX10_leastOf 38 = .ok (.ireturn, 1) := by decide +kernel
set_option maxRecDepth 20000 in
theorem ggX10_greatestOf_X10_has : GoodIn wsX10_greatestOf wsX10_has := goodIn_r _ [4] (by decide +kernel) (by decide +kernel)
set_option maxRecDepth 20000 in
theorem gX10_greatestOf_X10_has : GoodIn wsX10_greatestOf (va_wsS RX10 91 yX10_has wsX10_has) := goodIn_app (goodIn_of _ (by decide +kernel)) ggX10_greatestOf_X10_has
set_option maxRecDepth 20000 in
theorem ggX10_greatestOf_X10_downTo : GoodIn wsX10_greatestOf wsX10_downTo := goodIn_r _ [8, 9, 10, 11, 3, 12, 13, 1, 2, 4, 14, 15, 16, 17, 18, 19, 20, 21, 22, 23, 24, 25, 26, 27, 28, 29, 30, 31, 32, 33, 34, 35, 36, 37, 38, 39, 40, 41, 42, 43, 44, 45, 46, 47] (by decide +kernel) (by decide +kernel)
set_option maxRecDepth 20000 in
theorem gX10_greatestOf_X10_downTo : GoodIn wsX10_greatestOf (wsV RX10 231 RX10 yX10_downTo wsX10_downTo) := goodIn_app (goodIn_of _ (by decide +kernel)) ggX10_greatestOf_X10_downTo
theorem dX10_greatestOf_0 : decode cX10_greatestOf 0 = .ok (.iconst 0, 1) := by decide +kernel
theorem dX10_greatestOf_1 : decode cX10_greatestOf 1 = .ok (.istore_n 2, 1) := by decide +kernel
theorem dX10_greatestOf_2 : decode cX10_greatestOf 2 = .ok (.iload_n 2, 1) := by decide +kernel
theorem dX10_greatestOf_3 : decode cX10_greatestOf 3 = .ok (.bipush 9, 2) := by decide +kernel
theorem dX10_greatestOf_5 : decode cX10_greatestOf 5 = .ok (.if_icmp .ge 31, 3) := by decide +kernel
theorem dX10_greatestOf_8 : decode cX10_greatestOf 8 = .ok (.iload_n 1, 1) := by decide +kernel
theorem dX10_greatestOf_9 : decode cX10_greatestOf 9 = .ok (.iload_n 2, 1) := by decide +kernel
theorem dX10_greatestOf_10 : decode cX10_greatestOf 10 = .ok (.invokestatic 91, 3) := by decide +kernel
theorem dX10_greatestOf_13 : decode cX10_greatestOf 13 = .ok (.ifCond .eq 17, 3) := by decide +kernel
theorem dX10_greatestOf_16 : decode cX10_greatestOf 16 = .ok (.iload_n 1, 1) := by decide +kernel
theorem dX10_greatestOf_17 : decode cX10_greatestOf 17 = .ok (.aload_n 0, 1) := by decide +kernel
theorem dX10_greatestOf_18 : decode cX10_greatestOf 18 = .ok (.iload_n 2, 1) := by decide +kernel
theorem dX10_greatestOf_19 : decode cX10_greatestOf 19 = .ok (.invokevirtual 231, 3) := by decide +kernel
theorem dX10_greatestOf_22 : decode cX10_greatestOf 22 = .ok (.iconst (-1), 1) := by decide +kernel
theorem dX10_greatestOf_23 : decode cX10_greatestOf 23 = .ok (.ixor, 1) := by decide +kernel
theorem dX10_greatestOf_24 : decode cX10_greatestOf 24 = .ok (.iand, 1) := by decide +kernel
theorem dX10_greatestOf_25 : decode cX10_greatestOf 25 = .ok (.ifCond .ne 5, 3) := by decide +kernel
theorem dX10_greatestOf_28 : decode cX10_greatestOf 28 = .ok (.iload_n 2, 1) := by decide +kernel
theorem dX10_greatestOf_29 : decode cX10_greatestOf 29 = .ok (.ireturn, 1) := by decide +kernel
theorem dX10_greatestOf_30 : decode cX10_greatestOf 30 = .ok (.iinc 2 1, 3) := by decide +kernel
theorem dX10_greatestOf_33 : decode cX10_greatestOf 33 = .ok (.goto (-31), 3) := by decide +kernel
theorem dX10_greatestOf_36 : decode cX10_greatestOf 36 = .ok (.bipush (-2), 2) := by decide +kernel
theorem dX10_greatestOf_38 : decode cX10_greatestOf 38 = .ok (.ireturn, 1) := by decide +kernel
set_option maxRecDepth 20000 in
theorem ggX10_joinOf_X10_upTo : GoodIn wsX10_joinOf wsX10_upTo := goodIn_r _ [5, 6, 7, 8, 4, 9, 10, 18, 19, 20, 21, 22, 23, 24, 25, 26, 27, 28, 29, 30, 31, 32, 33, 34, 35, 36, 37, 38, 39, 40, 41, 42, 43, 44, 45, 46, 47] (by decide +kernel) (by decide +kernel)
set_option maxRecDepth 20000 in
theorem gX10_joinOf_X10_upTo : GoodIn wsX10_joinOf (wsV RX10 228 RX10 yX10_upTo wsX10_upTo) := goodIn_app (goodIn_of _ (by decide +kernel)) ggX10_joinOf_X10_upTo
set_option maxRecDepth 20000 in
theorem ggX10_joinOf_X10_leastOf : GoodIn wsX10_joinOf wsX10_leastOf := goodIn_r _ [14, 15, 16, 4, 17, 1, 2, 3, 5, 6, 7, 8, 9, 10, 18, 19, 20, 21, 22, 23, 24, 25, 26, 27, 28, 29, 30, 31, 32, 33, 34, 35, 36, 37, 38, 39, 40, 41, 42, 43, 44, 45, 46, 47] (by decide +kernel) (by decide +kernel)
set_option maxRecDepth 20000 in
theorem gX10_joinOf_X10_leastOf : GoodIn wsX10_joinOf (wsV RX10 234 RX10 yX10_leastOf wsX10_leastOf) := goodIn_app (goodIn_of _ (by decide +kernel)) ggX10_joinOf_X10_leastOf
theorem dX10_joinOf_0 : decode cX10_joinOf 0 = .ok (.aload_n 0, 1) := by decide +kernel
theorem dX10_joinOf_1 : decode cX10_joinOf 1 = .ok (.aload_n 0, 1) := by decide +kernel
theorem dX10_joinOf_2 : decode cX10_joinOf 2 = .ok (.iload_n 1, 1) := by decide +kernel
theorem dX10_joinOf_3 : decode cX10_joinOf 3 = .ok (.invokevirtual 228, 3) := by decide +kernel
theorem dX10_joinOf_6 : decode cX10_joinOf 6 = .ok (.aload_n 0, 1) := by decide +kernel
theorem dX10_joinOf_7 : decode cX10_joinOf 7 = .ok (.iload_n 2, 1) := by decide +kernel
theorem dX10_joinOf_8 : decode cX10_joinOf 8 = .ok (.invokevirtual 228, 3) := by decide +kernel
theorem dX10_joinOf_11 : decode cX10_joinOf 11 = .ok (.iand, 1) := by decide +kernel
theorem dX10_joinOf_12 : decode cX10_joinOf 12 = .ok (.invokevirtual 234, 3) := by decide +kernel
theorem dX10_joinOf_15 : decode cX10_joinOf 15 = .ok (.ireturn, 1) := by decide +kernel
set_option maxRecDepth 20000 in
theorem ggX10_meetOf_X10_downTo : GoodIn wsX10_meetOf wsX10_downTo := goodIn_r _ [5, 6, 7, 8, 4, 9, 10, 11, 12, 13, 14, 15, 16, 17, 22, 23, 24, 25, 26, 27, 28, 29, 30, 31, 32, 33, 34, 35, 36, 37, 38, 39, 40, 41, 42, 43, 44, 45, 46, 47, 48, 49, 50, 51] (by decide +kernel) (by decide +kernel)
set_option maxRecDepth 20000 in
theorem gX10_meetOf_X10_downTo : GoodIn wsX10_meetOf (wsV RX10 231 RX10 yX10_downTo wsX10_downTo) := goodIn_app (goodIn_of _ (by decide +kernel)) ggX10_meetOf_X10_downTo
set_option maxRecDepth 20000 in
theorem ggX10_meetOf_X10_greatestOf : GoodIn wsX10_meetOf wsX10_greatestOf := goodIn_r _ [21, 11, 12, 4, 13, 1, 2, 3, 5, 6, 7, 8, 9, 10, 14, 15, 16, 17, 22, 23, 24, 25, 26, 27, 28, 29, 30, 31, 32, 33, 34, 35, 36, 37, 38, 39, 40, 41, 42, 43, 44, 45, 46, 47, 48, 49, 50, 51] (by decide +kernel) (by decide +kernel)
set_option maxRecDepth 20000 in
theorem gX10_meetOf_X10_greatestOf : GoodIn wsX10_meetOf (wsV RX10 237 RX10 yX10_greatestOf wsX10_greatestOf) := goodIn_app (goodIn_of _ (by decide +kernel)) ggX10_meetOf_X10_greatestOf
theorem dX10_meetOf_0 : decode cX10_meetOf 0 = .ok (.aload_n 0, 1) := by decide +kernel
theorem dX10_meetOf_1 : decode cX10_meetOf 1 = .ok (.aload_n 0, 1) := by decide +kernel
theorem dX10_meetOf_2 : decode cX10_meetOf 2 = .ok (.iload_n 1, 1) := by decide +kernel
theorem dX10_meetOf_3 : decode cX10_meetOf 3 = .ok (.invokevirtual 231, 3) := by decide +kernel
theorem dX10_meetOf_6 : decode cX10_meetOf 6 = .ok (.aload_n 0, 1) := by decide +kernel
theorem dX10_meetOf_7 : decode cX10_meetOf 7 = .ok (.iload_n 2, 1) := by decide +kernel
theorem dX10_meetOf_8 : decode cX10_meetOf 8 = .ok (.invokevirtual 231, 3) := by decide +kernel
theorem dX10_meetOf_11 : decode cX10_meetOf 11 = .ok (.iand, 1) := by decide +kernel
theorem dX10_meetOf_12 : decode cX10_meetOf 12 = .ok (.invokevirtual 237, 3) := by decide +kernel
theorem dX10_meetOf_15 : decode cX10_meetOf 15 = .ok (.ireturn, 1) := by decide +kernel
set_option maxRecDepth 20000 in
theorem ggX10_join_X10_areThere : GoodIn wsX10_join wsX10_areThere := goodIn_r _ [6, 7, 8, 9, 5, 10, 11, 12, 13, 14, 15, 16, 17, 18, 35, 36, 37, 38, 39, 40, 41, 42, 43, 44, 45, 46, 47, 48, 49, 50, 51, 52, 53, 54, 55, 56, 57, 58, 59, 60, 61, 62, 63, 64] (by decide +kernel) (by decide +kernel)
set_option maxRecDepth 20000 in
theorem gX10_join_X10_areThere : GoodIn wsX10_join (wsV RX10 197 RX10 yX10_areThere wsX10_areThere) := goodIn_app (goodIn_of _ (by decide +kernel)) ggX10_join_X10_areThere
set_option maxRecDepth 20000 in
theorem ggX10_join_X10_joinOf : GoodIn wsX10_join wsX10_joinOf := goodIn_r _ [22, 23, 24, 25, 5, 26, 27, 28, 29, 30, 12, 31, 32, 33, 34, 16, 17, 18, 35, 36, 37, 38, 39, 40, 41, 42, 43, 44, 45, 46, 47, 48, 49, 50, 51, 52, 53, 54, 55, 56, 57, 58, 59, 60, 61, 62, 63, 64] (by decide +kernel) (by decide +kernel)
set_option maxRecDepth 20000 in
theorem gX10_join_X10_joinOf : GoodIn wsX10_join (wsV RX10 240 RX10 yX10_joinOf wsX10_joinOf) := goodIn_app (goodIn_of _ (by decide +kernel)) ggX10_join_X10_joinOf
theorem dX10_join_0 : decode cX10_join 0 = .ok (.aload_n 0, 1) := by decide +kernel
theorem dX10_join_1 : decode cX10_join 1 = .ok (.iconst 0, 1) := by decide +kernel
theorem dX10_join_2 : decode cX10_join 2 = .ok (.putfield 82, 3) := by decide +kernel
theorem dX10_join_5 : decode cX10_join 5 = .ok (.aload_n 0, 1) := by decide +kernel
theorem dX10_join_6 : decode cX10_join 6 = .ok (.iload_n 1, 1) := by decide +kernel
theorem dX10_join_7 : decode cX10_join 7 = .ok (.iload_n 2, 1) := by decide +kernel
theorem dX10_join_8 : decode cX10_join 8 = .ok (.invokevirtual 197, 3) := by decide +kernel
theorem dX10_join_11 : decode cX10_join 11 = .ok (.ifCond .eq 12, 3) := by decide +kernel
theorem dX10_join_14 : decode cX10_join 14 = .ok (.aload_n 0, 1) := by decide +kernel
theorem dX10_join_15 : decode cX10_join 15 = .ok (.iload_n 1, 1) := by decide +kernel
theorem dX10_join_16 : decode cX10_join 16 = .ok (.iload_n 2, 1) := by decide +kernel
theorem dX10_join_17 : decode cX10_join 17 = .ok (.invokevirtual 240, 3) := by decide +kernel
theorem dX10_join_20 : decode cX10_join 20 = .ok (.goto 4, 3) := by decide +kernel
theorem dX10_join_23 : decode cX10_join 23 = .ok (.iconst (-1), 1) := by decide +kernel
theorem dX10_join_24 : decode cX10_join 24 = .ok (.ireturn, 1) := by decide +kernel
set_option maxRecDepth 20000 in
theorem ggX10_meet_X10_areThere : GoodIn wsX10_meet wsX10_areThere := goodIn_r _ [6, 7, 8, 9, 5, 10, 11, 12, 13, 14, 15, 16, 17, 18, 39, 40, 41, 42, 43, 44, 45, 46, 47, 48, 49, 50, 51, 52, 53, 54, 55, 56, 57, 58, 59, 60, 61, 62, 63, 64, 65, 66, 67, 68] (by decide +kernel) (by decide +kernel)
set_option maxRecDepth 20000 in
theorem gX10_meet_X10_areThere : GoodIn wsX10_meet (wsV RX10 197 RX10 yX10_areThere wsX10_areThere) := goodIn_app (goodIn_of _ (by decide +kernel)) ggX10_meet_X10_areThere
set_option maxRecDepth 20000 in
theorem ggX10_meet_X10_meetOf : GoodIn wsX10_meet wsX10_meetOf := goodIn_r _ [22, 23, 24, 25, 5, 26, 27, 28, 29, 30, 12, 16, 17, 18, 31, 32, 33, 34, 35, 36, 37, 38, 39, 40, 41, 42, 43, 44, 45, 46, 47, 48, 49, 50, 51, 52, 53, 54, 55, 56, 57, 58, 59, 60, 61, 62, 63, 64, 65, 66, 67, 68] (by decide +kernel) (by decide +kernel)
set_option maxRecDepth 20000 in
theorem gX10_meet_X10_meetOf : GoodIn wsX10_meet (wsV RX10 243 RX10 yX10_meetOf wsX10_meetOf) := goodIn_app (goodIn_of _ (by decide +kernel)) ggX10_meet_X10_meetOf
theorem dX10_meet_0 : decode cX10_meet 0 = .ok (.aload_n 0, 1) := by decide +kernel
theorem dX10_meet_1 : decode cX10_meet 1 = .ok (.iconst 0, 1) := by decide +kernel
theorem dX10_meet_2 : decode cX10_meet 2 = .ok (.putfield 82, 3) := by decide +kernel
theorem dX10_meet_5 : decode cX10_meet 5 = .ok (.aload_n 0, 1) := by decide +kernel
theorem dX10_meet_6 : decode cX10_meet 6 = .ok (.iload_n 1, 1) := by decide +kernel
theorem dX10_meet_7 : decode cX10_meet 7 = .ok (.iload_n 2, 1) := by decide +kernel
theorem dX10_meet_8 : decode cX10_meet 8 = .ok (.invokevirtual 197, 3) := by decide +kernel
theorem dX10_meet_11 : decode cX10_meet 11 = .ok (.ifCond .eq 12, 3) := by decide +kernel
theorem dX10_meet_14 : decode cX10_meet 14 = .ok (.aload_n 0, 1) := by decide +kernel
theorem dX10_meet_15 : decode cX10_meet 15 = .ok (.iload_n 1, 1) := by decide +kernel
theorem dX10_meet_16 : decode cX10_meet 16 = .ok (.iload_n 2, 1) := by decide +kernel
theorem dX10_meet_17 : decode cX10_meet 17 = .ok (.invokevirtual 243, 3) := by decide +kernel
theorem dX10_meet_20 : decode cX10_meet 20 = .ok (.goto 4, 3) := by decide +kernel
theorem dX10_meet_23 : decode cX10_meet 23 = .ok (.iconst (-1), 1) := by decide +kernel
theorem dX10_meet_24 : decode cX10_meet 24 = .ok (.ireturn, 1) := by decide +kernel
set_option maxRecDepth 20000 in
theorem ggX10_isEven_X10_areThere : GoodIn wsX10_isEven wsX10_areThere := goodIn_r _ [5, 6, 7, 8, 4, 9, 10, 11, 12, 13, 14, 15, 16, 17, 91, 92, 93, 94, 95, 96, 97, 98, 99, 100, 101, 102, 103, 104, 105, 106, 107, 108, 109, 110, 111, 112, 113, 114, 115, 116, 117, 118, 119, 120] (by decide +kernel) (by decide +kernel)
set_option maxRecDepth 20000 in
theorem gX10_isEven_X10_areThere : GoodIn wsX10_isEven (wsV RX10 197 RX10 yX10_areThere wsX10_areThere) := goodIn_app (goodIn_of _ (by decide +kernel)) ggX10_isEven_X10_areThere
set_option maxRecDepth 20000 in
theorem ggX10_isEven_X10_isBelow : GoodIn wsX10_isEven wsX10_isBelow := goodIn_r _ [21, 11, 15, 16, 4, 17, 91, 92, 93, 94, 95, 96, 97, 98, 99, 100, 101, 102, 103, 104, 105, 106, 107, 108, 109, 110, 111, 112, 113, 114, 115, 116, 117, 118, 119, 120] (by decide +kernel) (by decide +kernel)
set_option maxRecDepth 20000 in
theorem gX10_isEven_X10_isBelow : GoodIn wsX10_isEven (wsV RX10 99 RX10 yX10_isBelow wsX10_isBelow) := goodIn_app (goodIn_of _ (by decide +kernel)) ggX10_isEven_X10_isBelow
set_option maxRecDepth 20000 in
theorem ggX10_isEven_X10_layChains : GoodIn wsX10_isEven wsX10_layChains := goodIn_r _ [25, 26, 27, 28, 29, 30, 31, 4, 32, 33, 34, 35, 36, 37, 38, 39, 40, 41, 42, 11, 43, 44, 45, 46, 47, 48, 49, 50, 51, 52, 53, 54, 55, 56, 57, 58, 59, 60, 61, 62, 63, 64, 65, 66, 67, 68, 69, 70, 71, 72, 73, 74, 15, 16, 17, 18, 19, 20, 21, 75, 76, 77, 78, 91, 92, 93, 94, 95, 96, 97, 98, 99, 100, 101, 102, 103, 104, 105, 106, 107, 108, 109, 110, 111, 112, 113, 114, 115, 116, 117, 118, 119, 120] (by decide +kernel) (by decide +kernel)
set_option maxRecDepth 20000 in
theorem gX10_isEven_X10_layChains : GoodIn wsX10_isEven (wsV RX10 246 RX10 yX10_layChains wsX10_layChains) := goodIn_app (goodIn_of _ (by decide +kernel)) ggX10_isEven_X10_layChains
set_option maxRecDepth 20000 in
theorem ggX10_isEven_X10_chainsBy : GoodIn wsX10_isEven wsX10_chainsBy := goodIn_r _ [82, 26, 33, 83, 84, 85, 4, 86, 47, 48, 49, 50, 51, 52, 53, 54, 34, 39, 40, 41, 42, 11, 43, 44, 45, 46, 87, 88, 89, 90, 91, 92, 93, 94, 95, 96, 97, 98, 99, 100, 101, 102, 103, 104, 105, 106, 107, 108, 109, 110, 111, 112, 113, 114, 115, 116, 117, 118, 119, 120] (by decide +kernel) (by decide +kernel)
set_option maxRecDepth 20000 in
theorem gX10_isEven_X10_chainsBy : GoodIn wsX10_isEven (wsV RX10 249 RX10 yX10_chainsBy wsX10_chainsBy) := goodIn_app (goodIn_of _ (by decide +kernel)) ggX10_isEven_X10_chainsBy
theorem dX10_isEven_0 : decode cX10_isEven 0 = .ok (.iconst 0, 1) := by decide +kernel
theorem dX10_isEven_1 : decode cX10_isEven 1 = .ok (.istore_n 1, 1) := by decide +kernel
theorem dX10_isEven_2 : decode cX10_isEven 2 = .ok (.iload_n 1, 1) := by decide +kernel
theorem dX10_isEven_3 : decode cX10_isEven 3 = .ok (.bipush 9, 2) := by decide +kernel
theorem dX10_isEven_5 : decode cX10_isEven 5 = .ok (.if_icmp .ge 62, 3) := by decide +kernel
theorem dX10_isEven_8 : decode cX10_isEven 8 = .ok (.iconst 0, 1) := by decide +kernel
theorem dX10_isEven_9 : decode cX10_isEven 9 = .ok (.istore_n 2, 1) := by decide +kernel
theorem dX10_isEven_10 : decode cX10_isEven 10 = .ok (.iload_n 2, 1) := by decide +kernel
theorem dX10_isEven_11 : decode cX10_isEven 11 = .ok (.bipush 9, 2) := by decide +kernel
theorem dX10_isEven_13 : decode cX10_isEven 13 = .ok (.if_icmp .ge 48, 3) := by decide +kernel
theorem dX10_isEven_16 : decode cX10_isEven 16 = .ok (.aload_n 0, 1) := by decide +kernel
theorem dX10_isEven_17 : decode cX10_isEven 17 = .ok (.iload_n 1, 1) := by decide +kernel
theorem dX10_isEven_18 : decode cX10_isEven 18 = .ok (.iload_n 2, 1) := by decide +kernel
theorem dX10_isEven_19 : decode cX10_isEven 19 = .ok (.invokevirtual 197, 3) := by decide +kernel
theorem dX10_isEven_22 : decode cX10_isEven 22 = .ok (.ifCond .eq 33, 3) := by decide +kernel
theorem dX10_isEven_25 : decode cX10_isEven 25 = .ok (.aload_n 0, 1) := by decide +kernel
theorem dX10_isEven_26 : decode cX10_isEven 26 = .ok (.iload_n 1, 1) := by decide +kernel
theorem dX10_isEven_27 : decode cX10_isEven 27 = .ok (.iload_n 2, 1) := by decide +kernel
theorem dX10_isEven_28 : decode cX10_isEven 28 = .ok (.invokevirtual 99, 3) := by decide +kernel
theorem dX10_isEven_31 : decode cX10_isEven 31 = .ok (.ifCond .eq 24, 3) := by decide +kernel
theorem dX10_isEven_34 : decode cX10_isEven 34 = .ok (.aload_n 0, 1) := by decide +kernel
theorem dX10_isEven_35 : decode cX10_isEven 35 = .ok (.iload_n 1, 1) := by decide +kernel
theorem dX10_isEven_36 : decode cX10_isEven 36 = .ok (.iload_n 2, 1) := by decide +kernel
theorem dX10_isEven_37 : decode cX10_isEven 37 = .ok (.invokevirtual 246, 3) := by decide +kernel
theorem dX10_isEven_40 : decode cX10_isEven 40 = .ok (.aload_n 0, 1) := by decide +kernel
theorem dX10_isEven_41 : decode cX10_isEven 41 = .ok (.iconst 3, 1) := by decide +kernel
theorem dX10_isEven_42 : decode cX10_isEven 42 = .ok (.invokevirtual 249, 3) := by decide +kernel
theorem dX10_isEven_45 : decode cX10_isEven 45 = .ok (.aload_n 0, 1) := by decide +kernel
theorem dX10_isEven_46 : decode cX10_isEven 46 = .ok (.iconst 4, 1) := by decide +kernel
theorem dX10_isEven_47 : decode cX10_isEven 47 = .ok (.invokevirtual 249, 3) := by decide +kernel
theorem dX10_isEven_50 : decode cX10_isEven 50 = .ok (.if_icmp .eq 5, 3) := by decide +kernel
theorem dX10_isEven_53 : decode cX10_isEven 53 = .ok (.iconst 0, 1) := by decide +kernel
theorem dX10_isEven_54 : decode cX10_isEven 54 = .ok (.ireturn, 1) := by decide +kernel
theorem dX10_isEven_55 : decode cX10_isEven 55 = .ok (.iinc 2 1, 3) := by decide +kernel
theorem dX10_isEven_58 : decode cX10_isEven 58 = .ok (.goto (-48), 3) := by decide +kernel
theorem dX10_isEven_61 : decode cX10_isEven 61 = .ok (.iinc 1 1, 3) := by decide +kernel
theorem dX10_isEven_64 : decode cX10_isEven 64 = .ok (.goto (-62), 3) := by decide +kernel
theorem dX10_isEven_67 : decode cX10_isEven 67 = .ok (.iconst 1, 1) := by decide +kernel
theorem dX10_isEven_68 : decode cX10_isEven 68 = .ok (.ireturn, 1) := by decide +kernel
set_option maxRecDepth 20000 in
theorem ggX10_hasAllJoins_X10_areThere : GoodIn wsX10_hasAllJoins wsX10_areThere := goodIn_r _ [5, 6, 7, 8, 4, 9, 10, 11, 12, 13, 14, 15, 16, 17, 54, 55, 56, 57, 58, 59, 60, 61, 62, 63, 64, 65, 66, 67, 68, 69, 70, 71, 72, 73, 74, 75, 76, 77, 78, 79, 80, 81, 82, 83] (by decide +kernel) (by decide +kernel)
set_option maxRecDepth 20000 in
theorem gX10_hasAllJoins_X10_areThere : GoodIn wsX10_hasAllJoins (wsV RX10 197 RX10 yX10_areThere wsX10_areThere) := goodIn_app (goodIn_of _ (by decide +kernel)) ggX10_hasAllJoins_X10_areThere
set_option maxRecDepth 20000 in
theorem ggX10_hasAllJoins_X10_joinOf : GoodIn wsX10_hasAllJoins wsX10_joinOf := goodIn_r _ [21, 22, 23, 24, 4, 25, 26, 27, 28, 29, 11, 30, 31, 32, 33, 15, 16, 17, 54, 55, 56, 57, 58, 59, 60, 61, 62, 63, 64, 65, 66, 67, 68, 69, 70, 71, 72, 73, 74, 75, 76, 77, 78, 79, 80, 81, 82, 83] (by decide +kernel) (by decide +kernel)
set_option maxRecDepth 20000 in
theorem gX10_hasAllJoins_X10_joinOf : GoodIn wsX10_hasAllJoins (wsV RX10 240 RX10 yX10_joinOf wsX10_joinOf) := goodIn_app (goodIn_of _ (by decide +kernel)) ggX10_hasAllJoins_X10_joinOf
set_option maxRecDepth 20000 in
theorem ggX10_hasAllJoins_X10_meetOf : GoodIn wsX10_hasAllJoins wsX10_meetOf := goodIn_r _ [37, 38, 39, 40, 4, 41, 42, 43, 44, 45, 11, 15, 16, 17, 46, 47, 48, 49, 50, 51, 52, 53, 54, 55, 56, 57, 58, 59, 60, 61, 62, 63, 64, 65, 66, 67, 68, 69, 70, 71, 72, 73, 74, 75, 76, 77, 78, 79, 80, 81, 82, 83] (by decide +kernel) (by decide +kernel)
set_option maxRecDepth 20000 in
theorem gX10_hasAllJoins_X10_meetOf : GoodIn wsX10_hasAllJoins (wsV RX10 243 RX10 yX10_meetOf wsX10_meetOf) := goodIn_app (goodIn_of _ (by decide +kernel)) ggX10_hasAllJoins_X10_meetOf
theorem dX10_hasAllJoins_0 : decode cX10_hasAllJoins 0 = .ok (.iconst 0, 1) := by decide +kernel
theorem dX10_hasAllJoins_1 : decode cX10_hasAllJoins 1 = .ok (.istore_n 1, 1) := by decide +kernel
theorem dX10_hasAllJoins_2 : decode cX10_hasAllJoins 2 = .ok (.iload_n 1, 1) := by decide +kernel
theorem dX10_hasAllJoins_3 : decode cX10_hasAllJoins 3 = .ok (.bipush 9, 2) := by decide +kernel
theorem dX10_hasAllJoins_5 : decode cX10_hasAllJoins 5 = .ok (.if_icmp .ge 52, 3) := by decide +kernel
theorem dX10_hasAllJoins_8 : decode cX10_hasAllJoins 8 = .ok (.iconst 0, 1) := by decide +kernel
theorem dX10_hasAllJoins_9 : decode cX10_hasAllJoins 9 = .ok (.istore_n 2, 1) := by decide +kernel
theorem dX10_hasAllJoins_10 : decode cX10_hasAllJoins 10 = .ok (.iload_n 2, 1) := by decide +kernel
theorem dX10_hasAllJoins_11 : decode cX10_hasAllJoins 11 = .ok (.bipush 9, 2) := by decide +kernel
theorem dX10_hasAllJoins_13 : decode cX10_hasAllJoins 13 = .ok (.if_icmp .ge 38, 3) := by decide +kernel
theorem dX10_hasAllJoins_16 : decode cX10_hasAllJoins 16 = .ok (.aload_n 0, 1) := by decide +kernel
theorem dX10_hasAllJoins_17 : decode cX10_hasAllJoins 17 = .ok (.iload_n 1, 1) := by decide +kernel
theorem dX10_hasAllJoins_18 : decode cX10_hasAllJoins 18 = .ok (.iload_n 2, 1) := by decide +kernel
theorem dX10_hasAllJoins_19 : decode cX10_hasAllJoins 19 = .ok (.invokevirtual 197, 3) := by decide +kernel
theorem dX10_hasAllJoins_22 : decode cX10_hasAllJoins 22 = .ok (.ifCond .eq 23, 3) := by decide +kernel
theorem dX10_hasAllJoins_25 : decode cX10_hasAllJoins 25 = .ok (.aload_n 0, 1) := by decide +kernel
theorem dX10_hasAllJoins_26 : decode cX10_hasAllJoins 26 = .ok (.iload_n 1, 1) := by decide +kernel
theorem dX10_hasAllJoins_27 : decode cX10_hasAllJoins 27 = .ok (.iload_n 2, 1) := by decide +kernel
theorem dX10_hasAllJoins_28 : decode cX10_hasAllJoins 28 = .ok (.invokevirtual 240, 3) := by decide +kernel
theorem dX10_hasAllJoins_31 : decode cX10_hasAllJoins 31 = .ok (.ifCond .lt 12, 3) := by decide +kernel
theorem dX10_hasAllJoins_34 : decode cX10_hasAllJoins 34 = .ok (.aload_n 0, 1) := by decide +kernel
theorem dX10_hasAllJoins_35 : decode cX10_hasAllJoins 35 = .ok (.iload_n 1, 1) := by decide +kernel
theorem dX10_hasAllJoins_36 : decode cX10_hasAllJoins 36 = .ok (.iload_n 2, 1) := by decide +kernel
theorem dX10_hasAllJoins_37 : decode cX10_hasAllJoins 37 = .ok (.invokevirtual 243, 3) := by decide +kernel
theorem dX10_hasAllJoins_40 : decode cX10_hasAllJoins 40 = .ok (.ifCond .ge 5, 3) := by decide +kernel
theorem dX10_hasAllJoins_43 : decode cX10_hasAllJoins 43 = .ok (.iconst 0, 1) := by decide +kernel
theorem dX10_hasAllJoins_44 : decode cX10_hasAllJoins 44 = .ok (.ireturn, 1) := by decide +kernel
theorem dX10_hasAllJoins_45 : decode cX10_hasAllJoins 45 = .ok (.iinc 2 1, 3) := by decide +kernel
theorem dX10_hasAllJoins_48 : decode cX10_hasAllJoins 48 = .ok (.goto (-38), 3) := by decide +kernel
theorem dX10_hasAllJoins_51 : decode cX10_hasAllJoins 51 = .ok (.iinc 1 1, 3) := by decide +kernel
theorem dX10_hasAllJoins_54 : decode cX10_hasAllJoins 54 = .ok (.goto (-52), 3) := by decide +kernel
theorem dX10_hasAllJoins_57 : decode cX10_hasAllJoins 57 = .ok (.iconst 1, 1) := by decide +kernel
theorem dX10_hasAllJoins_58 : decode cX10_hasAllJoins 58 = .ok (.ireturn, 1) := by decide +kernel
set_option maxRecDepth 20000 in
theorem ggX10_isDealt_X10_areThere : GoodIn wsX10_isDealt wsX10_areThere := goodIn_r _ [5, 6, 7, 8, 4, 9, 10, 11, 12, 13, 14, 15, 16, 17, 54, 55, 56, 57, 58, 59, 60, 61, 62, 63, 64, 65, 66, 67, 68, 69, 70, 71, 72, 73, 74, 75, 76, 77, 78, 79, 80, 81, 82, 83] (by decide +kernel) (by decide +kernel)
set_option maxRecDepth 20000 in
theorem gX10_isDealt_X10_areThere : GoodIn wsX10_isDealt (wsV RX10 197 RX10 yX10_areThere wsX10_areThere) := goodIn_app (goodIn_of _ (by decide +kernel)) ggX10_isDealt_X10_areThere
set_option maxRecDepth 20000 in
theorem ggX10_isDealt_X10_isThere : GoodIn wsX10_isDealt wsX10_isThere := goodIn_r _ [9, 10, 11, 12, 13, 4, 14, 15, 16, 17, 54, 55, 56, 57, 58, 59, 60, 61, 62, 63, 64, 65, 66, 67, 68, 69, 70, 71, 72, 73, 74, 75, 76, 77, 78, 79, 80, 81, 82, 83] (by decide +kernel) (by decide +kernel)
set_option maxRecDepth 20000 in
theorem gX10_isDealt_X10_isThere : GoodIn wsX10_isDealt (wsV RX10 95 RX10 yX10_isThere wsX10_isThere) := goodIn_app (goodIn_of _ (by decide +kernel)) ggX10_isDealt_X10_isThere
set_option maxRecDepth 20000 in
theorem ggX10_isDealt_X10_downTo : GoodIn wsX10_isDealt wsX10_downTo := goodIn_r _ [21, 22, 23, 24, 4, 25, 11, 15, 16, 17, 26, 27, 28, 29, 54, 55, 56, 57, 58, 59, 60, 61, 62, 63, 64, 65, 66, 67, 68, 69, 70, 71, 72, 73, 74, 75, 76, 77, 78, 79, 80, 81, 82, 83] (by decide +kernel) (by decide +kernel)
set_option maxRecDepth 20000 in
theorem gX10_isDealt_X10_downTo : GoodIn wsX10_isDealt (wsV RX10 231 RX10 yX10_downTo wsX10_downTo) := goodIn_app (goodIn_of _ (by decide +kernel)) ggX10_isDealt_X10_downTo
set_option maxRecDepth 20000 in
theorem ggX10_isDealt_X10_has : GoodIn wsX10_isDealt wsX10_has := goodIn_r _ [17] (by decide +kernel) (by decide +kernel)
set_option maxRecDepth 20000 in
theorem gX10_isDealt_X10_has : GoodIn wsX10_isDealt (va_wsS RX10 91 yX10_has wsX10_has) := goodIn_app (goodIn_of _ (by decide +kernel)) ggX10_isDealt_X10_has
set_option maxRecDepth 20000 in
theorem ggX10_isDealt_X10_joinOf : GoodIn wsX10_isDealt wsX10_joinOf := goodIn_r _ [33, 34, 35, 36, 4, 37, 38, 39, 40, 41, 11, 42, 43, 44, 45, 15, 16, 17, 54, 55, 56, 57, 58, 59, 60, 61, 62, 63, 64, 65, 66, 67, 68, 69, 70, 71, 72, 73, 74, 75, 76, 77, 78, 79, 80, 81, 82, 83] (by decide +kernel) (by decide +kernel)
set_option maxRecDepth 20000 in
theorem gX10_isDealt_X10_joinOf : GoodIn wsX10_isDealt (wsV RX10 240 RX10 yX10_joinOf wsX10_joinOf) := goodIn_app (goodIn_of _ (by decide +kernel)) ggX10_isDealt_X10_joinOf
set_option maxRecDepth 20000 in
theorem ggX10_isDealt_X10_meetOf : GoodIn wsX10_isDealt wsX10_meetOf := goodIn_r _ [49, 18, 19, 20, 4, 21, 22, 23, 24, 25, 11, 15, 16, 17, 26, 27, 28, 29, 50, 51, 52, 53, 54, 55, 56, 57, 58, 59, 60, 61, 62, 63, 64, 65, 66, 67, 68, 69, 70, 71, 72, 73, 74, 75, 76, 77, 78, 79, 80, 81, 82, 83] (by decide +kernel) (by decide +kernel)
set_option maxRecDepth 20000 in
theorem gX10_isDealt_X10_meetOf : GoodIn wsX10_isDealt (wsV RX10 243 RX10 yX10_meetOf wsX10_meetOf) := goodIn_app (goodIn_of _ (by decide +kernel)) ggX10_isDealt_X10_meetOf
theorem dX10_isDealt_0 : decode cX10_isDealt 0 = .ok (.iconst 0, 1) := by decide +kernel
theorem dX10_isDealt_1 : decode cX10_isDealt 1 = .ok (.istore_n 2, 1) := by decide +kernel
theorem dX10_isDealt_2 : decode cX10_isDealt 2 = .ok (.iload_n 2, 1) := by decide +kernel
theorem dX10_isDealt_3 : decode cX10_isDealt 3 = .ok (.bipush 9, 2) := by decide +kernel
theorem dX10_isDealt_5 : decode cX10_isDealt 5 = .ok (.if_icmp .ge 120, 3) := by decide +kernel
theorem dX10_isDealt_8 : decode cX10_isDealt 8 = .ok (.iconst 0, 1) := by decide +kernel
theorem dX10_isDealt_9 : decode cX10_isDealt 9 = .ok (.istore_n 3, 1) := by decide +kernel
theorem dX10_isDealt_10 : decode cX10_isDealt 10 = .ok (.iload_n 3, 1) := by decide +kernel
theorem dX10_isDealt_11 : decode cX10_isDealt 11 = .ok (.bipush 9, 2) := by decide +kernel
theorem dX10_isDealt_13 : decode cX10_isDealt 13 = .ok (.if_icmp .ge 106, 3) := by decide +kernel
theorem dX10_isDealt_16 : decode cX10_isDealt 16 = .ok (.iconst 0, 1) := by decide +kernel
theorem dX10_isDealt_17 : decode cX10_isDealt 17 = .ok (.istore 4, 2) := by decide +kernel
theorem dX10_isDealt_19 : decode cX10_isDealt 19 = .ok (.iload 4, 2) := by decide +kernel
theorem dX10_isDealt_21 : decode cX10_isDealt 21 = .ok (.bipush 9, 2) := by decide +kernel
theorem dX10_isDealt_23 : decode cX10_isDealt 23 = .ok (.if_icmp .ge 90, 3) := by decide +kernel
theorem dX10_isDealt_26 : decode cX10_isDealt 26 = .ok (.aload_n 0, 1) := by decide +kernel
theorem dX10_isDealt_27 : decode cX10_isDealt 27 = .ok (.iload_n 2, 1) := by decide +kernel
theorem dX10_isDealt_28 : decode cX10_isDealt 28 = .ok (.iload_n 3, 1) := by decide +kernel
theorem dX10_isDealt_29 : decode cX10_isDealt 29 = .ok (.invokevirtual 197, 3) := by decide +kernel
theorem dX10_isDealt_32 : decode cX10_isDealt 32 = .ok (.ifCond .eq 33, 3) := by decide +kernel
theorem dX10_isDealt_35 : decode cX10_isDealt 35 = .ok (.aload_n 0, 1) := by decide +kernel
theorem dX10_isDealt_36 : decode cX10_isDealt 36 = .ok (.iload 4, 2) := by decide +kernel
theorem dX10_isDealt_38 : decode cX10_isDealt 38 = .ok (.invokevirtual 95, 3) := by decide +kernel
theorem dX10_isDealt_41 : decode cX10_isDealt 41 = .ok (.ifCond .eq 24, 3) := by decide +kernel
theorem dX10_isDealt_44 : decode cX10_isDealt 44 = .ok (.iload_n 1, 1) := by decide +kernel
theorem dX10_isDealt_45 : decode cX10_isDealt 45 = .ok (.ifCond .eq 16, 3) := by decide +kernel
theorem dX10_isDealt_48 : decode cX10_isDealt 48 = .ok (.aload_n 0, 1) := by decide +kernel
theorem dX10_isDealt_49 : decode cX10_isDealt 49 = .ok (.iload_n 2, 1) := by decide +kernel
theorem dX10_isDealt_50 : decode cX10_isDealt 50 = .ok (.invokevirtual 231, 3) := by decide +kernel
theorem dX10_isDealt_53 : decode cX10_isDealt 53 = .ok (.iload 4, 2) := by decide +kernel
theorem dX10_isDealt_55 : decode cX10_isDealt 55 = .ok (.invokestatic 91, 3) := by decide +kernel
theorem dX10_isDealt_58 : decode cX10_isDealt 58 = .ok (.ifCond .eq 7, 3) := by decide +kernel
theorem dX10_isDealt_61 : decode cX10_isDealt 61 = .ok (.iconst 1, 1) := by decide +kernel
theorem dX10_isDealt_62 : decode cX10_isDealt 62 = .ok (.goto 4, 3) := by decide +kernel
theorem dX10_isDealt_65 : decode cX10_isDealt 65 = .ok (.iconst 0, 1) := by decide +kernel
theorem dX10_isDealt_66 : decode cX10_isDealt 66 = .ok (.istore 5, 2) := by decide +kernel
theorem dX10_isDealt_68 : decode cX10_isDealt 68 = .ok (.iload 5, 2) := by decide +kernel
theorem dX10_isDealt_70 : decode cX10_isDealt 70 = .ok (.ifCond .eq 37, 3) := by decide +kernel
theorem dX10_isDealt_73 : decode cX10_isDealt 73 = .ok (.aload_n 0, 1) := by decide +kernel
theorem dX10_isDealt_74 : decode cX10_isDealt 74 = .ok (.iload_n 2, 1) := by decide +kernel
theorem dX10_isDealt_75 : decode cX10_isDealt 75 = .ok (.aload_n 0, 1) := by decide +kernel
theorem dX10_isDealt_76 : decode cX10_isDealt 76 = .ok (.iload_n 3, 1) := by decide +kernel
theorem dX10_isDealt_77 : decode cX10_isDealt 77 = .ok (.iload 4, 2) := by decide +kernel
theorem dX10_isDealt_79 : decode cX10_isDealt 79 = .ok (.invokevirtual 240, 3) := by decide +kernel
theorem dX10_isDealt_82 : decode cX10_isDealt 82 = .ok (.invokevirtual 243, 3) := by decide +kernel
theorem dX10_isDealt_85 : decode cX10_isDealt 85 = .ok (.aload_n 0, 1) := by decide +kernel
theorem dX10_isDealt_86 : decode cX10_isDealt 86 = .ok (.aload_n 0, 1) := by decide +kernel
theorem dX10_isDealt_87 : decode cX10_isDealt 87 = .ok (.iload_n 2, 1) := by decide +kernel
theorem dX10_isDealt_88 : decode cX10_isDealt 88 = .ok (.iload_n 3, 1) := by decide +kernel
theorem dX10_isDealt_89 : decode cX10_isDealt 89 = .ok (.invokevirtual 243, 3) := by decide +kernel
theorem dX10_isDealt_92 : decode cX10_isDealt 92 = .ok (.aload_n 0, 1) := by decide +kernel
theorem dX10_isDealt_93 : decode cX10_isDealt 93 = .ok (.iload_n 2, 1) := by decide +kernel
theorem dX10_isDealt_94 : decode cX10_isDealt 94 = .ok (.iload 4, 2) := by decide +kernel
theorem dX10_isDealt_96 : decode cX10_isDealt 96 = .ok (.invokevirtual 243, 3) := by decide +kernel
theorem dX10_isDealt_99 : decode cX10_isDealt 99 = .ok (.invokevirtual 240, 3) := by decide +kernel
theorem dX10_isDealt_102 : decode cX10_isDealt 102 = .ok (.if_icmp .eq 5, 3) := by decide +kernel
theorem dX10_isDealt_105 : decode cX10_isDealt 105 = .ok (.iconst 0, 1) := by decide +kernel
theorem dX10_isDealt_106 : decode cX10_isDealt 106 = .ok (.ireturn, 1) := by decide +kernel
theorem dX10_isDealt_107 : decode cX10_isDealt 107 = .ok (.iinc 4 1, 3) := by decide +kernel
theorem dX10_isDealt_110 : decode cX10_isDealt 110 = .ok (.goto (-91), 3) := by decide +kernel
theorem dX10_isDealt_113 : decode cX10_isDealt 113 = .ok (.iinc 3 1, 3) := by decide +kernel
theorem dX10_isDealt_116 : decode cX10_isDealt 116 = .ok (.goto (-106), 3) := by decide +kernel
theorem dX10_isDealt_119 : decode cX10_isDealt 119 = .ok (.iinc 2 1, 3) := by decide +kernel
theorem dX10_isDealt_122 : decode cX10_isDealt 122 = .ok (.goto (-120), 3) := by decide +kernel
theorem dX10_isDealt_125 : decode cX10_isDealt 125 = .ok (.iconst 1, 1) := by decide +kernel
theorem dX10_isDealt_126 : decode cX10_isDealt 126 = .ok (.ireturn, 1) := by decide +kernel
set_option maxRecDepth 20000 in
theorem ggX10_isRow_X10_pairs : GoodIn wsX10_isRow wsX10_pairs := goodIn_r _ [6, 1, 7, 8, 5, 9, 10, 11, 12, 13, 14, 15, 16, 17, 18, 19, 20, 21, 22, 23, 24, 25, 26, 27, 28, 29, 30, 31, 32, 33, 34, 35, 36, 37, 38, 39, 40, 41, 42, 43, 44, 45, 46] (by decide +kernel) (by decide +kernel)
set_option maxRecDepth 20000 in
theorem gX10_isRow_X10_pairs : GoodIn wsX10_isRow (wsV RX10 203 RX10 yX10_pairs wsX10_pairs) := goodIn_app (goodIn_of _ (by decide +kernel)) ggX10_isRow_X10_pairs
set_option maxRecDepth 20000 in
theorem ggX10_isRow_X10_bits : GoodIn wsX10_isRow wsX10_bits := goodIn_r _ [16] (by decide +kernel) (by decide +kernel)
set_option maxRecDepth 20000 in
theorem gX10_isRow_X10_bits : GoodIn wsX10_isRow (va_wsS RX10 194 yX10_bits wsX10_bits) := goodIn_app (goodIn_of _ (by decide +kernel)) ggX10_isRow_X10_bits
theorem dX10_isRow_0 : decode cX10_isRow 0 = .ok (.aload_n 0, 1) := by decide +kernel
theorem dX10_isRow_1 : decode cX10_isRow 1 = .ok (.invokevirtual 203, 3) := by decide +kernel
theorem dX10_isRow_4 : decode cX10_isRow 4 = .ok (.aload_n 0, 1) := by decide +kernel
theorem dX10_isRow_5 : decode cX10_isRow 5 = .ok (.getfield 9, 3) := by decide +kernel
theorem dX10_isRow_8 : decode cX10_isRow 8 = .ok (.iconst 1, 1) := by decide +kernel
theorem dX10_isRow_9 : decode cX10_isRow 9 = .ok (.iaload, 1) := by decide +kernel
theorem dX10_isRow_10 : decode cX10_isRow 10 = .ok (.invokestatic 194, 3) := by decide +kernel
theorem dX10_isRow_13 : decode cX10_isRow 13 = .ok (.aload_n 0, 1) := by decide +kernel
theorem dX10_isRow_14 : decode cX10_isRow 14 = .ok (.getfield 9, 3) := by decide +kernel
theorem dX10_isRow_17 : decode cX10_isRow 17 = .ok (.iconst 1, 1) := by decide +kernel
theorem dX10_isRow_18 : decode cX10_isRow 18 = .ok (.iaload, 1) := by decide +kernel
theorem dX10_isRow_19 : decode cX10_isRow 19 = .ok (.invokestatic 194, 3) := by decide +kernel
theorem dX10_isRow_22 : decode cX10_isRow 22 = .ok (.iconst 1, 1) := by decide +kernel
theorem dX10_isRow_23 : decode cX10_isRow 23 = .ok (.isub, 1) := by decide +kernel
theorem dX10_isRow_24 : decode cX10_isRow 24 = .ok (.imul, 1) := by decide +kernel
theorem dX10_isRow_25 : decode cX10_isRow 25 = .ok (.iconst 2, 1) := by decide +kernel
theorem dX10_isRow_26 : decode cX10_isRow 26 = .ok (.idiv, 1) := by decide +kernel
theorem dX10_isRow_27 : decode cX10_isRow 27 = .ok (.if_icmp .ne 7, 3) := by decide +kernel
theorem dX10_isRow_30 : decode cX10_isRow 30 = .ok (.iconst 1, 1) := by decide +kernel
theorem dX10_isRow_31 : decode cX10_isRow 31 = .ok (.goto 4, 3) := by decide +kernel
theorem dX10_isRow_34 : decode cX10_isRow 34 = .ok (.iconst 0, 1) := by decide +kernel
theorem dX10_isRow_35 : decode cX10_isRow 35 = .ok (.ireturn, 1) := by decide +kernel
set_option maxRecDepth 20000 in
theorem ggX10_kind_X10_isTold : GoodIn wsX10_kind wsX10_isTold := goodIn_r _ [8, 3, 136, 137, 138, 139, 140, 141, 142, 143, 144, 145, 146, 147, 148, 149, 150, 151, 152, 153, 154, 155, 156, 157, 158, 159, 160, 161, 162, 163, 164, 165] (by decide +kernel) (by decide +kernel)
set_option maxRecDepth 20000 in
theorem gX10_kind_X10_isTold : GoodIn wsX10_kind (wsV RX10 208 RX10 yX10_isTold wsX10_isTold) := goodIn_app (goodIn_of _ (by decide +kernel)) ggX10_kind_X10_isTold
set_option maxRecDepth 20000 in
theorem ggX10_kind_X10_isIn : GoodIn wsX10_kind wsX10_isIn := goodIn_r _ [11] (by decide +kernel) (by decide +kernel)
set_option maxRecDepth 20000 in
theorem gX10_kind_X10_isIn : GoodIn wsX10_kind (va_wsS RX10 87 yX10_isIn wsX10_isIn) := goodIn_app (goodIn_of _ (by decide +kernel)) ggX10_kind_X10_isIn
set_option maxRecDepth 20000 in
theorem ggX10_kind_X10_leastOf : GoodIn wsX10_kind wsX10_leastOf := goodIn_r _ [15, 16, 17, 7, 18, 19, 20, 21, 22, 23, 24, 25, 26, 3, 136, 137, 138, 139, 140, 141, 142, 143, 144, 145, 146, 147, 148, 149, 150, 151, 152, 153, 154, 155, 156, 157, 158, 159, 160, 161, 162, 163, 164, 165] (by decide +kernel) (by decide +kernel)
set_option maxRecDepth 20000 in
theorem gX10_kind_X10_leastOf : GoodIn wsX10_kind (wsV RX10 234 RX10 yX10_leastOf wsX10_leastOf) := goodIn_app (goodIn_of _ (by decide +kernel)) ggX10_kind_X10_leastOf
set_option maxRecDepth 20000 in
theorem ggX10_kind_X10_greatestOf : GoodIn wsX10_kind wsX10_greatestOf := goodIn_r _ [30, 16, 17, 7, 18, 31, 32, 33, 34, 35, 36, 37, 38, 3, 39, 40, 41, 42, 136, 137, 138, 139, 140, 141, 142, 143, 144, 145, 146, 147, 148, 149, 150, 151, 152, 153, 154, 155, 156, 157, 158, 159, 160, 161, 162, 163, 164, 165] (by decide +kernel) (by decide +kernel)
set_option maxRecDepth 20000 in
theorem gX10_kind_X10_greatestOf : GoodIn wsX10_kind (wsV RX10 237 RX10 yX10_greatestOf wsX10_greatestOf) := goodIn_app (goodIn_of _ (by decide +kernel)) ggX10_kind_X10_greatestOf
set_option maxRecDepth 20000 in
theorem ggX10_kind_X10_isEven : GoodIn wsX10_kind wsX10_isEven := goodIn_r _ [46, 47, 48, 49, 7, 50, 51, 52, 53, 54, 55, 3, 9, 10, 11, 16, 17, 18, 39, 40, 41, 42, 56, 57, 58, 59, 60, 61, 62, 63, 64, 65, 66, 67, 68, 69, 70, 71, 72, 73, 74, 75, 76, 77, 78, 79, 80, 81, 82, 83, 84, 85, 86, 87, 88, 89, 90, 91, 92, 19, 20, 21, 22, 23, 24, 25, 26, 31, 32, 33, 34, 35, 36, 37, 38, 93, 94, 95, 96, 97, 98, 99, 100, 101, 102, 103, 104, 105, 106, 107, 108, 136, 137, 138, 139, 140, 141, 142, 143, 144, 145, 146, 147, 148, 149, 150, 151, 152, 153, 154, 155, 156, 157, 158, 159, 160, 161, 162, 163, 164, 165] (by decide +kernel) (by decide +kernel)
set_option maxRecDepth 20000 in
theorem gX10_kind_X10_isEven : GoodIn wsX10_kind (wsV RX10 254 RX10 yX10_isEven wsX10_isEven) := goodIn_app (goodIn_of _ (by decide +kernel)) ggX10_kind_X10_isEven
set_option maxRecDepth 20000 in
theorem ggX10_kind_X10_hasAllJoins : GoodIn wsX10_kind wsX10_hasAllJoins := goodIn_r _ [112, 47, 48, 49, 7, 50, 51, 52, 53, 54, 55, 3, 9, 10, 11, 16, 17, 18, 113, 114, 115, 116, 19, 20, 21, 22, 23, 24, 25, 26, 12, 13, 14, 15, 117, 118, 119, 120, 31, 32, 33, 34, 35, 36, 37, 38, 39, 40, 41, 42, 27, 28, 29, 30, 136, 137, 138, 139, 140, 141, 142, 143, 144, 145, 146, 147, 148, 149, 150, 151, 152, 153, 154, 155, 156, 157, 158, 159, 160, 161, 162, 163, 164, 165] (by decide +kernel) (by decide +kernel)
set_option maxRecDepth 20000 in
theorem gX10_kind_X10_hasAllJoins : GoodIn wsX10_kind (wsV RX10 257 RX10 yX10_hasAllJoins wsX10_hasAllJoins) := goodIn_app (goodIn_of _ (by decide +kernel)) ggX10_kind_X10_hasAllJoins
set_option maxRecDepth 20000 in
theorem ggX10_kind_X10_isDealt : GoodIn wsX10_kind wsX10_isDealt := goodIn_r _ [124, 47, 48, 49, 7, 50, 51, 52, 53, 54, 55, 3, 9, 10, 11, 16, 17, 18, 31, 32, 33, 34, 35, 36, 37, 38, 39, 40, 41, 42, 113, 114, 115, 116, 19, 20, 21, 22, 23, 24, 25, 26, 12, 13, 14, 15, 117, 118, 119, 120, 27, 28, 29, 30, 136, 137, 138, 139, 140, 141, 142, 143, 144, 145, 146, 147, 148, 149, 150, 151, 152, 153, 154, 155, 156, 157, 158, 159, 160, 161, 162, 163, 164, 165] (by decide +kernel) (by decide +kernel)
set_option maxRecDepth 20000 in
theorem gX10_kind_X10_isDealt : GoodIn wsX10_kind (wsV RX10 260 RX10 yX10_isDealt wsX10_isDealt) := goodIn_app (goodIn_of _ (by decide +kernel)) ggX10_kind_X10_isDealt
set_option maxRecDepth 20000 in
theorem ggX10_kind_X10_isRow : GoodIn wsX10_kind wsX10_isRow := goodIn_r _ [128, 3, 129, 130, 131, 7, 132, 16, 17, 18, 23, 24, 25, 26, 133, 134, 135, 136, 137, 138, 139, 140, 141, 142, 143, 144, 145, 146, 147, 148, 149, 150, 151, 152, 153, 154, 155, 156, 157, 158, 159, 160, 161, 162, 163, 164, 165] (by decide +kernel) (by decide +kernel)
set_option maxRecDepth 20000 in
theorem gX10_kind_X10_isRow : GoodIn wsX10_kind (wsV RX10 264 RX10 yX10_isRow wsX10_isRow) := goodIn_app (goodIn_of _ (by decide +kernel)) ggX10_kind_X10_isRow
theorem dX10_kind_0 : decode cX10_kind 0 = .ok (.aload_n 0, 1) := by decide +kernel
theorem dX10_kind_1 : decode cX10_kind 1 = .ok (.iconst 0, 1) := by decide +kernel
theorem dX10_kind_2 : decode cX10_kind 2 = .ok (.putfield 82, 3) := by decide +kernel
theorem dX10_kind_5 : decode cX10_kind 5 = .ok (.aload_n 0, 1) := by decide +kernel
theorem dX10_kind_6 : decode cX10_kind 6 = .ok (.invokevirtual 208, 3) := by decide +kernel
theorem dX10_kind_9 : decode cX10_kind 9 = .ok (.ifCond .eq 15, 3) := by decide +kernel
theorem dX10_kind_12 : decode cX10_kind 12 = .ok (.iload_n 1, 1) := by decide +kernel
theorem dX10_kind_13 : decode cX10_kind 13 = .ok (.i2l, 1) := by decide +kernel
theorem dX10_kind_14 : decode cX10_kind 14 = .ok (.lconst 0, 1) := by decide +kernel
theorem dX10_kind_15 : decode cX10_kind 15 = .ok (.ldc2_w 252, 3) := by decide +kernel
theorem dX10_kind_18 : decode cX10_kind 18 = .ok (.invokestatic 87, 3) := by decide +kernel
theorem dX10_kind_21 : decode cX10_kind 21 = .ok (.ifCond .ne 5, 3) := by decide +kernel
theorem dX10_kind_24 : decode cX10_kind 24 = .ok (.iconst (-1), 1) := by decide +kernel
theorem dX10_kind_25 : decode cX10_kind 25 = .ok (.ireturn, 1) := by decide +kernel
theorem dX10_kind_26 : decode cX10_kind 26 = .ok (.iload_n 1, 1) := by decide +kernel
theorem dX10_kind_27 : decode cX10_kind 27 = .ok (.tableswitch 132 0 4 #[33, 68, 76, 84, 108], 33) := by decide +kernel
theorem dX10_kind_60 : decode cX10_kind 60 = .ok (.aload_n 0, 1) := by decide +kernel
theorem dX10_kind_61 : decode cX10_kind 61 = .ok (.aload_n 0, 1) := by decide +kernel
theorem dX10_kind_62 : decode cX10_kind 62 = .ok (.getfield 9, 3) := by decide +kernel
theorem dX10_kind_65 : decode cX10_kind 65 = .ok (.iconst 1, 1) := by decide +kernel
theorem dX10_kind_66 : decode cX10_kind 66 = .ok (.iaload, 1) := by decide +kernel
theorem dX10_kind_67 : decode cX10_kind 67 = .ok (.invokevirtual 234, 3) := by decide +kernel
theorem dX10_kind_70 : decode cX10_kind 70 = .ok (.ifCond .lt 20, 3) := by decide +kernel
theorem dX10_kind_73 : decode cX10_kind 73 = .ok (.aload_n 0, 1) := by decide +kernel
theorem dX10_kind_74 : decode cX10_kind 74 = .ok (.aload_n 0, 1) := by decide +kernel
theorem dX10_kind_75 : decode cX10_kind 75 = .ok (.getfield 9, 3) := by decide +kernel
theorem dX10_kind_78 : decode cX10_kind 78 = .ok (.iconst 1, 1) := by decide +kernel
theorem dX10_kind_79 : decode cX10_kind 79 = .ok (.iaload, 1) := by decide +kernel
theorem dX10_kind_80 : decode cX10_kind 80 = .ok (.invokevirtual 237, 3) := by decide +kernel
theorem dX10_kind_83 : decode cX10_kind 83 = .ok (.ifCond .lt 7, 3) := by decide +kernel
theorem dX10_kind_86 : decode cX10_kind 86 = .ok (.iconst 1, 1) := by decide +kernel
theorem dX10_kind_87 : decode cX10_kind 87 = .ok (.goto 4, 3) := by decide +kernel
theorem dX10_kind_90 : decode cX10_kind 90 = .ok (.iconst 0, 1) := by decide +kernel
theorem dX10_kind_91 : decode cX10_kind 91 = .ok (.istore_n 2, 1) := by decide +kernel
theorem dX10_kind_92 : decode cX10_kind 92 = .ok (.goto 72, 3) := by decide +kernel
theorem dX10_kind_95 : decode cX10_kind 95 = .ok (.aload_n 0, 1) := by decide +kernel
theorem dX10_kind_96 : decode cX10_kind 96 = .ok (.invokevirtual 254, 3) := by decide +kernel
theorem dX10_kind_99 : decode cX10_kind 99 = .ok (.istore_n 2, 1) := by decide +kernel
theorem dX10_kind_100 : decode cX10_kind 100 = .ok (.goto 64, 3) := by decide +kernel
theorem dX10_kind_103 : decode cX10_kind 103 = .ok (.aload_n 0, 1) := by decide +kernel
theorem dX10_kind_104 : decode cX10_kind 104 = .ok (.invokevirtual 257, 3) := by decide +kernel
theorem dX10_kind_107 : decode cX10_kind 107 = .ok (.istore_n 2, 1) := by decide +kernel
theorem dX10_kind_108 : decode cX10_kind 108 = .ok (.goto 56, 3) := by decide +kernel
theorem dX10_kind_111 : decode cX10_kind 111 = .ok (.aload_n 0, 1) := by decide +kernel
theorem dX10_kind_112 : decode cX10_kind 112 = .ok (.invokevirtual 257, 3) := by decide +kernel
theorem dX10_kind_115 : decode cX10_kind 115 = .ok (.ifCond .eq 15, 3) := by decide +kernel
theorem dX10_kind_118 : decode cX10_kind 118 = .ok (.aload_n 0, 1) := by decide +kernel
theorem dX10_kind_119 : decode cX10_kind 119 = .ok (.iconst 0, 1) := by decide +kernel
theorem dX10_kind_120 : decode cX10_kind 120 = .ok (.invokevirtual 260, 3) := by decide +kernel
theorem dX10_kind_123 : decode cX10_kind 123 = .ok (.ifCond .eq 7, 3) := by decide +kernel
theorem dX10_kind_126 : decode cX10_kind 126 = .ok (.iconst 1, 1) := by decide +kernel
theorem dX10_kind_127 : decode cX10_kind 127 = .ok (.goto 4, 3) := by decide +kernel
theorem dX10_kind_130 : decode cX10_kind 130 = .ok (.iconst 0, 1) := by decide +kernel
theorem dX10_kind_131 : decode cX10_kind 131 = .ok (.istore_n 2, 1) := by decide +kernel
theorem dX10_kind_132 : decode cX10_kind 132 = .ok (.goto 32, 3) := by decide +kernel
theorem dX10_kind_135 : decode cX10_kind 135 = .ok (.aload_n 0, 1) := by decide +kernel
theorem dX10_kind_136 : decode cX10_kind 136 = .ok (.invokevirtual 257, 3) := by decide +kernel
theorem dX10_kind_139 : decode cX10_kind 139 = .ok (.ifCond .eq 15, 3) := by decide +kernel
theorem dX10_kind_142 : decode cX10_kind 142 = .ok (.aload_n 0, 1) := by decide +kernel
theorem dX10_kind_143 : decode cX10_kind 143 = .ok (.iconst 1, 1) := by decide +kernel
theorem dX10_kind_144 : decode cX10_kind 144 = .ok (.invokevirtual 260, 3) := by decide +kernel
theorem dX10_kind_147 : decode cX10_kind 147 = .ok (.ifCond .eq 7, 3) := by decide +kernel
theorem dX10_kind_150 : decode cX10_kind 150 = .ok (.iconst 1, 1) := by decide +kernel
theorem dX10_kind_151 : decode cX10_kind 151 = .ok (.goto 4, 3) := by decide +kernel
theorem dX10_kind_154 : decode cX10_kind 154 = .ok (.iconst 0, 1) := by decide +kernel
theorem dX10_kind_155 : decode cX10_kind 155 = .ok (.istore_n 2, 1) := by decide +kernel
theorem dX10_kind_156 : decode cX10_kind 156 = .ok (.goto 8, 3) := by decide +kernel
theorem dX10_kind_159 : decode cX10_kind 159 = .ok (.aload_n 0, 1) := by decide +kernel
theorem dX10_kind_160 : decode cX10_kind 160 = .ok (.invokevirtual 264, 3) := by decide +kernel
theorem dX10_kind_163 : decode cX10_kind 163 = .ok (.istore_n 2, 1) := by decide +kernel
theorem dX10_kind_164 : decode cX10_kind 164 = .ok (.iload_n 2, 1) := by decide +kernel
theorem dX10_kind_165 : decode cX10_kind 165 = .ok (.ifCond .eq 7, 3) := by decide +kernel
theorem dX10_kind_168 : decode cX10_kind 168 = .ok (.iconst 1, 1) := by decide +kernel
theorem dX10_kind_169 : decode cX10_kind 169 = .ok (.goto 4, 3) := by decide +kernel
theorem dX10_kind_172 : decode cX10_kind 172 = .ok (.iconst 0, 1) := by decide +kernel
theorem dX10_kind_173 : decode cX10_kind 173 = .ok (.ireturn, 1) := by decide +kernel
set_option maxRecDepth 20000 in
theorem ggX10_someAbove_X10_has : GoodIn wsX10_someAbove wsX10_has := goodIn_r _ [4] (by decide +kernel) (by decide +kernel)
set_option maxRecDepth 20000 in
theorem gX10_someAbove_X10_has : GoodIn wsX10_someAbove (va_wsS RX10 91 yX10_has wsX10_has) := goodIn_app (goodIn_of _ (by decide +kernel)) ggX10_someAbove_X10_has
set_option maxRecDepth 20000 in
theorem ggX10_someAbove_X10_above : GoodIn wsX10_someAbove wsX10_above := goodIn_r _ [8, 9, 10, 11, 12, 13, 14, 15, 16, 17, 18, 19, 20, 21, 22, 23, 24, 25, 26, 27, 28, 29, 30, 31, 32, 33, 34, 35, 36, 37, 38, 39] (by decide +kernel) (by decide +kernel)
set_option maxRecDepth 20000 in
theorem gX10_someAbove_X10_above : GoodIn wsX10_someAbove (wsV RX10 102 RX10 yX10_above wsX10_above) := goodIn_app (goodIn_of _ (by decide +kernel)) ggX10_someAbove_X10_above
theorem dX10_someAbove_0 : decode cX10_someAbove 0 = .ok (.iconst 0, 1) := by decide +kernel
theorem dX10_someAbove_1 : decode cX10_someAbove 1 = .ok (.istore_n 2, 1) := by decide +kernel
theorem dX10_someAbove_2 : decode cX10_someAbove 2 = .ok (.iconst 0, 1) := by decide +kernel
theorem dX10_someAbove_3 : decode cX10_someAbove 3 = .ok (.istore_n 3, 1) := by decide +kernel
theorem dX10_someAbove_4 : decode cX10_someAbove 4 = .ok (.iload_n 3, 1) := by decide +kernel
theorem dX10_someAbove_5 : decode cX10_someAbove 5 = .ok (.bipush 9, 2) := by decide +kernel
theorem dX10_someAbove_7 : decode cX10_someAbove 7 = .ok (.if_icmp .ge 29, 3) := by decide +kernel
theorem dX10_someAbove_10 : decode cX10_someAbove 10 = .ok (.iload_n 2, 1) := by decide +kernel
theorem dX10_someAbove_11 : decode cX10_someAbove 11 = .ok (.iload_n 1, 1) := by decide +kernel
theorem dX10_someAbove_12 : decode cX10_someAbove 12 = .ok (.iload_n 3, 1) := by decide +kernel
theorem dX10_someAbove_13 : decode cX10_someAbove 13 = .ok (.invokestatic 91, 3) := by decide +kernel
theorem dX10_someAbove_16 : decode cX10_someAbove 16 = .ok (.ifCond .eq 11, 3) := by decide +kernel
theorem dX10_someAbove_19 : decode cX10_someAbove 19 = .ok (.aload_n 0, 1) := by decide +kernel
theorem dX10_someAbove_20 : decode cX10_someAbove 20 = .ok (.iload_n 3, 1) := by decide +kernel
theorem dX10_someAbove_21 : decode cX10_someAbove 21 = .ok (.invokevirtual 102, 3) := by decide +kernel
theorem dX10_someAbove_24 : decode cX10_someAbove 24 = .ok (.goto 4, 3) := by decide +kernel
theorem dX10_someAbove_27 : decode cX10_someAbove 27 = .ok (.iconst 0, 1) := by decide +kernel
theorem dX10_someAbove_28 : decode cX10_someAbove 28 = .ok (.ior, 1) := by decide +kernel
theorem dX10_someAbove_29 : decode cX10_someAbove 29 = .ok (.istore_n 2, 1) := by decide +kernel
theorem dX10_someAbove_30 : decode cX10_someAbove 30 = .ok (.iinc 3 1, 3) := by decide +kernel
theorem dX10_someAbove_33 : decode cX10_someAbove 33 = .ok (.goto (-29), 3) := by decide +kernel
theorem dX10_someAbove_36 : decode cX10_someAbove 36 = .ok (.iload_n 2, 1) := by decide +kernel
theorem dX10_someAbove_37 : decode cX10_someAbove 37 = .ok (.ireturn, 1) := by decide +kernel
set_option maxRecDepth 20000 in
theorem ggX10_someBelow_X10_has : GoodIn wsX10_someBelow wsX10_has := goodIn_r _ [4] (by decide +kernel) (by decide +kernel)
set_option maxRecDepth 20000 in
theorem gX10_someBelow_X10_has : GoodIn wsX10_someBelow (va_wsS RX10 91 yX10_has wsX10_has) := goodIn_app (goodIn_of _ (by decide +kernel)) ggX10_someBelow_X10_has
set_option maxRecDepth 20000 in
theorem ggX10_someBelow_X10_below : GoodIn wsX10_someBelow wsX10_below := goodIn_r _ [8, 9, 1, 2, 3, 4, 10, 11, 12, 13, 14, 15, 16, 17, 18, 19, 20, 21, 22, 23, 24, 25, 26, 27, 28, 29, 30, 31, 32, 33, 34, 35, 36, 37, 38, 39, 40, 41, 42, 43] (by decide +kernel) (by decide +kernel)
set_option maxRecDepth 20000 in
theorem gX10_someBelow_X10_below : GoodIn wsX10_someBelow (wsV RX10 106 RX10 yX10_below wsX10_below) := goodIn_app (goodIn_of _ (by decide +kernel)) ggX10_someBelow_X10_below
theorem dX10_someBelow_0 : decode cX10_someBelow 0 = .ok (.iconst 0, 1) := by decide +kernel
theorem dX10_someBelow_1 : decode cX10_someBelow 1 = .ok (.istore_n 2, 1) := by decide +kernel
theorem dX10_someBelow_2 : decode cX10_someBelow 2 = .ok (.iconst 0, 1) := by decide +kernel
theorem dX10_someBelow_3 : decode cX10_someBelow 3 = .ok (.istore_n 3, 1) := by decide +kernel
theorem dX10_someBelow_4 : decode cX10_someBelow 4 = .ok (.iload_n 3, 1) := by decide +kernel
theorem dX10_someBelow_5 : decode cX10_someBelow 5 = .ok (.bipush 9, 2) := by decide +kernel
theorem dX10_someBelow_7 : decode cX10_someBelow 7 = .ok (.if_icmp .ge 29, 3) := by decide +kernel
theorem dX10_someBelow_10 : decode cX10_someBelow 10 = .ok (.iload_n 2, 1) := by decide +kernel
theorem dX10_someBelow_11 : decode cX10_someBelow 11 = .ok (.iload_n 1, 1) := by decide +kernel
theorem dX10_someBelow_12 : decode cX10_someBelow 12 = .ok (.iload_n 3, 1) := by decide +kernel
theorem dX10_someBelow_13 : decode cX10_someBelow 13 = .ok (.invokestatic 91, 3) := by decide +kernel
theorem dX10_someBelow_16 : decode cX10_someBelow 16 = .ok (.ifCond .eq 11, 3) := by decide +kernel
theorem dX10_someBelow_19 : decode cX10_someBelow 19 = .ok (.aload_n 0, 1) := by decide +kernel
theorem dX10_someBelow_20 : decode cX10_someBelow 20 = .ok (.iload_n 3, 1) := by decide +kernel
theorem dX10_someBelow_21 : decode cX10_someBelow 21 = .ok (.invokevirtual 106, 3) := by decide +kernel
theorem dX10_someBelow_24 : decode cX10_someBelow 24 = .ok (.goto 4, 3) := by decide +kernel
theorem dX10_someBelow_27 : decode cX10_someBelow 27 = .ok (.iconst 0, 1) := by decide +kernel
theorem dX10_someBelow_28 : decode cX10_someBelow 28 = .ok (.ior, 1) := by decide +kernel
theorem dX10_someBelow_29 : decode cX10_someBelow 29 = .ok (.istore_n 2, 1) := by decide +kernel
theorem dX10_someBelow_30 : decode cX10_someBelow 30 = .ok (.iinc 3 1, 3) := by decide +kernel
theorem dX10_someBelow_33 : decode cX10_someBelow 33 = .ok (.goto (-29), 3) := by decide +kernel
theorem dX10_someBelow_36 : decode cX10_someBelow 36 = .ok (.iload_n 2, 1) := by decide +kernel
theorem dX10_someBelow_37 : decode cX10_someBelow 37 = .ok (.ireturn, 1) := by decide +kernel
set_option maxRecDepth 20000 in
theorem ggX10_width_X10_isTold : GoodIn wsX10_width wsX10_isTold := goodIn_r _ [7, 2, 22, 23, 24, 25, 26, 27, 28, 29, 30, 31, 32, 33, 34, 35, 36, 37, 38, 39, 40, 41, 42, 43, 44, 45, 46, 47, 48, 49, 50, 51] (by decide +kernel) (by decide +kernel)
set_option maxRecDepth 20000 in
theorem gX10_width_X10_isTold : GoodIn wsX10_width (wsV RX10 208 RX10 yX10_isTold wsX10_isTold) := goodIn_app (goodIn_of _ (by decide +kernel)) ggX10_width_X10_isTold
set_option maxRecDepth 20000 in
theorem ggX10_width_X10_someAbove : GoodIn wsX10_width wsX10_someAbove := goodIn_r _ [11, 12, 13, 6, 14, 15, 16, 17, 18, 2, 22, 23, 24, 25, 26, 27, 28, 29, 30, 31, 32, 33, 34, 35, 36, 37, 38, 39, 40, 41, 42, 43, 44, 45, 46, 47, 48, 49, 50, 51] (by decide +kernel) (by decide +kernel)
set_option maxRecDepth 20000 in
theorem gX10_width_X10_someAbove : GoodIn wsX10_width (wsV RX10 267 RX10 yX10_someAbove wsX10_someAbove) := goodIn_app (goodIn_of _ (by decide +kernel)) ggX10_width_X10_someAbove
set_option maxRecDepth 20000 in
theorem ggX10_width_X10_bits : GoodIn wsX10_width wsX10_bits := goodIn_r _ [21] (by decide +kernel) (by decide +kernel)
set_option maxRecDepth 20000 in
theorem gX10_width_X10_bits : GoodIn wsX10_width (va_wsS RX10 194 yX10_bits wsX10_bits) := goodIn_app (goodIn_of _ (by decide +kernel)) ggX10_width_X10_bits
theorem dX10_width_0 : decode cX10_width 0 = .ok (.aload_n 0, 1) := by decide +kernel
theorem dX10_width_1 : decode cX10_width 1 = .ok (.iconst 0, 1) := by decide +kernel
theorem dX10_width_2 : decode cX10_width 2 = .ok (.putfield 82, 3) := by decide +kernel
theorem dX10_width_5 : decode cX10_width 5 = .ok (.aload_n 0, 1) := by decide +kernel
theorem dX10_width_6 : decode cX10_width 6 = .ok (.invokevirtual 208, 3) := by decide +kernel
theorem dX10_width_9 : decode cX10_width 9 = .ok (.ifCond .ne 5, 3) := by decide +kernel
theorem dX10_width_12 : decode cX10_width 12 = .ok (.iconst (-1), 1) := by decide +kernel
theorem dX10_width_13 : decode cX10_width 13 = .ok (.ireturn, 1) := by decide +kernel
theorem dX10_width_14 : decode cX10_width 14 = .ok (.iconst 0, 1) := by decide +kernel
theorem dX10_width_15 : decode cX10_width 15 = .ok (.istore_n 1, 1) := by decide +kernel
theorem dX10_width_16 : decode cX10_width 16 = .ok (.iconst 1, 1) := by decide +kernel
theorem dX10_width_17 : decode cX10_width 17 = .ok (.istore_n 2, 1) := by decide +kernel
theorem dX10_width_18 : decode cX10_width 18 = .ok (.iload_n 2, 1) := by decide +kernel
theorem dX10_width_19 : decode cX10_width 19 = .ok (.sipush 512, 3) := by decide +kernel
theorem dX10_width_22 : decode cX10_width 22 = .ok (.if_icmp .ge 59, 3) := by decide +kernel
theorem dX10_width_25 : decode cX10_width 25 = .ok (.iload_n 2, 1) := by decide +kernel
theorem dX10_width_26 : decode cX10_width 26 = .ok (.aload_n 0, 1) := by decide +kernel
theorem dX10_width_27 : decode cX10_width 27 = .ok (.getfield 9, 3) := by decide +kernel
theorem dX10_width_30 : decode cX10_width 30 = .ok (.iconst 1, 1) := by decide +kernel
theorem dX10_width_31 : decode cX10_width 31 = .ok (.iaload, 1) := by decide +kernel
theorem dX10_width_32 : decode cX10_width 32 = .ok (.iconst (-1), 1) := by decide +kernel
theorem dX10_width_33 : decode cX10_width 33 = .ok (.ixor, 1) := by decide +kernel
theorem dX10_width_34 : decode cX10_width 34 = .ok (.iand, 1) := by decide +kernel
theorem dX10_width_35 : decode cX10_width 35 = .ok (.ifCond .ne 17, 3) := by decide +kernel
theorem dX10_width_38 : decode cX10_width 38 = .ok (.aload_n 0, 1) := by decide +kernel
theorem dX10_width_39 : decode cX10_width 39 = .ok (.iload_n 2, 1) := by decide +kernel
theorem dX10_width_40 : decode cX10_width 40 = .ok (.invokevirtual 267, 3) := by decide +kernel
theorem dX10_width_43 : decode cX10_width 43 = .ok (.iload_n 2, 1) := by decide +kernel
theorem dX10_width_44 : decode cX10_width 44 = .ok (.iand, 1) := by decide +kernel
theorem dX10_width_45 : decode cX10_width 45 = .ok (.ifCond .ne 7, 3) := by decide +kernel
theorem dX10_width_48 : decode cX10_width 48 = .ok (.iconst 1, 1) := by decide +kernel
theorem dX10_width_49 : decode cX10_width 49 = .ok (.goto 4, 3) := by decide +kernel
theorem dX10_width_52 : decode cX10_width 52 = .ok (.iconst 0, 1) := by decide +kernel
theorem dX10_width_53 : decode cX10_width 53 = .ok (.istore_n 3, 1) := by decide +kernel
theorem dX10_width_54 : decode cX10_width 54 = .ok (.iload_n 3, 1) := by decide +kernel
theorem dX10_width_55 : decode cX10_width 55 = .ok (.ifCond .eq 18, 3) := by decide +kernel
theorem dX10_width_58 : decode cX10_width 58 = .ok (.iload_n 2, 1) := by decide +kernel
theorem dX10_width_59 : decode cX10_width 59 = .ok (.invokestatic 194, 3) := by decide +kernel
theorem dX10_width_62 : decode cX10_width 62 = .ok (.iload_n 1, 1) := by decide +kernel
theorem dX10_width_63 : decode cX10_width 63 = .ok (.if_icmp .le 10, 3) := by decide +kernel
theorem dX10_width_66 : decode cX10_width 66 = .ok (.iload_n 2, 1) := by decide +kernel
theorem dX10_width_67 : decode cX10_width 67 = .ok (.invokestatic 194, 3) := by decide +kernel
theorem dX10_width_70 : decode cX10_width 70 = .ok (.goto 4, 3) := by decide +kernel
theorem dX10_width_73 : decode cX10_width 73 = .ok (.iload_n 1, 1) := by decide +kernel
theorem dX10_width_74 : decode cX10_width 74 = .ok (.istore_n 1, 1) := by decide +kernel
theorem dX10_width_75 : decode cX10_width 75 = .ok (.iinc 2 1, 3) := by decide +kernel
theorem dX10_width_78 : decode cX10_width 78 = .ok (.goto (-60), 3) := by decide +kernel
theorem dX10_width_81 : decode cX10_width 81 = .ok (.iload_n 1, 1) := by decide +kernel
theorem dX10_width_82 : decode cX10_width 82 = .ok (.ireturn, 1) := by decide +kernel
set_option maxRecDepth 20000 in
theorem ggX10_ideals_X10_isTold : GoodIn wsX10_ideals wsX10_isTold := goodIn_r _ [7, 2, 23, 24, 25, 26, 27, 28, 29, 30, 31, 32, 33, 34, 35, 36, 37, 38, 39, 40, 41, 42, 43, 44, 45, 46, 47, 48, 49, 50, 51, 52] (by decide +kernel) (by decide +kernel)
set_option maxRecDepth 20000 in
theorem gX10_ideals_X10_isTold : GoodIn wsX10_ideals (wsV RX10 208 RX10 yX10_isTold wsX10_isTold) := goodIn_app (goodIn_of _ (by decide +kernel)) ggX10_ideals_X10_isTold
set_option maxRecDepth 20000 in
theorem ggX10_ideals_X10_someBelow : GoodIn wsX10_ideals wsX10_someBelow := goodIn_r _ [11, 12, 13, 6, 14, 15, 16, 17, 18, 2, 19, 20, 21, 22, 23, 24, 25, 26, 27, 28, 29, 30, 31, 32, 33, 34, 35, 36, 37, 38, 39, 40, 41, 42, 43, 44, 45, 46, 47, 48, 49, 50, 51, 52] (by decide +kernel) (by decide +kernel)
set_option maxRecDepth 20000 in
theorem gX10_ideals_X10_someBelow : GoodIn wsX10_ideals (wsV RX10 270 RX10 yX10_someBelow wsX10_someBelow) := goodIn_app (goodIn_of _ (by decide +kernel)) ggX10_ideals_X10_someBelow
theorem dX10_ideals_0 : decode cX10_ideals 0 = .ok (.aload_n 0, 1) := by decide +kernel
theorem dX10_ideals_1 : decode cX10_ideals 1 = .ok (.iconst 0, 1) := by decide +kernel
theorem dX10_ideals_2 : decode cX10_ideals 2 = .ok (.putfield 82, 3) := by decide +kernel
theorem dX10_ideals_5 : decode cX10_ideals 5 = .ok (.aload_n 0, 1) := by decide +kernel
theorem dX10_ideals_6 : decode cX10_ideals 6 = .ok (.invokevirtual 208, 3) := by decide +kernel
theorem dX10_ideals_9 : decode cX10_ideals 9 = .ok (.ifCond .ne 5, 3) := by decide +kernel
theorem dX10_ideals_12 : decode cX10_ideals 12 = .ok (.iconst (-1), 1) := by decide +kernel
theorem dX10_ideals_13 : decode cX10_ideals 13 = .ok (.ireturn, 1) := by decide +kernel
theorem dX10_ideals_14 : decode cX10_ideals 14 = .ok (.iconst 0, 1) := by decide +kernel
theorem dX10_ideals_15 : decode cX10_ideals 15 = .ok (.istore_n 1, 1) := by decide +kernel
theorem dX10_ideals_16 : decode cX10_ideals 16 = .ok (.iconst 0, 1) := by decide +kernel
theorem dX10_ideals_17 : decode cX10_ideals 17 = .ok (.istore_n 2, 1) := by decide +kernel
theorem dX10_ideals_18 : decode cX10_ideals 18 = .ok (.iload_n 2, 1) := by decide +kernel
theorem dX10_ideals_19 : decode cX10_ideals 19 = .ok (.sipush 512, 3) := by decide +kernel
theorem dX10_ideals_22 : decode cX10_ideals 22 = .ok (.if_icmp .ge 42, 3) := by decide +kernel
theorem dX10_ideals_25 : decode cX10_ideals 25 = .ok (.iload_n 1, 1) := by decide +kernel
theorem dX10_ideals_26 : decode cX10_ideals 26 = .ok (.iload_n 2, 1) := by decide +kernel
theorem dX10_ideals_27 : decode cX10_ideals 27 = .ok (.aload_n 0, 1) := by decide +kernel
theorem dX10_ideals_28 : decode cX10_ideals 28 = .ok (.getfield 9, 3) := by decide +kernel
theorem dX10_ideals_31 : decode cX10_ideals 31 = .ok (.iconst 1, 1) := by decide +kernel
theorem dX10_ideals_32 : decode cX10_ideals 32 = .ok (.iaload, 1) := by decide +kernel
theorem dX10_ideals_33 : decode cX10_ideals 33 = .ok (.iconst (-1), 1) := by decide +kernel
theorem dX10_ideals_34 : decode cX10_ideals 34 = .ok (.ixor, 1) := by decide +kernel
theorem dX10_ideals_35 : decode cX10_ideals 35 = .ok (.iand, 1) := by decide +kernel
theorem dX10_ideals_36 : decode cX10_ideals 36 = .ok (.ifCond .ne 19, 3) := by decide +kernel
theorem dX10_ideals_39 : decode cX10_ideals 39 = .ok (.aload_n 0, 1) := by decide +kernel
theorem dX10_ideals_40 : decode cX10_ideals 40 = .ok (.iload_n 2, 1) := by decide +kernel
theorem dX10_ideals_41 : decode cX10_ideals 41 = .ok (.invokevirtual 270, 3) := by decide +kernel
theorem dX10_ideals_44 : decode cX10_ideals 44 = .ok (.iload_n 2, 1) := by decide +kernel
theorem dX10_ideals_45 : decode cX10_ideals 45 = .ok (.iconst (-1), 1) := by decide +kernel
theorem dX10_ideals_46 : decode cX10_ideals 46 = .ok (.ixor, 1) := by decide +kernel
theorem dX10_ideals_47 : decode cX10_ideals 47 = .ok (.iand, 1) := by decide +kernel
theorem dX10_ideals_48 : decode cX10_ideals 48 = .ok (.ifCond .ne 7, 3) := by decide +kernel
theorem dX10_ideals_51 : decode cX10_ideals 51 = .ok (.iconst 1, 1) := by decide +kernel
theorem dX10_ideals_52 : decode cX10_ideals 52 = .ok (.goto 4, 3) := by decide +kernel
theorem dX10_ideals_55 : decode cX10_ideals 55 = .ok (.iconst 0, 1) := by decide +kernel
theorem dX10_ideals_56 : decode cX10_ideals 56 = .ok (.iadd, 1) := by decide +kernel
theorem dX10_ideals_57 : decode cX10_ideals 57 = .ok (.istore_n 1, 1) := by decide +kernel
theorem dX10_ideals_58 : decode cX10_ideals 58 = .ok (.iinc 2 1, 3) := by decide +kernel
theorem dX10_ideals_61 : decode cX10_ideals 61 = .ok (.goto (-43), 3) := by decide +kernel
theorem dX10_ideals_64 : decode cX10_ideals 64 = .ok (.iload_n 1, 1) := by decide +kernel
theorem dX10_ideals_65 : decode cX10_ideals 65 = .ok (.ireturn, 1) := by decide +kernel
set_option maxRecDepth 20000 in
theorem ggX10_extensions_X10_isTold : GoodIn wsX10_extensions wsX10_isTold := goodIn_r _ [8, 3, 20, 21, 22, 23, 24, 25, 26, 27, 28, 29, 30, 31, 32, 33, 34, 35, 36, 37, 38, 39, 40, 41, 42, 43, 44, 45, 46, 47, 48, 49] (by decide +kernel) (by decide +kernel)
set_option maxRecDepth 20000 in
theorem gX10_extensions_X10_isTold : GoodIn wsX10_extensions (wsV RX10 208 RX10 yX10_isTold wsX10_isTold) := goodIn_app (goodIn_of _ (by decide +kernel)) ggX10_extensions_X10_isTold
set_option maxRecDepth 20000 in
theorem ggX10_extensions_X10_has : GoodIn wsX10_extensions wsX10_has := goodIn_r _ [11] (by decide +kernel) (by decide +kernel)
set_option maxRecDepth 20000 in
theorem gX10_extensions_X10_has : GoodIn wsX10_extensions (va_wsS RX10 91 yX10_has wsX10_has) := goodIn_app (goodIn_of _ (by decide +kernel)) ggX10_extensions_X10_has
set_option maxRecDepth 20000 in
theorem ggX10_extensions_X10_below : GoodIn wsX10_extensions wsX10_below := goodIn_r _ [15, 3, 9, 10, 7, 11, 16, 17, 18, 19, 20, 21, 22, 23, 24, 25, 26, 27, 28, 29, 30, 31, 32, 33, 34, 35, 36, 37, 38, 39, 40, 41, 42, 43, 44, 45, 46, 47, 48, 49] (by decide +kernel) (by decide +kernel)
set_option maxRecDepth 20000 in
theorem gX10_extensions_X10_below : GoodIn wsX10_extensions (wsV RX10 106 RX10 yX10_below wsX10_below) := goodIn_app (goodIn_of _ (by decide +kernel)) ggX10_extensions_X10_below
theorem dX10_extensions_0 : decode cX10_extensions 0 = .ok (.aload_n 0, 1) := by decide +kernel
theorem dX10_extensions_1 : decode cX10_extensions 1 = .ok (.iconst 0, 1) := by decide +kernel
theorem dX10_extensions_2 : decode cX10_extensions 2 = .ok (.putfield 82, 3) := by decide +kernel
theorem dX10_extensions_5 : decode cX10_extensions 5 = .ok (.aload_n 0, 1) := by decide +kernel
theorem dX10_extensions_6 : decode cX10_extensions 6 = .ok (.invokevirtual 208, 3) := by decide +kernel
theorem dX10_extensions_9 : decode cX10_extensions 9 = .ok (.ifCond .ne 5, 3) := by decide +kernel
theorem dX10_extensions_12 : decode cX10_extensions 12 = .ok (.iconst (-1), 1) := by decide +kernel
theorem dX10_extensions_13 : decode cX10_extensions 13 = .ok (.ireturn, 1) := by decide +kernel
theorem dX10_extensions_14 : decode cX10_extensions 14 = .ok (.iconst 0, 1) := by decide +kernel
theorem dX10_extensions_15 : decode cX10_extensions 15 = .ok (.istore_n 1, 1) := by decide +kernel
theorem dX10_extensions_16 : decode cX10_extensions 16 = .ok (.iload_n 1, 1) := by decide +kernel
theorem dX10_extensions_17 : decode cX10_extensions 17 = .ok (.sipush 512, 3) := by decide +kernel
theorem dX10_extensions_20 : decode cX10_extensions 20 = .ok (.if_icmp .ge 98, 3) := by decide +kernel
theorem dX10_extensions_23 : decode cX10_extensions 23 = .ok (.aload_n 0, 1) := by decide +kernel
theorem dX10_extensions_24 : decode cX10_extensions 24 = .ok (.getfield 39, 3) := by decide +kernel
theorem dX10_extensions_27 : decode cX10_extensions 27 = .ok (.iload_n 1, 1) := by decide +kernel
theorem dX10_extensions_28 : decode cX10_extensions 28 = .ok (.iload_n 1, 1) := by decide +kernel
theorem dX10_extensions_29 : decode cX10_extensions 29 = .ok (.ifCond .ne 7, 3) := by decide +kernel
theorem dX10_extensions_32 : decode cX10_extensions 32 = .ok (.iconst 1, 1) := by decide +kernel
theorem dX10_extensions_33 : decode cX10_extensions 33 = .ok (.goto 4, 3) := by decide +kernel
theorem dX10_extensions_36 : decode cX10_extensions 36 = .ok (.iconst 0, 1) := by decide +kernel
theorem dX10_extensions_37 : decode cX10_extensions 37 = .ok (.iastore, 1) := by decide +kernel
theorem dX10_extensions_38 : decode cX10_extensions 38 = .ok (.iconst 0, 1) := by decide +kernel
theorem dX10_extensions_39 : decode cX10_extensions 39 = .ok (.istore_n 2, 1) := by decide +kernel
theorem dX10_extensions_40 : decode cX10_extensions 40 = .ok (.iload_n 2, 1) := by decide +kernel
theorem dX10_extensions_41 : decode cX10_extensions 41 = .ok (.bipush 9, 2) := by decide +kernel
theorem dX10_extensions_43 : decode cX10_extensions 43 = .ok (.if_icmp .ge 69, 3) := by decide +kernel
theorem dX10_extensions_46 : decode cX10_extensions 46 = .ok (.iload_n 1, 1) := by decide +kernel
theorem dX10_extensions_47 : decode cX10_extensions 47 = .ok (.aload_n 0, 1) := by decide +kernel
theorem dX10_extensions_48 : decode cX10_extensions 48 = .ok (.getfield 9, 3) := by decide +kernel
theorem dX10_extensions_51 : decode cX10_extensions 51 = .ok (.iconst 1, 1) := by decide +kernel
theorem dX10_extensions_52 : decode cX10_extensions 52 = .ok (.iaload, 1) := by decide +kernel
theorem dX10_extensions_53 : decode cX10_extensions 53 = .ok (.iand, 1) := by decide +kernel
theorem dX10_extensions_54 : decode cX10_extensions 54 = .ok (.iload_n 2, 1) := by decide +kernel
theorem dX10_extensions_55 : decode cX10_extensions 55 = .ok (.invokestatic 91, 3) := by decide +kernel
theorem dX10_extensions_58 : decode cX10_extensions 58 = .ok (.ifCond .eq 19, 3) := by decide +kernel
theorem dX10_extensions_61 : decode cX10_extensions 61 = .ok (.aload_n 0, 1) := by decide +kernel
theorem dX10_extensions_62 : decode cX10_extensions 62 = .ok (.iload_n 2, 1) := by decide +kernel
theorem dX10_extensions_63 : decode cX10_extensions 63 = .ok (.invokevirtual 106, 3) := by decide +kernel
theorem dX10_extensions_66 : decode cX10_extensions 66 = .ok (.iload_n 1, 1) := by decide +kernel
theorem dX10_extensions_67 : decode cX10_extensions 67 = .ok (.iconst (-1), 1) := by decide +kernel
theorem dX10_extensions_68 : decode cX10_extensions 68 = .ok (.ixor, 1) := by decide +kernel
theorem dX10_extensions_69 : decode cX10_extensions 69 = .ok (.iand, 1) := by decide +kernel
theorem dX10_extensions_70 : decode cX10_extensions 70 = .ok (.ifCond .ne 7, 3) := by decide +kernel
theorem dX10_extensions_73 : decode cX10_extensions 73 = .ok (.iconst 1, 1) := by decide +kernel
theorem dX10_extensions_74 : decode cX10_extensions 74 = .ok (.goto 4, 3) := by decide +kernel
theorem dX10_extensions_77 : decode cX10_extensions 77 = .ok (.iconst 0, 1) := by decide +kernel
theorem dX10_extensions_78 : decode cX10_extensions 78 = .ok (.istore_n 3, 1) := by decide +kernel
theorem dX10_extensions_79 : decode cX10_extensions 79 = .ok (.aload_n 0, 1) := by decide +kernel
theorem dX10_extensions_80 : decode cX10_extensions 80 = .ok (.getfield 39, 3) := by decide +kernel
theorem dX10_extensions_83 : decode cX10_extensions 83 = .ok (.iload_n 1, 1) := by decide +kernel
theorem dX10_extensions_84 : decode cX10_extensions 84 = .ok (.dup2, 1) := by decide +kernel
theorem dX10_extensions_85 : decode cX10_extensions 85 = .ok (.iaload, 1) := by decide +kernel
theorem dX10_extensions_86 : decode cX10_extensions 86 = .ok (.iload_n 3, 1) := by decide +kernel
theorem dX10_extensions_87 : decode cX10_extensions 87 = .ok (.ifCond .eq 16, 3) := by decide +kernel
theorem dX10_extensions_90 : decode cX10_extensions 90 = .ok (.aload_n 0, 1) := by decide +kernel
theorem dX10_extensions_91 : decode cX10_extensions 91 = .ok (.getfield 39, 3) := by decide +kernel
theorem dX10_extensions_94 : decode cX10_extensions 94 = .ok (.iload_n 1, 1) := by decide +kernel
theorem dX10_extensions_95 : decode cX10_extensions 95 = .ok (.iconst 1, 1) := by decide +kernel
theorem dX10_extensions_96 : decode cX10_extensions 96 = .ok (.iload_n 2, 1) := by decide +kernel
theorem dX10_extensions_97 : decode cX10_extensions 97 = .ok (.ishl, 1) := by decide +kernel
theorem dX10_extensions_98 : decode cX10_extensions 98 = .ok (.ixor, 1) := by decide +kernel
theorem dX10_extensions_99 : decode cX10_extensions 99 = .ok (.iaload, 1) := by decide +kernel
theorem dX10_extensions_100 : decode cX10_extensions 100 = .ok (.goto 4, 3) := by decide +kernel
theorem dX10_extensions_103 : decode cX10_extensions 103 = .ok (.iconst 0, 1) := by decide +kernel
theorem dX10_extensions_104 : decode cX10_extensions 104 = .ok (.iadd, 1) := by decide +kernel
theorem dX10_extensions_105 : decode cX10_extensions 105 = .ok (.iastore, 1) := by decide +kernel
theorem dX10_extensions_106 : decode cX10_extensions 106 = .ok (.iinc 2 1, 3) := by decide +kernel
theorem dX10_extensions_109 : decode cX10_extensions 109 = .ok (.goto (-69), 3) := by decide +kernel
theorem dX10_extensions_112 : decode cX10_extensions 112 = .ok (.iinc 1 1, 3) := by decide +kernel
theorem dX10_extensions_115 : decode cX10_extensions 115 = .ok (.goto (-99), 3) := by decide +kernel
theorem dX10_extensions_118 : decode cX10_extensions 118 = .ok (.aload_n 0, 1) := by decide +kernel
theorem dX10_extensions_119 : decode cX10_extensions 119 = .ok (.getfield 39, 3) := by decide +kernel
theorem dX10_extensions_122 : decode cX10_extensions 122 = .ok (.aload_n 0, 1) := by decide +kernel
theorem dX10_extensions_123 : decode cX10_extensions 123 = .ok (.getfield 9, 3) := by decide +kernel
theorem dX10_extensions_126 : decode cX10_extensions 126 = .ok (.iconst 1, 1) := by decide +kernel
theorem dX10_extensions_127 : decode cX10_extensions 127 = .ok (.iaload, 1) := by decide +kernel
theorem dX10_extensions_128 : decode cX10_extensions 128 = .ok (.iaload, 1) := by decide +kernel
theorem dX10_extensions_129 : decode cX10_extensions 129 = .ok (.ireturn, 1) := by decide +kernel
set_option maxRecDepth 20000 in
theorem ggX10_extension_X10_isTold : GoodIn wsX10_extension wsX10_isTold := goodIn_r _ [7, 2, 25, 26, 27, 28, 29, 30, 31, 32, 33, 34, 35, 36, 37, 38, 39, 40, 41, 42, 43, 44, 45, 46, 47, 48, 49, 50, 51, 52, 53, 54] (by decide +kernel) (by decide +kernel)
set_option maxRecDepth 20000 in
theorem gX10_extension_X10_isTold : GoodIn wsX10_extension (wsV RX10 208 RX10 yX10_isTold wsX10_isTold) := goodIn_app (goodIn_of _ (by decide +kernel)) ggX10_extension_X10_isTold
set_option maxRecDepth 20000 in
theorem ggX10_extension_X10_bits : GoodIn wsX10_extension wsX10_bits := goodIn_r _ [10] (by decide +kernel) (by decide +kernel)
set_option maxRecDepth 20000 in
theorem gX10_extension_X10_bits : GoodIn wsX10_extension (va_wsS RX10 194 yX10_bits wsX10_bits) := goodIn_app (goodIn_of _ (by decide +kernel)) ggX10_extension_X10_bits
set_option maxRecDepth 20000 in
theorem ggX10_extension_X10_isIn : GoodIn wsX10_extension wsX10_isIn := goodIn_r _ [13] (by decide +kernel) (by decide +kernel)
set_option maxRecDepth 20000 in
theorem gX10_extension_X10_isIn : GoodIn wsX10_extension (va_wsS RX10 87 yX10_isIn wsX10_isIn) := goodIn_app (goodIn_of _ (by decide +kernel)) ggX10_extension_X10_isIn
set_option maxRecDepth 20000 in
theorem ggX10_extension_X10_has : GoodIn wsX10_extension wsX10_has := goodIn_r _ [16] (by decide +kernel) (by decide +kernel)
set_option maxRecDepth 20000 in
theorem gX10_extension_X10_has : GoodIn wsX10_extension (va_wsS RX10 91 yX10_has wsX10_has) := goodIn_app (goodIn_of _ (by decide +kernel)) ggX10_extension_X10_has
set_option maxRecDepth 20000 in
theorem ggX10_extension_X10_below : GoodIn wsX10_extension wsX10_below := goodIn_r _ [20, 2, 14, 15, 6, 16, 21, 22, 23, 24, 25, 26, 27, 28, 29, 30, 31, 32, 33, 34, 35, 36, 37, 38, 39, 40, 41, 42, 43, 44, 45, 46, 47, 48, 49, 50, 51, 52, 53, 54] (by decide +kernel) (by decide +kernel)
set_option maxRecDepth 20000 in
theorem gX10_extension_X10_below : GoodIn wsX10_extension (wsV RX10 106 RX10 yX10_below wsX10_below) := goodIn_app (goodIn_of _ (by decide +kernel)) ggX10_extension_X10_below
theorem dX10_extension_0 : decode cX10_extension 0 = .ok (.aload_n 0, 1) := by decide +kernel
theorem dX10_extension_1 : decode cX10_extension 1 = .ok (.iconst 0, 1) := by decide +kernel
theorem dX10_extension_2 : decode cX10_extension 2 = .ok (.putfield 82, 3) := by decide +kernel
theorem dX10_extension_5 : decode cX10_extension 5 = .ok (.aload_n 0, 1) := by decide +kernel
theorem dX10_extension_6 : decode cX10_extension 6 = .ok (.invokevirtual 208, 3) := by decide +kernel
theorem dX10_extension_9 : decode cX10_extension 9 = .ok (.ifCond .eq 24, 3) := by decide +kernel
theorem dX10_extension_12 : decode cX10_extension 12 = .ok (.iload_n 1, 1) := by decide +kernel
theorem dX10_extension_13 : decode cX10_extension 13 = .ok (.i2l, 1) := by decide +kernel
theorem dX10_extension_14 : decode cX10_extension 14 = .ok (.lconst 0, 1) := by decide +kernel
theorem dX10_extension_15 : decode cX10_extension 15 = .ok (.aload_n 0, 1) := by decide +kernel
theorem dX10_extension_16 : decode cX10_extension 16 = .ok (.getfield 9, 3) := by decide +kernel
theorem dX10_extension_19 : decode cX10_extension 19 = .ok (.iconst 1, 1) := by decide +kernel
theorem dX10_extension_20 : decode cX10_extension 20 = .ok (.iaload, 1) := by decide +kernel
theorem dX10_extension_21 : decode cX10_extension 21 = .ok (.invokestatic 194, 3) := by decide +kernel
theorem dX10_extension_24 : decode cX10_extension 24 = .ok (.i2l, 1) := by decide +kernel
theorem dX10_extension_25 : decode cX10_extension 25 = .ok (.lconst 1, 1) := by decide +kernel
theorem dX10_extension_26 : decode cX10_extension 26 = .ok (.lsub, 1) := by decide +kernel
theorem dX10_extension_27 : decode cX10_extension 27 = .ok (.invokestatic 87, 3) := by decide +kernel
theorem dX10_extension_30 : decode cX10_extension 30 = .ok (.ifCond .ne 5, 3) := by decide +kernel
theorem dX10_extension_33 : decode cX10_extension 33 = .ok (.iconst (-1), 1) := by decide +kernel
theorem dX10_extension_34 : decode cX10_extension 34 = .ok (.ireturn, 1) := by decide +kernel
theorem dX10_extension_35 : decode cX10_extension 35 = .ok (.iconst 0, 1) := by decide +kernel
theorem dX10_extension_36 : decode cX10_extension 36 = .ok (.istore_n 2, 1) := by decide +kernel
theorem dX10_extension_37 : decode cX10_extension 37 = .ok (.iconst (-1), 1) := by decide +kernel
theorem dX10_extension_38 : decode cX10_extension 38 = .ok (.istore_n 3, 1) := by decide +kernel
theorem dX10_extension_39 : decode cX10_extension 39 = .ok (.iconst 0, 1) := by decide +kernel
theorem dX10_extension_40 : decode cX10_extension 40 = .ok (.istore 4, 2) := by decide +kernel
theorem dX10_extension_42 : decode cX10_extension 42 = .ok (.iload 4, 2) := by decide +kernel
theorem dX10_extension_44 : decode cX10_extension 44 = .ok (.iload_n 1, 1) := by decide +kernel
theorem dX10_extension_45 : decode cX10_extension 45 = .ok (.if_icmp .gt 59, 3) := by decide +kernel
theorem dX10_extension_48 : decode cX10_extension 48 = .ok (.iconst 0, 1) := by decide +kernel
theorem dX10_extension_49 : decode cX10_extension 49 = .ok (.istore 5, 2) := by decide +kernel
theorem dX10_extension_51 : decode cX10_extension 51 = .ok (.aload_n 0, 1) := by decide +kernel
theorem dX10_extension_52 : decode cX10_extension 52 = .ok (.getfield 9, 3) := by decide +kernel
theorem dX10_extension_55 : decode cX10_extension 55 = .ok (.iconst 1, 1) := by decide +kernel
theorem dX10_extension_56 : decode cX10_extension 56 = .ok (.iaload, 1) := by decide +kernel
theorem dX10_extension_57 : decode cX10_extension 57 = .ok (.iload_n 2, 1) := by decide +kernel
theorem dX10_extension_58 : decode cX10_extension 58 = .ok (.iconst (-1), 1) := by decide +kernel
theorem dX10_extension_59 : decode cX10_extension 59 = .ok (.ixor, 1) := by decide +kernel
theorem dX10_extension_60 : decode cX10_extension 60 = .ok (.iand, 1) := by decide +kernel
theorem dX10_extension_61 : decode cX10_extension 61 = .ok (.iload 5, 2) := by decide +kernel
theorem dX10_extension_63 : decode cX10_extension 63 = .ok (.invokestatic 91, 3) := by decide +kernel
theorem dX10_extension_66 : decode cX10_extension 66 = .ok (.ifCond .eq 16, 3) := by decide +kernel
theorem dX10_extension_69 : decode cX10_extension 69 = .ok (.aload_n 0, 1) := by decide +kernel
theorem dX10_extension_70 : decode cX10_extension 70 = .ok (.iload 5, 2) := by decide +kernel
theorem dX10_extension_72 : decode cX10_extension 72 = .ok (.invokevirtual 106, 3) := by decide +kernel
theorem dX10_extension_75 : decode cX10_extension 75 = .ok (.iload_n 2, 1) := by decide +kernel
theorem dX10_extension_76 : decode cX10_extension 76 = .ok (.iconst (-1), 1) := by decide +kernel
theorem dX10_extension_77 : decode cX10_extension 77 = .ok (.ixor, 1) := by decide +kernel
theorem dX10_extension_78 : decode cX10_extension 78 = .ok (.iand, 1) := by decide +kernel
theorem dX10_extension_79 : decode cX10_extension 79 = .ok (.ifCond .eq 9, 3) := by decide +kernel
theorem dX10_extension_82 : decode cX10_extension 82 = .ok (.iinc 5 1, 3) := by decide +kernel
theorem dX10_extension_85 : decode cX10_extension 85 = .ok (.goto (-34), 3) := by decide +kernel
theorem dX10_extension_88 : decode cX10_extension 88 = .ok (.iload_n 2, 1) := by decide +kernel
theorem dX10_extension_89 : decode cX10_extension 89 = .ok (.iconst 1, 1) := by decide +kernel
theorem dX10_extension_90 : decode cX10_extension 90 = .ok (.iload 5, 2) := by decide +kernel
theorem dX10_extension_92 : decode cX10_extension 92 = .ok (.ishl, 1) := by decide +kernel
theorem dX10_extension_93 : decode cX10_extension 93 = .ok (.ior, 1) := by decide +kernel
theorem dX10_extension_94 : decode cX10_extension 94 = .ok (.istore_n 2, 1) := by decide +kernel
theorem dX10_extension_95 : decode cX10_extension 95 = .ok (.iload 5, 2) := by decide +kernel
theorem dX10_extension_97 : decode cX10_extension 97 = .ok (.istore_n 3, 1) := by decide +kernel
theorem dX10_extension_98 : decode cX10_extension 98 = .ok (.iinc 4 1, 3) := by decide +kernel
theorem dX10_extension_101 : decode cX10_extension 101 = .ok (.goto (-59), 3) := by decide +kernel
theorem dX10_extension_104 : decode cX10_extension 104 = .ok (.iload_n 3, 1) := by decide +kernel
theorem dX10_extension_105 : decode cX10_extension 105 = .ok (.ireturn, 1) := by decide +kernel
set_option maxRecDepth 20000 in
theorem ggX10_isInterval_X10_isBelow : GoodIn wsX10_isInterval wsX10_isBelow := goodIn_r _ [5, 6, 7, 8, 4, 9, 10, 11, 12, 13, 14, 15, 16, 17, 18, 19, 20, 21, 22, 23, 24, 25, 26, 27, 28, 29, 30, 31, 32, 33, 34, 35, 36, 37, 38, 39] (by decide +kernel) (by decide +kernel)
set_option maxRecDepth 20000 in
theorem gX10_isInterval_X10_isBelow : GoodIn wsX10_isInterval (wsV RX10 99 RX10 yX10_isBelow wsX10_isBelow) := goodIn_app (goodIn_of _ (by decide +kernel)) ggX10_isInterval_X10_isBelow
theorem dX10_isInterval_0 : decode cX10_isInterval 0 = .ok (.iload_n 1, 1) := by decide +kernel
theorem dX10_isInterval_1 : decode cX10_isInterval 1 = .ok (.iload_n 2, 1) := by decide +kernel
theorem dX10_isInterval_2 : decode cX10_isInterval 2 = .ok (.if_icmp .eq 12, 3) := by decide +kernel
theorem dX10_isInterval_5 : decode cX10_isInterval 5 = .ok (.aload_n 0, 1) := by decide +kernel
theorem dX10_isInterval_6 : decode cX10_isInterval 6 = .ok (.iload_n 1, 1) := by decide +kernel
theorem dX10_isInterval_7 : decode cX10_isInterval 7 = .ok (.iload_n 2, 1) := by decide +kernel
theorem dX10_isInterval_8 : decode cX10_isInterval 8 = .ok (.invokevirtual 99, 3) := by decide +kernel
theorem dX10_isInterval_11 : decode cX10_isInterval 11 = .ok (.ifCond .eq 7, 3) := by decide +kernel
theorem dX10_isInterval_14 : decode cX10_isInterval 14 = .ok (.iconst 1, 1) := by decide +kernel
theorem dX10_isInterval_15 : decode cX10_isInterval 15 = .ok (.goto 4, 3) := by decide +kernel
theorem dX10_isInterval_18 : decode cX10_isInterval 18 = .ok (.iconst 0, 1) := by decide +kernel
theorem dX10_isInterval_19 : decode cX10_isInterval 19 = .ok (.ireturn, 1) := by decide +kernel
set_option maxRecDepth 20000 in
theorem ggX10_between_X10_upTo : GoodIn wsX10_between wsX10_upTo := goodIn_r _ [5, 6, 7, 8, 4, 9, 10, 26, 27, 28, 29, 30, 31, 32, 33, 34, 35, 36, 37, 38, 39, 40, 41, 42, 43, 44, 45, 46, 47, 48, 49, 50, 51, 52, 53, 54, 55] (by decide +kernel) (by decide +kernel)
set_option maxRecDepth 20000 in
theorem gX10_between_X10_upTo : GoodIn wsX10_between (wsV RX10 228 RX10 yX10_upTo wsX10_upTo) := goodIn_app (goodIn_of _ (by decide +kernel)) ggX10_between_X10_upTo
set_option maxRecDepth 20000 in
theorem ggX10_between_X10_downTo : GoodIn wsX10_between wsX10_downTo := goodIn_r _ [14, 15, 16, 17, 4, 18, 10, 19, 20, 21, 22, 23, 24, 25, 26, 27, 28, 29, 30, 31, 32, 33, 34, 35, 36, 37, 38, 39, 40, 41, 42, 43, 44, 45, 46, 47, 48, 49, 50, 51, 52, 53, 54, 55] (by decide +kernel) (by decide +kernel)
set_option maxRecDepth 20000 in
theorem gX10_between_X10_downTo : GoodIn wsX10_between (wsV RX10 231 RX10 yX10_downTo wsX10_downTo) := goodIn_app (goodIn_of _ (by decide +kernel)) ggX10_between_X10_downTo
theorem dX10_between_0 : decode cX10_between 0 = .ok (.aload_n 0, 1) := by decide +kernel
theorem dX10_between_1 : decode cX10_between 1 = .ok (.iload_n 1, 1) := by decide +kernel
theorem dX10_between_2 : decode cX10_between 2 = .ok (.invokevirtual 228, 3) := by decide +kernel
theorem dX10_between_5 : decode cX10_between 5 = .ok (.aload_n 0, 1) := by decide +kernel
theorem dX10_between_6 : decode cX10_between 6 = .ok (.iload_n 2, 1) := by decide +kernel
theorem dX10_between_7 : decode cX10_between 7 = .ok (.invokevirtual 231, 3) := by decide +kernel
theorem dX10_between_10 : decode cX10_between 10 = .ok (.iand, 1) := by decide +kernel
theorem dX10_between_11 : decode cX10_between 11 = .ok (.ireturn, 1) := by decide +kernel
theorem dX10_chainAt_0 : decode cX10_chainAt 0 = .ok (.aload_n 0, 1) := by decide +kernel
theorem dX10_chainAt_1 : decode cX10_chainAt 1 = .ok (.getfield 42, 3) := by decide +kernel
theorem dX10_chainAt_4 : decode cX10_chainAt 4 = .ok (.bipush 9, 2) := by decide +kernel
theorem dX10_chainAt_6 : decode cX10_chainAt 6 = .ok (.iload_n 1, 1) := by decide +kernel
theorem dX10_chainAt_7 : decode cX10_chainAt 7 = .ok (.imul, 1) := by decide +kernel
theorem dX10_chainAt_8 : decode cX10_chainAt 8 = .ok (.iload_n 2, 1) := by decide +kernel
theorem dX10_chainAt_9 : decode cX10_chainAt 9 = .ok (.iadd, 1) := by decide +kernel
theorem dX10_chainAt_10 : decode cX10_chainAt 10 = .ok (.iaload, 1) := by decide +kernel
theorem dX10_chainAt_11 : decode cX10_chainAt 11 = .ok (.ireturn, 1) := by decide +kernel
set_option maxRecDepth 20000 in
theorem ggX10_labelAt_X10_chainAt : GoodIn wsX10_labelAt wsX10_chainAt := goodIn_r _ [5, 6, 16, 17, 18, 19, 20, 21, 22, 23, 24, 25, 26, 27, 28, 29, 30, 31, 32, 33, 34, 35, 36, 37, 38, 39, 40, 41, 42, 43, 44, 45] (by decide +kernel) (by decide +kernel)
set_option maxRecDepth 20000 in
theorem gX10_labelAt_X10_chainAt : GoodIn wsX10_labelAt (wsV RX10 273 RX10 yX10_chainAt wsX10_chainAt) := goodIn_app (goodIn_of _ (by decide +kernel)) ggX10_labelAt_X10_chainAt
set_option maxRecDepth 20000 in
theorem ggX10_labelAt_X10_labelBy : GoodIn wsX10_labelAt wsX10_labelBy := goodIn_r _ [10, 11, 12, 13, 14, 4, 15, 16, 17, 18, 19, 20, 21, 22, 23, 24, 25, 26, 27, 28, 29, 30, 31, 32, 33, 34, 35, 36, 37, 38, 39, 40, 41, 42, 43, 44, 45] (by decide +kernel) (by decide +kernel)
set_option maxRecDepth 20000 in
theorem gX10_labelAt_X10_labelBy : GoodIn wsX10_labelAt (wsV RX10 222 RX10 yX10_labelBy wsX10_labelBy) := goodIn_app (goodIn_of _ (by decide +kernel)) ggX10_labelAt_X10_labelBy
theorem dX10_labelAt_0 : decode cX10_labelAt 0 = .ok (.aload_n 0, 1) := by decide +kernel
theorem dX10_labelAt_1 : decode cX10_labelAt 1 = .ok (.aload_n 0, 1) := by decide +kernel
theorem dX10_labelAt_2 : decode cX10_labelAt 2 = .ok (.iload_n 1, 1) := by decide +kernel
theorem dX10_labelAt_3 : decode cX10_labelAt 3 = .ok (.iload_n 2, 1) := by decide +kernel
theorem dX10_labelAt_4 : decode cX10_labelAt 4 = .ok (.invokevirtual 273, 3) := by decide +kernel
theorem dX10_labelAt_7 : decode cX10_labelAt 7 = .ok (.aload_n 0, 1) := by decide +kernel
theorem dX10_labelAt_8 : decode cX10_labelAt 8 = .ok (.iload_n 1, 1) := by decide +kernel
theorem dX10_labelAt_9 : decode cX10_labelAt 9 = .ok (.iload_n 2, 1) := by decide +kernel
theorem dX10_labelAt_10 : decode cX10_labelAt 10 = .ok (.iconst 1, 1) := by decide +kernel
theorem dX10_labelAt_11 : decode cX10_labelAt 11 = .ok (.iadd, 1) := by decide +kernel
theorem dX10_labelAt_12 : decode cX10_labelAt 12 = .ok (.invokevirtual 273, 3) := by decide +kernel
theorem dX10_labelAt_15 : decode cX10_labelAt 15 = .ok (.invokevirtual 222, 3) := by decide +kernel
theorem dX10_labelAt_18 : decode cX10_labelAt 18 = .ok (.ireturn, 1) := by decide +kernel
set_option maxRecDepth 20000 in
theorem ggX10_chainSet_X10_chainAt : GoodIn wsX10_chainSet wsX10_chainAt := goodIn_r _ [6, 7, 8, 9, 10, 11, 12, 13, 14, 15, 16, 17, 18, 19, 20, 21, 22, 23, 24, 25, 26, 27, 28, 29, 30, 31, 32, 33, 34, 35, 36, 37] (by decide +kernel) (by decide +kernel)
set_option maxRecDepth 20000 in
theorem gX10_chainSet_X10_chainAt : GoodIn wsX10_chainSet (wsV RX10 273 RX10 yX10_chainAt wsX10_chainAt) := goodIn_app (goodIn_of _ (by decide +kernel)) ggX10_chainSet_X10_chainAt
theorem dX10_chainSet_0 : decode cX10_chainSet 0 = .ok (.iconst 0, 1) := by decide +kernel
theorem dX10_chainSet_1 : decode cX10_chainSet 1 = .ok (.istore_n 2, 1) := by decide +kernel
theorem dX10_chainSet_2 : decode cX10_chainSet 2 = .ok (.iconst 0, 1) := by decide +kernel
theorem dX10_chainSet_3 : decode cX10_chainSet 3 = .ok (.istore_n 3, 1) := by decide +kernel
theorem dX10_chainSet_4 : decode cX10_chainSet 4 = .ok (.iload_n 3, 1) := by decide +kernel
theorem dX10_chainSet_5 : decode cX10_chainSet 5 = .ok (.aload_n 0, 1) := by decide +kernel
theorem dX10_chainSet_6 : decode cX10_chainSet 6 = .ok (.getfield 45, 3) := by decide +kernel
theorem dX10_chainSet_9 : decode cX10_chainSet 9 = .ok (.iload_n 1, 1) := by decide +kernel
theorem dX10_chainSet_10 : decode cX10_chainSet 10 = .ok (.iaload, 1) := by decide +kernel
theorem dX10_chainSet_11 : decode cX10_chainSet 11 = .ok (.if_icmp .ge 20, 3) := by decide +kernel
theorem dX10_chainSet_14 : decode cX10_chainSet 14 = .ok (.iload_n 2, 1) := by decide +kernel
theorem dX10_chainSet_15 : decode cX10_chainSet 15 = .ok (.iconst 1, 1) := by decide +kernel
theorem dX10_chainSet_16 : decode cX10_chainSet 16 = .ok (.aload_n 0, 1) := by decide +kernel
theorem dX10_chainSet_17 : decode cX10_chainSet 17 = .ok (.iload_n 1, 1) := by decide +kernel
theorem dX10_chainSet_18 : decode cX10_chainSet 18 = .ok (.iload_n 3, 1) := by decide +kernel
theorem dX10_chainSet_19 : decode cX10_chainSet 19 = .ok (.invokevirtual 273, 3) := by decide +kernel
theorem dX10_chainSet_22 : decode cX10_chainSet 22 = .ok (.ishl, 1) := by decide +kernel
theorem dX10_chainSet_23 : decode cX10_chainSet 23 = .ok (.ior, 1) := by decide +kernel
theorem dX10_chainSet_24 : decode cX10_chainSet 24 = .ok (.istore_n 2, 1) := by decide +kernel
theorem dX10_chainSet_25 : decode cX10_chainSet 25 = .ok (.iinc 3 1, 3) := by decide +kernel
theorem dX10_chainSet_28 : decode cX10_chainSet 28 = .ok (.goto (-24), 3) := by decide +kernel
theorem dX10_chainSet_31 : decode cX10_chainSet 31 = .ok (.iload_n 2, 1) := by decide +kernel
theorem dX10_chainSet_32 : decode cX10_chainSet 32 = .ok (.ireturn, 1) := by decide +kernel
set_option maxRecDepth 20000 in
theorem ggX10_isAhead_X10_labelBy : GoodIn wsX10_isAhead wsX10_labelBy := goodIn_r _ [7, 8, 9, 10, 11, 6, 12, 22, 23, 24, 25, 26, 27, 28, 29, 30, 31, 32, 33, 34, 35, 36, 37, 38, 39, 40, 41, 42, 43, 44, 45, 46, 47, 48, 49, 50, 51] (by decide +kernel) (by decide +kernel)
set_option maxRecDepth 20000 in
theorem gX10_isAhead_X10_labelBy : GoodIn wsX10_isAhead (wsV RX10 222 RX10 yX10_labelBy wsX10_labelBy) := goodIn_app (goodIn_of _ (by decide +kernel)) ggX10_isAhead_X10_labelBy
set_option maxRecDepth 20000 in
theorem ggX10_isAhead_X10_labelAt : GoodIn wsX10_isAhead wsX10_labelAt := goodIn_r _ [16, 17, 18, 19, 6, 20, 21, 3, 4, 5, 7, 8, 9, 10, 11, 12, 22, 23, 24, 25, 26, 27, 28, 29, 30, 31, 32, 33, 34, 35, 36, 37, 38, 39, 40, 41, 42, 43, 44, 45, 46, 47, 48, 49, 50, 51] (by decide +kernel) (by decide +kernel)
set_option maxRecDepth 20000 in
theorem gX10_isAhead_X10_labelAt : GoodIn wsX10_isAhead (wsV RX10 276 RX10 yX10_labelAt wsX10_labelAt) := goodIn_app (goodIn_of _ (by decide +kernel)) ggX10_isAhead_X10_labelAt
set_option maxRecDepth 20000 in
theorem ggX10_isAhead_X10_chainAt : GoodIn wsX10_isAhead wsX10_chainAt := goodIn_r _ [20, 21, 22, 23, 24, 25, 26, 27, 28, 29, 30, 31, 32, 33, 34, 35, 36, 37, 38, 39, 40, 41, 42, 43, 44, 45, 46, 47, 48, 49, 50, 51] (by decide +kernel) (by decide +kernel)
set_option maxRecDepth 20000 in
theorem gX10_isAhead_X10_chainAt : GoodIn wsX10_isAhead (wsV RX10 273 RX10 yX10_chainAt wsX10_chainAt) := goodIn_app (goodIn_of _ (by decide +kernel)) ggX10_isAhead_X10_chainAt
theorem dX10_isAhead_0 : decode cX10_isAhead 0 = .ok (.iconst 0, 1) := by decide +kernel
theorem dX10_isAhead_1 : decode cX10_isAhead 1 = .ok (.istore_n 3, 1) := by decide +kernel
theorem dX10_isAhead_2 : decode cX10_isAhead 2 = .ok (.iload_n 3, 1) := by decide +kernel
theorem dX10_isAhead_3 : decode cX10_isAhead 3 = .ok (.iconst 1, 1) := by decide +kernel
theorem dX10_isAhead_4 : decode cX10_isAhead 4 = .ok (.iadd, 1) := by decide +kernel
theorem dX10_isAhead_5 : decode cX10_isAhead 5 = .ok (.iload_n 1, 1) := by decide +kernel
theorem dX10_isAhead_6 : decode cX10_isAhead 6 = .ok (.if_icmp .ge 69, 3) := by decide +kernel
theorem dX10_isAhead_9 : decode cX10_isAhead 9 = .ok (.iload_n 3, 1) := by decide +kernel
theorem dX10_isAhead_10 : decode cX10_isAhead 10 = .ok (.iconst 1, 1) := by decide +kernel
theorem dX10_isAhead_11 : decode cX10_isAhead 11 = .ok (.iadd, 1) := by decide +kernel
theorem dX10_isAhead_12 : decode cX10_isAhead 12 = .ok (.aload_n 0, 1) := by decide +kernel
theorem dX10_isAhead_13 : decode cX10_isAhead 13 = .ok (.getfield 45, 3) := by decide +kernel
theorem dX10_isAhead_16 : decode cX10_isAhead 16 = .ok (.iload_n 2, 1) := by decide +kernel
theorem dX10_isAhead_17 : decode cX10_isAhead 17 = .ok (.iaload, 1) := by decide +kernel
theorem dX10_isAhead_18 : decode cX10_isAhead 18 = .ok (.if_icmp .ge 57, 3) := by decide +kernel
theorem dX10_isAhead_21 : decode cX10_isAhead 21 = .ok (.aload_n 0, 1) := by decide +kernel
theorem dX10_isAhead_22 : decode cX10_isAhead 22 = .ok (.aload_n 0, 1) := by decide +kernel
theorem dX10_isAhead_23 : decode cX10_isAhead 23 = .ok (.getfield 48, 3) := by decide +kernel
theorem dX10_isAhead_26 : decode cX10_isAhead 26 = .ok (.iload_n 3, 1) := by decide +kernel
theorem dX10_isAhead_27 : decode cX10_isAhead 27 = .ok (.iaload, 1) := by decide +kernel
theorem dX10_isAhead_28 : decode cX10_isAhead 28 = .ok (.aload_n 0, 1) := by decide +kernel
theorem dX10_isAhead_29 : decode cX10_isAhead 29 = .ok (.getfield 48, 3) := by decide +kernel
theorem dX10_isAhead_32 : decode cX10_isAhead 32 = .ok (.iload_n 3, 1) := by decide +kernel
theorem dX10_isAhead_33 : decode cX10_isAhead 33 = .ok (.iconst 1, 1) := by decide +kernel
theorem dX10_isAhead_34 : decode cX10_isAhead 34 = .ok (.iadd, 1) := by decide +kernel
theorem dX10_isAhead_35 : decode cX10_isAhead 35 = .ok (.iaload, 1) := by decide +kernel
theorem dX10_isAhead_36 : decode cX10_isAhead 36 = .ok (.invokevirtual 222, 3) := by decide +kernel
theorem dX10_isAhead_39 : decode cX10_isAhead 39 = .ok (.istore 4, 2) := by decide +kernel
theorem dX10_isAhead_41 : decode cX10_isAhead 41 = .ok (.iload 4, 2) := by decide +kernel
theorem dX10_isAhead_43 : decode cX10_isAhead 43 = .ok (.aload_n 0, 1) := by decide +kernel
theorem dX10_isAhead_44 : decode cX10_isAhead 44 = .ok (.iload_n 2, 1) := by decide +kernel
theorem dX10_isAhead_45 : decode cX10_isAhead 45 = .ok (.iload_n 3, 1) := by decide +kernel
theorem dX10_isAhead_46 : decode cX10_isAhead 46 = .ok (.invokevirtual 276, 3) := by decide +kernel
theorem dX10_isAhead_49 : decode cX10_isAhead 49 = .ok (.if_icmp .eq 20, 3) := by decide +kernel
theorem dX10_isAhead_52 : decode cX10_isAhead 52 = .ok (.iload 4, 2) := by decide +kernel
theorem dX10_isAhead_54 : decode cX10_isAhead 54 = .ok (.aload_n 0, 1) := by decide +kernel
theorem dX10_isAhead_55 : decode cX10_isAhead 55 = .ok (.iload_n 2, 1) := by decide +kernel
theorem dX10_isAhead_56 : decode cX10_isAhead 56 = .ok (.iload_n 3, 1) := by decide +kernel
theorem dX10_isAhead_57 : decode cX10_isAhead 57 = .ok (.invokevirtual 276, 3) := by decide +kernel
theorem dX10_isAhead_60 : decode cX10_isAhead 60 = .ok (.if_icmp .ge 7, 3) := by decide +kernel
theorem dX10_isAhead_63 : decode cX10_isAhead 63 = .ok (.iconst 1, 1) := by decide +kernel
theorem dX10_isAhead_64 : decode cX10_isAhead 64 = .ok (.goto 4, 3) := by decide +kernel
theorem dX10_isAhead_67 : decode cX10_isAhead 67 = .ok (.iconst 0, 1) := by decide +kernel
theorem dX10_isAhead_68 : decode cX10_isAhead 68 = .ok (.ireturn, 1) := by decide +kernel
theorem dX10_isAhead_69 : decode cX10_isAhead 69 = .ok (.iinc 3 1, 3) := by decide +kernel
theorem dX10_isAhead_72 : decode cX10_isAhead 72 = .ok (.goto (-70), 3) := by decide +kernel
theorem dX10_isAhead_75 : decode cX10_isAhead 75 = .ok (.iload_n 1, 1) := by decide +kernel
theorem dX10_isAhead_76 : decode cX10_isAhead 76 = .ok (.aload_n 0, 1) := by decide +kernel
theorem dX10_isAhead_77 : decode cX10_isAhead 77 = .ok (.getfield 45, 3) := by decide +kernel
theorem dX10_isAhead_80 : decode cX10_isAhead 80 = .ok (.iload_n 2, 1) := by decide +kernel
theorem dX10_isAhead_81 : decode cX10_isAhead 81 = .ok (.iaload, 1) := by decide +kernel
theorem dX10_isAhead_82 : decode cX10_isAhead 82 = .ok (.if_icmp .eq 19, 3) := by decide +kernel
theorem dX10_isAhead_85 : decode cX10_isAhead 85 = .ok (.iload_n 1, 1) := by decide +kernel
theorem dX10_isAhead_86 : decode cX10_isAhead 86 = .ok (.aload_n 0, 1) := by decide +kernel
theorem dX10_isAhead_87 : decode cX10_isAhead 87 = .ok (.getfield 45, 3) := by decide +kernel
theorem dX10_isAhead_90 : decode cX10_isAhead 90 = .ok (.iload_n 2, 1) := by decide +kernel
theorem dX10_isAhead_91 : decode cX10_isAhead 91 = .ok (.iaload, 1) := by decide +kernel
theorem dX10_isAhead_92 : decode cX10_isAhead 92 = .ok (.if_icmp .ge 7, 3) := by decide +kernel
theorem dX10_isAhead_95 : decode cX10_isAhead 95 = .ok (.iconst 1, 1) := by decide +kernel
theorem dX10_isAhead_96 : decode cX10_isAhead 96 = .ok (.goto 4, 3) := by decide +kernel
theorem dX10_isAhead_99 : decode cX10_isAhead 99 = .ok (.iconst 0, 1) := by decide +kernel
theorem dX10_isAhead_100 : decode cX10_isAhead 100 = .ok (.ireturn, 1) := by decide +kernel
theorem dX10_isAhead_101 : decode cX10_isAhead 101 = .ok (.iconst 0, 1) := by decide +kernel
theorem dX10_isAhead_102 : decode cX10_isAhead 102 = .ok (.istore_n 3, 1) := by decide +kernel
theorem dX10_isAhead_103 : decode cX10_isAhead 103 = .ok (.iload_n 3, 1) := by decide +kernel
theorem dX10_isAhead_104 : decode cX10_isAhead 104 = .ok (.iload_n 1, 1) := by decide +kernel
theorem dX10_isAhead_105 : decode cX10_isAhead 105 = .ok (.if_icmp .ge 45, 3) := by decide +kernel
theorem dX10_isAhead_108 : decode cX10_isAhead 108 = .ok (.aload_n 0, 1) := by decide +kernel
theorem dX10_isAhead_109 : decode cX10_isAhead 109 = .ok (.getfield 48, 3) := by decide +kernel
theorem dX10_isAhead_112 : decode cX10_isAhead 112 = .ok (.iload_n 3, 1) := by decide +kernel
theorem dX10_isAhead_113 : decode cX10_isAhead 113 = .ok (.iaload, 1) := by decide +kernel
theorem dX10_isAhead_114 : decode cX10_isAhead 114 = .ok (.aload_n 0, 1) := by decide +kernel
theorem dX10_isAhead_115 : decode cX10_isAhead 115 = .ok (.iload_n 2, 1) := by decide +kernel
theorem dX10_isAhead_116 : decode cX10_isAhead 116 = .ok (.iload_n 3, 1) := by decide +kernel
theorem dX10_isAhead_117 : decode cX10_isAhead 117 = .ok (.invokevirtual 273, 3) := by decide +kernel
theorem dX10_isAhead_120 : decode cX10_isAhead 120 = .ok (.if_icmp .eq 24, 3) := by decide +kernel
theorem dX10_isAhead_123 : decode cX10_isAhead 123 = .ok (.aload_n 0, 1) := by decide +kernel
theorem dX10_isAhead_124 : decode cX10_isAhead 124 = .ok (.getfield 48, 3) := by decide +kernel
theorem dX10_isAhead_127 : decode cX10_isAhead 127 = .ok (.iload_n 3, 1) := by decide +kernel
theorem dX10_isAhead_128 : decode cX10_isAhead 128 = .ok (.iaload, 1) := by decide +kernel
theorem dX10_isAhead_129 : decode cX10_isAhead 129 = .ok (.aload_n 0, 1) := by decide +kernel
theorem dX10_isAhead_130 : decode cX10_isAhead 130 = .ok (.iload_n 2, 1) := by decide +kernel
theorem dX10_isAhead_131 : decode cX10_isAhead 131 = .ok (.iload_n 3, 1) := by decide +kernel
theorem dX10_isAhead_132 : decode cX10_isAhead 132 = .ok (.invokevirtual 273, 3) := by decide +kernel
theorem dX10_isAhead_135 : decode cX10_isAhead 135 = .ok (.if_icmp .ge 7, 3) := by decide +kernel
theorem dX10_isAhead_138 : decode cX10_isAhead 138 = .ok (.iconst 1, 1) := by decide +kernel
theorem dX10_isAhead_139 : decode cX10_isAhead 139 = .ok (.goto 4, 3) := by decide +kernel
theorem dX10_isAhead_142 : decode cX10_isAhead 142 = .ok (.iconst 0, 1) := by decide +kernel
theorem dX10_isAhead_143 : decode cX10_isAhead 143 = .ok (.ireturn, 1) := by decide +kernel
theorem dX10_isAhead_144 : decode cX10_isAhead 144 = .ok (.iinc 3 1, 3) := by decide +kernel
theorem dX10_isAhead_147 : decode cX10_isAhead 147 = .ok (.goto (-44), 3) := by decide +kernel
theorem dX10_isAhead_150 : decode cX10_isAhead 150 = .ok (.iconst 0, 1) := by decide +kernel
theorem dX10_isAhead_151 : decode cX10_isAhead 151 = .ok (.ireturn, 1) := by decide +kernel
set_option maxRecDepth 20000 in
theorem ggX10_addChain_X10_isAhead : GoodIn wsX10_addChain wsX10_isAhead := goodIn_r _ [9, 2, 4, 10, 11, 12, 8, 13, 14, 15, 16, 17, 18, 19, 20, 21, 22, 23, 24, 25, 26, 3, 27, 28, 29, 30, 31, 32, 33, 34, 35, 36, 37, 38, 39, 40, 41, 42, 43, 44, 45, 46, 47, 48, 49, 50, 51, 52, 53, 54, 55, 56] (by decide +kernel) (by decide +kernel)
set_option maxRecDepth 20000 in
theorem gX10_addChain_X10_isAhead : GoodIn wsX10_addChain (wsV RX10 282 RX10 yX10_isAhead wsX10_isAhead) := goodIn_app (goodIn_of _ (by decide +kernel)) ggX10_addChain_X10_isAhead
theorem dX10_addChain_0 : decode cX10_addChain 0 = .ok (.aload_n 0, 1) := by decide +kernel
theorem dX10_addChain_1 : decode cX10_addChain 1 = .ok (.getfield 279, 3) := by decide +kernel
theorem dX10_addChain_4 : decode cX10_addChain 4 = .ok (.istore_n 2, 1) := by decide +kernel
theorem dX10_addChain_5 : decode cX10_addChain 5 = .ok (.iload_n 2, 1) := by decide +kernel
theorem dX10_addChain_6 : decode cX10_addChain 6 = .ok (.ifCond .le 73, 3) := by decide +kernel
theorem dX10_addChain_9 : decode cX10_addChain 9 = .ok (.aload_n 0, 1) := by decide +kernel
theorem dX10_addChain_10 : decode cX10_addChain 10 = .ok (.iload_n 1, 1) := by decide +kernel
theorem dX10_addChain_11 : decode cX10_addChain 11 = .ok (.iload_n 2, 1) := by decide +kernel
theorem dX10_addChain_12 : decode cX10_addChain 12 = .ok (.iconst 1, 1) := by decide +kernel
theorem dX10_addChain_13 : decode cX10_addChain 13 = .ok (.isub, 1) := by decide +kernel
theorem dX10_addChain_14 : decode cX10_addChain 14 = .ok (.invokevirtual 282, 3) := by decide +kernel
theorem dX10_addChain_17 : decode cX10_addChain 17 = .ok (.ifCond .eq 62, 3) := by decide +kernel
theorem dX10_addChain_20 : decode cX10_addChain 20 = .ok (.aload_n 0, 1) := by decide +kernel
theorem dX10_addChain_21 : decode cX10_addChain 21 = .ok (.getfield 45, 3) := by decide +kernel
theorem dX10_addChain_24 : decode cX10_addChain 24 = .ok (.iload_n 2, 1) := by decide +kernel
theorem dX10_addChain_25 : decode cX10_addChain 25 = .ok (.aload_n 0, 1) := by decide +kernel
theorem dX10_addChain_26 : decode cX10_addChain 26 = .ok (.getfield 45, 3) := by decide +kernel
theorem dX10_addChain_29 : decode cX10_addChain 29 = .ok (.iload_n 2, 1) := by decide +kernel
theorem dX10_addChain_30 : decode cX10_addChain 30 = .ok (.iconst 1, 1) := by decide +kernel
theorem dX10_addChain_31 : decode cX10_addChain 31 = .ok (.isub, 1) := by decide +kernel
theorem dX10_addChain_32 : decode cX10_addChain 32 = .ok (.iaload, 1) := by decide +kernel
theorem dX10_addChain_33 : decode cX10_addChain 33 = .ok (.iastore, 1) := by decide +kernel
theorem dX10_addChain_34 : decode cX10_addChain 34 = .ok (.iconst 0, 1) := by decide +kernel
theorem dX10_addChain_35 : decode cX10_addChain 35 = .ok (.istore_n 3, 1) := by decide +kernel
theorem dX10_addChain_36 : decode cX10_addChain 36 = .ok (.iload_n 3, 1) := by decide +kernel
theorem dX10_addChain_37 : decode cX10_addChain 37 = .ok (.bipush 9, 2) := by decide +kernel
theorem dX10_addChain_39 : decode cX10_addChain 39 = .ok (.if_icmp .ge 34, 3) := by decide +kernel
theorem dX10_addChain_42 : decode cX10_addChain 42 = .ok (.aload_n 0, 1) := by decide +kernel
theorem dX10_addChain_43 : decode cX10_addChain 43 = .ok (.getfield 42, 3) := by decide +kernel
theorem dX10_addChain_46 : decode cX10_addChain 46 = .ok (.bipush 9, 2) := by decide +kernel
theorem dX10_addChain_48 : decode cX10_addChain 48 = .ok (.iload_n 2, 1) := by decide +kernel
theorem dX10_addChain_49 : decode cX10_addChain 49 = .ok (.imul, 1) := by decide +kernel
theorem dX10_addChain_50 : decode cX10_addChain 50 = .ok (.iload_n 3, 1) := by decide +kernel
theorem dX10_addChain_51 : decode cX10_addChain 51 = .ok (.iadd, 1) := by decide +kernel
theorem dX10_addChain_52 : decode cX10_addChain 52 = .ok (.aload_n 0, 1) := by decide +kernel
theorem dX10_addChain_53 : decode cX10_addChain 53 = .ok (.getfield 42, 3) := by decide +kernel
theorem dX10_addChain_56 : decode cX10_addChain 56 = .ok (.bipush 9, 2) := by decide +kernel
theorem dX10_addChain_58 : decode cX10_addChain 58 = .ok (.iload_n 2, 1) := by decide +kernel
theorem dX10_addChain_59 : decode cX10_addChain 59 = .ok (.imul, 1) := by decide +kernel
theorem dX10_addChain_60 : decode cX10_addChain 60 = .ok (.bipush 9, 2) := by decide +kernel
theorem dX10_addChain_62 : decode cX10_addChain 62 = .ok (.isub, 1) := by decide +kernel
theorem dX10_addChain_63 : decode cX10_addChain 63 = .ok (.iload_n 3, 1) := by decide +kernel
theorem dX10_addChain_64 : decode cX10_addChain 64 = .ok (.iadd, 1) := by decide +kernel
theorem dX10_addChain_65 : decode cX10_addChain 65 = .ok (.iaload, 1) := by decide +kernel
theorem dX10_addChain_66 : decode cX10_addChain 66 = .ok (.iastore, 1) := by decide +kernel
theorem dX10_addChain_67 : decode cX10_addChain 67 = .ok (.iinc 3 1, 3) := by decide +kernel
theorem dX10_addChain_70 : decode cX10_addChain 70 = .ok (.goto (-34), 3) := by decide +kernel
theorem dX10_addChain_73 : decode cX10_addChain 73 = .ok (.iinc 2 (-1), 3) := by decide +kernel
theorem dX10_addChain_76 : decode cX10_addChain 76 = .ok (.goto (-71), 3) := by decide +kernel
theorem dX10_addChain_79 : decode cX10_addChain 79 = .ok (.aload_n 0, 1) := by decide +kernel
theorem dX10_addChain_80 : decode cX10_addChain 80 = .ok (.getfield 45, 3) := by decide +kernel
theorem dX10_addChain_83 : decode cX10_addChain 83 = .ok (.iload_n 2, 1) := by decide +kernel
theorem dX10_addChain_84 : decode cX10_addChain 84 = .ok (.iload_n 1, 1) := by decide +kernel
theorem dX10_addChain_85 : decode cX10_addChain 85 = .ok (.iastore, 1) := by decide +kernel
theorem dX10_addChain_86 : decode cX10_addChain 86 = .ok (.iconst 0, 1) := by decide +kernel
theorem dX10_addChain_87 : decode cX10_addChain 87 = .ok (.istore_n 3, 1) := by decide +kernel
theorem dX10_addChain_88 : decode cX10_addChain 88 = .ok (.iload_n 3, 1) := by decide +kernel
theorem dX10_addChain_89 : decode cX10_addChain 89 = .ok (.iload_n 1, 1) := by decide +kernel
theorem dX10_addChain_90 : decode cX10_addChain 90 = .ok (.if_icmp .ge 26, 3) := by decide +kernel
theorem dX10_addChain_93 : decode cX10_addChain 93 = .ok (.aload_n 0, 1) := by decide +kernel
theorem dX10_addChain_94 : decode cX10_addChain 94 = .ok (.getfield 42, 3) := by decide +kernel
theorem dX10_addChain_97 : decode cX10_addChain 97 = .ok (.bipush 9, 2) := by decide +kernel
theorem dX10_addChain_99 : decode cX10_addChain 99 = .ok (.iload_n 2, 1) := by decide +kernel
theorem dX10_addChain_100 : decode cX10_addChain 100 = .ok (.imul, 1) := by decide +kernel
theorem dX10_addChain_101 : decode cX10_addChain 101 = .ok (.iload_n 3, 1) := by decide +kernel
theorem dX10_addChain_102 : decode cX10_addChain 102 = .ok (.iadd, 1) := by decide +kernel
theorem dX10_addChain_103 : decode cX10_addChain 103 = .ok (.aload_n 0, 1) := by decide +kernel
theorem dX10_addChain_104 : decode cX10_addChain 104 = .ok (.getfield 48, 3) := by decide +kernel
theorem dX10_addChain_107 : decode cX10_addChain 107 = .ok (.iload_n 3, 1) := by decide +kernel
theorem dX10_addChain_108 : decode cX10_addChain 108 = .ok (.iaload, 1) := by decide +kernel
theorem dX10_addChain_109 : decode cX10_addChain 109 = .ok (.iastore, 1) := by decide +kernel
theorem dX10_addChain_110 : decode cX10_addChain 110 = .ok (.iinc 3 1, 3) := by decide +kernel
theorem dX10_addChain_113 : decode cX10_addChain 113 = .ok (.goto (-25), 3) := by decide +kernel
theorem dX10_addChain_116 : decode cX10_addChain 116 = .ok (.aload_n 0, 1) := by decide +kernel
theorem dX10_addChain_117 : decode cX10_addChain 117 = .ok (.dup, 1) := by decide +kernel
theorem dX10_addChain_118 : decode cX10_addChain 118 = .ok (.getfield 279, 3) := by decide +kernel
theorem dX10_addChain_121 : decode cX10_addChain 121 = .ok (.iconst 1, 1) := by decide +kernel
theorem dX10_addChain_122 : decode cX10_addChain 122 = .ok (.iadd, 1) := by decide +kernel
theorem dX10_addChain_123 : decode cX10_addChain 123 = .ok (.putfield 279, 3) := by decide +kernel
theorem dX10_addChain_126 : decode cX10_addChain 126 = .ok (.return_, 1) := by decide +kernel
set_option maxRecDepth 20000 in
theorem ggX10_layChains_X10_addChain : GoodIn wsX10_layChains wsX10_addChain := goodIn_r _ [8, 1, 9, 10, 2, 11, 12, 13, 7, 14, 15, 16, 17, 18, 19, 20, 21, 22, 23, 24, 25, 26, 27, 28, 29, 30, 31, 63, 64, 65, 66, 67, 68, 69, 70, 71, 72, 73, 74, 75, 76, 77, 78, 79, 80, 81, 82, 83, 84, 85, 86, 87, 88, 89, 90, 91, 92] (by decide +kernel) (by decide +kernel)
set_option maxRecDepth 20000 in
theorem gX10_layChains_X10_addChain : GoodIn wsX10_layChains (wsV RX10 285 RX10 yX10_addChain wsX10_addChain) := goodIn_app (goodIn_of _ (by decide +kernel)) ggX10_layChains_X10_addChain
set_option maxRecDepth 20000 in
theorem ggX10_layChains_X10_between : GoodIn wsX10_layChains wsX10_between := goodIn_r _ [35, 36, 37, 38, 7, 39, 40, 41, 42, 43, 19, 44, 45, 46, 47, 48, 49, 50, 51, 52, 53, 54, 55, 56, 57, 58, 63, 64, 65, 66, 67, 68, 69, 70, 71, 72, 73, 74, 75, 76, 77, 78, 79, 80, 81, 82, 83, 84, 85, 86, 87, 88, 89, 90, 91, 92] (by decide +kernel) (by decide +kernel)
set_option maxRecDepth 20000 in
theorem gX10_layChains_X10_between : GoodIn wsX10_layChains (wsV RX10 288 RX10 yX10_between wsX10_between) := goodIn_app (goodIn_of _ (by decide +kernel)) ggX10_layChains_X10_between
set_option maxRecDepth 20000 in
theorem ggX10_layChains_X10_has : GoodIn wsX10_layChains wsX10_has := goodIn_r _ [54] (by decide +kernel) (by decide +kernel)
set_option maxRecDepth 20000 in
theorem gX10_layChains_X10_has : GoodIn wsX10_layChains (va_wsS RX10 91 yX10_has wsX10_has) := goodIn_app (goodIn_of _ (by decide +kernel)) ggX10_layChains_X10_has
set_option maxRecDepth 20000 in
theorem ggX10_layChains_X10_covers : GoodIn wsX10_layChains wsX10_covers := goodIn_r _ [62, 55, 56, 57, 7, 58, 19, 52, 53, 54, 40, 41, 42, 43, 48, 49, 50, 51, 63, 64, 65, 66, 67, 68, 69, 70, 71, 72, 73, 74, 75, 76, 77, 78, 79, 80, 81, 82, 83, 84, 85, 86, 87, 88, 89, 90, 91, 92] (by decide +kernel) (by decide +kernel)
set_option maxRecDepth 20000 in
theorem gX10_layChains_X10_covers : GoodIn wsX10_layChains (wsV RX10 213 RX10 yX10_covers wsX10_covers) := goodIn_app (goodIn_of _ (by decide +kernel)) ggX10_layChains_X10_covers
theorem dX10_layChains_0 : decode cX10_layChains 0 = .ok (.aload_n 0, 1) := by decide +kernel
theorem dX10_layChains_1 : decode cX10_layChains 1 = .ok (.iconst 0, 1) := by decide +kernel
theorem dX10_layChains_2 : decode cX10_layChains 2 = .ok (.putfield 279, 3) := by decide +kernel
theorem dX10_layChains_5 : decode cX10_layChains 5 = .ok (.iconst 1, 1) := by decide +kernel
theorem dX10_layChains_6 : decode cX10_layChains 6 = .ok (.istore_n 3, 1) := by decide +kernel
theorem dX10_layChains_7 : decode cX10_layChains 7 = .ok (.aload_n 0, 1) := by decide +kernel
theorem dX10_layChains_8 : decode cX10_layChains 8 = .ok (.getfield 48, 3) := by decide +kernel
theorem dX10_layChains_11 : decode cX10_layChains 11 = .ok (.iconst 0, 1) := by decide +kernel
theorem dX10_layChains_12 : decode cX10_layChains 12 = .ok (.iload_n 1, 1) := by decide +kernel
theorem dX10_layChains_13 : decode cX10_layChains 13 = .ok (.iastore, 1) := by decide +kernel
theorem dX10_layChains_14 : decode cX10_layChains 14 = .ok (.aload_n 0, 1) := by decide +kernel
theorem dX10_layChains_15 : decode cX10_layChains 15 = .ok (.getfield 51, 3) := by decide +kernel
theorem dX10_layChains_18 : decode cX10_layChains 18 = .ok (.iconst 0, 1) := by decide +kernel
theorem dX10_layChains_19 : decode cX10_layChains 19 = .ok (.iconst 0, 1) := by decide +kernel
theorem dX10_layChains_20 : decode cX10_layChains 20 = .ok (.iastore, 1) := by decide +kernel
theorem dX10_layChains_21 : decode cX10_layChains 21 = .ok (.iload_n 3, 1) := by decide +kernel
theorem dX10_layChains_22 : decode cX10_layChains 22 = .ok (.ifCond .le 111, 3) := by decide +kernel
theorem dX10_layChains_25 : decode cX10_layChains 25 = .ok (.aload_n 0, 1) := by decide +kernel
theorem dX10_layChains_26 : decode cX10_layChains 26 = .ok (.getfield 48, 3) := by decide +kernel
theorem dX10_layChains_29 : decode cX10_layChains 29 = .ok (.iload_n 3, 1) := by decide +kernel
theorem dX10_layChains_30 : decode cX10_layChains 30 = .ok (.iconst 1, 1) := by decide +kernel
theorem dX10_layChains_31 : decode cX10_layChains 31 = .ok (.isub, 1) := by decide +kernel
theorem dX10_layChains_32 : decode cX10_layChains 32 = .ok (.iaload, 1) := by decide +kernel
theorem dX10_layChains_33 : decode cX10_layChains 33 = .ok (.istore 4, 2) := by decide +kernel
theorem dX10_layChains_35 : decode cX10_layChains 35 = .ok (.aload_n 0, 1) := by decide +kernel
theorem dX10_layChains_36 : decode cX10_layChains 36 = .ok (.getfield 51, 3) := by decide +kernel
theorem dX10_layChains_39 : decode cX10_layChains 39 = .ok (.iload_n 3, 1) := by decide +kernel
theorem dX10_layChains_40 : decode cX10_layChains 40 = .ok (.iconst 1, 1) := by decide +kernel
theorem dX10_layChains_41 : decode cX10_layChains 41 = .ok (.isub, 1) := by decide +kernel
theorem dX10_layChains_42 : decode cX10_layChains 42 = .ok (.iaload, 1) := by decide +kernel
theorem dX10_layChains_43 : decode cX10_layChains 43 = .ok (.istore 5, 2) := by decide +kernel
theorem dX10_layChains_45 : decode cX10_layChains 45 = .ok (.iload 4, 2) := by decide +kernel
theorem dX10_layChains_47 : decode cX10_layChains 47 = .ok (.iload_n 2, 1) := by decide +kernel
theorem dX10_layChains_48 : decode cX10_layChains 48 = .ok (.if_icmp .ne 14, 3) := by decide +kernel
theorem dX10_layChains_51 : decode cX10_layChains 51 = .ok (.aload_n 0, 1) := by decide +kernel
theorem dX10_layChains_52 : decode cX10_layChains 52 = .ok (.iload_n 3, 1) := by decide +kernel
theorem dX10_layChains_53 : decode cX10_layChains 53 = .ok (.invokevirtual 285, 3) := by decide +kernel
theorem dX10_layChains_56 : decode cX10_layChains 56 = .ok (.iinc 3 (-1), 3) := by decide +kernel
theorem dX10_layChains_59 : decode cX10_layChains 59 = .ok (.goto 71, 3) := by decide +kernel
theorem dX10_layChains_62 : decode cX10_layChains 62 = .ok (.iload 5, 2) := by decide +kernel
theorem dX10_layChains_64 : decode cX10_layChains 64 = .ok (.bipush 9, 2) := by decide +kernel
theorem dX10_layChains_66 : decode cX10_layChains 66 = .ok (.if_icmp .ne 9, 3) := by decide +kernel
theorem dX10_layChains_69 : decode cX10_layChains 69 = .ok (.iinc 3 (-1), 3) := by decide +kernel
theorem dX10_layChains_72 : decode cX10_layChains 72 = .ok (.goto 58, 3) := by decide +kernel
theorem dX10_layChains_75 : decode cX10_layChains 75 = .ok (.aload_n 0, 1) := by decide +kernel
theorem dX10_layChains_76 : decode cX10_layChains 76 = .ok (.getfield 51, 3) := by decide +kernel
theorem dX10_layChains_79 : decode cX10_layChains 79 = .ok (.iload_n 3, 1) := by decide +kernel
theorem dX10_layChains_80 : decode cX10_layChains 80 = .ok (.iconst 1, 1) := by decide +kernel
theorem dX10_layChains_81 : decode cX10_layChains 81 = .ok (.isub, 1) := by decide +kernel
theorem dX10_layChains_82 : decode cX10_layChains 82 = .ok (.dup2, 1) := by decide +kernel
theorem dX10_layChains_83 : decode cX10_layChains 83 = .ok (.iaload, 1) := by decide +kernel
theorem dX10_layChains_84 : decode cX10_layChains 84 = .ok (.iconst 1, 1) := by decide +kernel
theorem dX10_layChains_85 : decode cX10_layChains 85 = .ok (.iadd, 1) := by decide +kernel
theorem dX10_layChains_86 : decode cX10_layChains 86 = .ok (.iastore, 1) := by decide +kernel
theorem dX10_layChains_87 : decode cX10_layChains 87 = .ok (.aload_n 0, 1) := by decide +kernel
theorem dX10_layChains_88 : decode cX10_layChains 88 = .ok (.iload_n 1, 1) := by decide +kernel
theorem dX10_layChains_89 : decode cX10_layChains 89 = .ok (.iload_n 2, 1) := by decide +kernel
theorem dX10_layChains_90 : decode cX10_layChains 90 = .ok (.invokevirtual 288, 3) := by decide +kernel
theorem dX10_layChains_93 : decode cX10_layChains 93 = .ok (.iload 5, 2) := by decide +kernel
theorem dX10_layChains_95 : decode cX10_layChains 95 = .ok (.invokestatic 91, 3) := by decide +kernel
theorem dX10_layChains_98 : decode cX10_layChains 98 = .ok (.ifCond .eq 32, 3) := by decide +kernel
theorem dX10_layChains_101 : decode cX10_layChains 101 = .ok (.aload_n 0, 1) := by decide +kernel
theorem dX10_layChains_102 : decode cX10_layChains 102 = .ok (.iload 5, 2) := by decide +kernel
theorem dX10_layChains_104 : decode cX10_layChains 104 = .ok (.iload 4, 2) := by decide +kernel
theorem dX10_layChains_106 : decode cX10_layChains 106 = .ok (.invokevirtual 213, 3) := by decide +kernel
theorem dX10_layChains_109 : decode cX10_layChains 109 = .ok (.ifCond .eq 21, 3) := by decide +kernel
theorem dX10_layChains_112 : decode cX10_layChains 112 = .ok (.aload_n 0, 1) := by decide +kernel
theorem dX10_layChains_113 : decode cX10_layChains 113 = .ok (.getfield 48, 3) := by decide +kernel
theorem dX10_layChains_116 : decode cX10_layChains 116 = .ok (.iload_n 3, 1) := by decide +kernel
theorem dX10_layChains_117 : decode cX10_layChains 117 = .ok (.iload 5, 2) := by decide +kernel
theorem dX10_layChains_119 : decode cX10_layChains 119 = .ok (.iastore, 1) := by decide +kernel
theorem dX10_layChains_120 : decode cX10_layChains 120 = .ok (.aload_n 0, 1) := by decide +kernel
theorem dX10_layChains_121 : decode cX10_layChains 121 = .ok (.getfield 51, 3) := by decide +kernel
theorem dX10_layChains_124 : decode cX10_layChains 124 = .ok (.iload_n 3, 1) := by decide +kernel
theorem dX10_layChains_125 : decode cX10_layChains 125 = .ok (.iconst 0, 1) := by decide +kernel
theorem dX10_layChains_126 : decode cX10_layChains 126 = .ok (.iastore, 1) := by decide +kernel
theorem dX10_layChains_127 : decode cX10_layChains 127 = .ok (.iinc 3 1, 3) := by decide +kernel
