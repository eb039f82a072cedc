theorem dX0_init_0 : decode cX0_init 0 = .ok (.aload_n 0, 1) := by decide +kernel
theorem dX0_init_1 : decode cX0_init 1 = .ok (.invokespecial 3, 3) := by decide +kernel
theorem dX0_init_4 : decode cX0_init 4 = .ok (.aload_n 0, 1) := by decide +kernel
theorem dX0_init_5 : decode cX0_init 5 = .ok (.bipush 81, 2) := by decide +kernel
theorem dX0_init_7 : decode cX0_init 7 = .ok (.newarray .int, 2) := by decide +kernel
theorem dX0_init_9 : decode cX0_init 9 = .ok (.putfield 9, 3) := by decide +kernel
theorem dX0_init_12 : decode cX0_init 12 = .ok (.aload_n 0, 1) := by decide +kernel
theorem dX0_init_13 : decode cX0_init 13 = .ok (.bipush 81, 2) := by decide +kernel
theorem dX0_init_15 : decode cX0_init 15 = .ok (.newarray .int, 2) := by decide +kernel
theorem dX0_init_17 : decode cX0_init 17 = .ok (.putfield 15, 3) := by decide +kernel
theorem dX0_init_20 : decode cX0_init 20 = .ok (.return_, 1) := by decide +kernel
set_option maxRecDepth 20000 in
theorem ggX0_fill_X6_has : GoodIn wsX0_fill wsX6_has := goodIn_r _ [7, 8, 9, 10, 11, 35, 36, 37, 38, 39, 40] (by decide +kernel) (by decide +kernel)
set_option maxRecDepth 20000 in
theorem gX0_fill_X6_has : GoodIn wsX0_fill (wsV RX0 18 RX6 yX6_has wsX6_has) := goodIn_app (goodIn_of _ (by decide +kernel)) ggX0_fill_X6_has
set_option maxRecDepth 20000 in
theorem ggX0_fill_X6_atLeast : GoodIn wsX0_fill wsX6_atLeast := goodIn_r _ [15, 16, 17, 4, 5, 6, 7, 8, 9, 10, 11, 35, 36, 37, 38, 39, 40] (by decide +kernel) (by decide +kernel)
set_option maxRecDepth 20000 in
theorem gX0_fill_X6_atLeast : GoodIn wsX0_fill (wsV RX0 24 RX6 yX6_atLeast wsX6_atLeast) := goodIn_app (goodIn_of _ (by decide +kernel)) ggX0_fill_X6_atLeast
set_option maxRecDepth 20000 in
theorem ggX0_fill_X6_leastOf : GoodIn wsX0_fill wsX6_leastOf := goodIn_r _ [21, 9, 10, 11, 22, 13, 14, 6, 15, 16, 17, 4, 5, 7, 8, 35, 36, 37, 38, 39, 40] (by decide +kernel) (by decide +kernel)
set_option maxRecDepth 20000 in
theorem gX0_fill_X6_leastOf : GoodIn wsX0_fill (wsV RX0 28 RX6 yX6_leastOf wsX6_leastOf) := goodIn_app (goodIn_of _ (by decide +kernel)) ggX0_fill_X6_leastOf
set_option maxRecDepth 20000 in
theorem ggX0_fill_X6_atMost : GoodIn wsX0_fill wsX6_atMost := goodIn_r _ [26, 27, 17, 4, 5, 6, 7, 8, 9, 10, 11, 35, 36, 37, 38, 39, 40] (by decide +kernel) (by decide +kernel)
set_option maxRecDepth 20000 in
theorem gX0_fill_X6_atMost : GoodIn wsX0_fill (wsV RX0 31 RX6 yX6_atMost wsX6_atMost) := goodIn_app (goodIn_of _ (by decide +kernel)) ggX0_fill_X6_atMost
set_option maxRecDepth 20000 in
theorem ggX0_fill_X6_greatestOf : GoodIn wsX0_fill wsX6_greatestOf := goodIn_r _ [31, 9, 10, 11, 32, 24, 25, 6, 26, 27, 17, 4, 5, 7, 8, 35, 36, 37, 38, 39, 40] (by decide +kernel) (by decide +kernel)
set_option maxRecDepth 20000 in
theorem gX0_fill_X6_greatestOf : GoodIn wsX0_fill (wsV RX0 34 RX6 yX6_greatestOf wsX6_greatestOf) := goodIn_app (goodIn_of _ (by decide +kernel)) ggX0_fill_X6_greatestOf
theorem dX0_fill_0 : decode cX0_fill 0 = .ok (.iconst 0, 1) := by decide +kernel
theorem dX0_fill_1 : decode cX0_fill 1 = .ok (.istore_n 2, 1) := by decide +kernel
theorem dX0_fill_2 : decode cX0_fill 2 = .ok (.iload_n 2, 1) := by decide +kernel
theorem dX0_fill_3 : decode cX0_fill 3 = .ok (.bipush 9, 2) := by decide +kernel
theorem dX0_fill_5 : decode cX0_fill 5 = .ok (.if_icmp .ge 116, 3) := by decide +kernel
theorem dX0_fill_8 : decode cX0_fill 8 = .ok (.iconst 0, 1) := by decide +kernel
theorem dX0_fill_9 : decode cX0_fill 9 = .ok (.istore_n 3, 1) := by decide +kernel
theorem dX0_fill_10 : decode cX0_fill 10 = .ok (.iload_n 3, 1) := by decide +kernel
theorem dX0_fill_11 : decode cX0_fill 11 = .ok (.bipush 9, 2) := by decide +kernel
theorem dX0_fill_13 : decode cX0_fill 13 = .ok (.if_icmp .ge 102, 3) := by decide +kernel
theorem dX0_fill_16 : decode cX0_fill 16 = .ok (.aload_n 1, 1) := by decide +kernel
theorem dX0_fill_17 : decode cX0_fill 17 = .ok (.iload_n 2, 1) := by decide +kernel
theorem dX0_fill_18 : decode cX0_fill 18 = .ok (.invokevirtual 18, 3) := by decide +kernel
theorem dX0_fill_21 : decode cX0_fill 21 = .ok (.ifCond .eq 88, 3) := by decide +kernel
theorem dX0_fill_24 : decode cX0_fill 24 = .ok (.aload_n 1, 1) := by decide +kernel
theorem dX0_fill_25 : decode cX0_fill 25 = .ok (.iload_n 3, 1) := by decide +kernel
theorem dX0_fill_26 : decode cX0_fill 26 = .ok (.invokevirtual 18, 3) := by decide +kernel
theorem dX0_fill_29 : decode cX0_fill 29 = .ok (.ifCond .ne 6, 3) := by decide +kernel
theorem dX0_fill_32 : decode cX0_fill 32 = .ok (.goto 77, 3) := by decide +kernel
theorem dX0_fill_35 : decode cX0_fill 35 = .ok (.iload_n 2, 1) := by decide +kernel
theorem dX0_fill_36 : decode cX0_fill 36 = .ok (.bipush 9, 2) := by decide +kernel
theorem dX0_fill_38 : decode cX0_fill 38 = .ok (.imul, 1) := by decide +kernel
theorem dX0_fill_39 : decode cX0_fill 39 = .ok (.iload_n 3, 1) := by decide +kernel
theorem dX0_fill_40 : decode cX0_fill 40 = .ok (.iadd, 1) := by decide +kernel
theorem dX0_fill_41 : decode cX0_fill 41 = .ok (.istore 4, 2) := by decide +kernel
theorem dX0_fill_43 : decode cX0_fill 43 = .ok (.aload_n 0, 1) := by decide +kernel
theorem dX0_fill_44 : decode cX0_fill 44 = .ok (.getfield 9, 3) := by decide +kernel
theorem dX0_fill_47 : decode cX0_fill 47 = .ok (.iload 4, 2) := by decide +kernel
theorem dX0_fill_49 : decode cX0_fill 49 = .ok (.aload_n 1, 1) := by decide +kernel
theorem dX0_fill_50 : decode cX0_fill 50 = .ok (.aload_n 1, 1) := by decide +kernel
theorem dX0_fill_51 : decode cX0_fill 51 = .ok (.iload_n 2, 1) := by decide +kernel
theorem dX0_fill_52 : decode cX0_fill 52 = .ok (.invokevirtual 24, 3) := by decide +kernel
theorem dX0_fill_55 : decode cX0_fill 55 = .ok (.aload_n 1, 1) := by decide +kernel
theorem dX0_fill_56 : decode cX0_fill 56 = .ok (.iload_n 3, 1) := by decide +kernel
theorem dX0_fill_57 : decode cX0_fill 57 = .ok (.invokevirtual 24, 3) := by decide +kernel
theorem dX0_fill_60 : decode cX0_fill 60 = .ok (.iand, 1) := by decide +kernel
theorem dX0_fill_61 : decode cX0_fill 61 = .ok (.invokevirtual 28, 3) := by decide +kernel
theorem dX0_fill_64 : decode cX0_fill 64 = .ok (.iastore, 1) := by decide +kernel
theorem dX0_fill_65 : decode cX0_fill 65 = .ok (.aload_n 0, 1) := by decide +kernel
theorem dX0_fill_66 : decode cX0_fill 66 = .ok (.getfield 15, 3) := by decide +kernel
theorem dX0_fill_69 : decode cX0_fill 69 = .ok (.iload 4, 2) := by decide +kernel
theorem dX0_fill_71 : decode cX0_fill 71 = .ok (.aload_n 1, 1) := by decide +kernel
theorem dX0_fill_72 : decode cX0_fill 72 = .ok (.aload_n 1, 1) := by decide +kernel
theorem dX0_fill_73 : decode cX0_fill 73 = .ok (.iload_n 2, 1) := by decide +kernel
theorem dX0_fill_74 : decode cX0_fill 74 = .ok (.invokevirtual 31, 3) := by decide +kernel
theorem dX0_fill_77 : decode cX0_fill 77 = .ok (.aload_n 1, 1) := by decide +kernel
theorem dX0_fill_78 : decode cX0_fill 78 = .ok (.iload_n 3, 1) := by decide +kernel
theorem dX0_fill_79 : decode cX0_fill 79 = .ok (.invokevirtual 31, 3) := by decide +kernel
theorem dX0_fill_82 : decode cX0_fill 82 = .ok (.iand, 1) := by decide +kernel
theorem dX0_fill_83 : decode cX0_fill 83 = .ok (.invokevirtual 34, 3) := by decide +kernel
theorem dX0_fill_86 : decode cX0_fill 86 = .ok (.iastore, 1) := by decide +kernel
theorem dX0_fill_87 : decode cX0_fill 87 = .ok (.aload_n 0, 1) := by decide +kernel
theorem dX0_fill_88 : decode cX0_fill 88 = .ok (.getfield 9, 3) := by decide +kernel
theorem dX0_fill_91 : decode cX0_fill 91 = .ok (.iload 4, 2) := by decide +kernel
theorem dX0_fill_93 : decode cX0_fill 93 = .ok (.iaload, 1) := by decide +kernel
theorem dX0_fill_94 : decode cX0_fill 94 = .ok (.ifCond .lt 13, 3) := by decide +kernel
theorem dX0_fill_97 : decode cX0_fill 97 = .ok (.aload_n 0, 1) := by decide +kernel
theorem dX0_fill_98 : decode cX0_fill 98 = .ok (.getfield 15, 3) := by decide +kernel
theorem dX0_fill_101 : decode cX0_fill 101 = .ok (.iload 4, 2) := by decide +kernel
theorem dX0_fill_103 : decode cX0_fill 103 = .ok (.iaload, 1) := by decide +kernel
theorem dX0_fill_104 : decode cX0_fill 104 = .ok (.ifCond .ge 5, 3) := by decide +kernel
theorem dX0_fill_107 : decode cX0_fill 107 = .ok (.iconst 0, 1) := by decide +kernel
theorem dX0_fill_108 : decode cX0_fill 108 = .ok (.ireturn, 1) := by decide +kernel
theorem dX0_fill_109 : decode cX0_fill 109 = .ok (.iinc 3 1, 3) := by decide +kernel
theorem dX0_fill_112 : decode cX0_fill 112 = .ok (.goto (-102), 3) := by decide +kernel
theorem dX0_fill_115 : decode cX0_fill 115 = .ok (.iinc 2 1, 3) := by decide +kernel
theorem dX0_fill_118 : decode cX0_fill 118 = .ok (.goto (-116), 3) := by decide +kernel
theorem dX0_fill_121 : decode cX0_fill 121 = .ok (.iconst 1, 1) := by decide +kernel
theorem dX0_fill_122 : decode cX0_fill 122 = .ok (.ireturn, 1) := by decide +kernel
set_option maxRecDepth 20000 in
theorem ggX0_distributes_X6_has : GoodIn wsX0_distributes wsX6_has := goodIn_r _ [5, 6, 7, 8, 9, 26, 27, 28, 29, 30, 31] (by decide +kernel) (by decide +kernel)
set_option maxRecDepth 20000 in
theorem gX0_distributes_X6_has : GoodIn wsX0_distributes (wsV RX0 18 RX6 yX6_has wsX6_has) := goodIn_app (goodIn_of _ (by decide +kernel)) ggX0_distributes_X6_has
set_option maxRecDepth 20000 in
theorem ggX0_distributes_X6_atMost : GoodIn wsX0_distributes wsX6_atMost := goodIn_r _ [13, 14, 15, 2, 3, 4, 5, 6, 7, 8, 9, 26, 27, 28, 29, 30, 31] (by decide +kernel) (by decide +kernel)
set_option maxRecDepth 20000 in
theorem gX0_distributes_X6_atMost : GoodIn wsX0_distributes (wsV RX0 31 RX6 yX6_atMost wsX6_atMost) := goodIn_app (goodIn_of _ (by decide +kernel)) ggX0_distributes_X6_atMost
set_option maxRecDepth 20000 in
theorem ggX0_distributes_X9_isIn : GoodIn wsX0_distributes wsX9_isIn := goodIn_r _ [9] (by decide +kernel) (by decide +kernel)
set_option maxRecDepth 20000 in
theorem gX0_distributes_X9_isIn_n37 : GoodIn wsX0_distributes (wsX9_isIn) := ggX0_distributes_X9_isIn
set_option maxRecDepth 20000 in
theorem ggX0_distributes_X0_distributesAt : GoodIn wsX0_distributes wsX0_distributesAt := goodIn_r _ [20, 21, 22, 1, 2, 3, 4, 5, 6, 7, 8, 9, 23, 24, 19, 25, 32, 33, 26, 27, 28, 29, 30, 31] (by decide +kernel) (by decide +kernel)
set_option maxRecDepth 20000 in
theorem gX0_distributes_X0_distributesAt : GoodIn wsX0_distributes (wsV RX0 41 RX0 yX0_distributesAt wsX0_distributesAt) := goodIn_app (goodIn_of _ (by decide +kernel)) ggX0_distributes_X0_distributesAt
theorem dX0_distributes_0 : decode cX0_distributes 0 = .ok (.iconst 0, 1) := by decide +kernel
theorem dX0_distributes_1 : decode cX0_distributes 1 = .ok (.istore_n 3, 1) := by decide +kernel
theorem dX0_distributes_2 : decode cX0_distributes 2 = .ok (.iload_n 3, 1) := by decide +kernel
theorem dX0_distributes_3 : decode cX0_distributes 3 = .ok (.bipush 9, 2) := by decide +kernel
theorem dX0_distributes_5 : decode cX0_distributes 5 = .ok (.if_icmp .ge 84, 3) := by decide +kernel
theorem dX0_distributes_8 : decode cX0_distributes 8 = .ok (.iconst 0, 1) := by decide +kernel
theorem dX0_distributes_9 : decode cX0_distributes 9 = .ok (.istore 4, 2) := by decide +kernel
theorem dX0_distributes_11 : decode cX0_distributes 11 = .ok (.iload 4, 2) := by decide +kernel
theorem dX0_distributes_13 : decode cX0_distributes 13 = .ok (.bipush 9, 2) := by decide +kernel
theorem dX0_distributes_15 : decode cX0_distributes 15 = .ok (.if_icmp .ge 68, 3) := by decide +kernel
theorem dX0_distributes_18 : decode cX0_distributes 18 = .ok (.aload_n 1, 1) := by decide +kernel
theorem dX0_distributes_19 : decode cX0_distributes 19 = .ok (.iload_n 3, 1) := by decide +kernel
theorem dX0_distributes_20 : decode cX0_distributes 20 = .ok (.invokevirtual 18, 3) := by decide +kernel
theorem dX0_distributes_23 : decode cX0_distributes 23 = .ok (.ifCond .eq 33, 3) := by decide +kernel
theorem dX0_distributes_26 : decode cX0_distributes 26 = .ok (.aload_n 1, 1) := by decide +kernel
theorem dX0_distributes_27 : decode cX0_distributes 27 = .ok (.iload 4, 2) := by decide +kernel
theorem dX0_distributes_29 : decode cX0_distributes 29 = .ok (.invokevirtual 18, 3) := by decide +kernel
theorem dX0_distributes_32 : decode cX0_distributes 32 = .ok (.ifCond .eq 24, 3) := by decide +kernel
theorem dX0_distributes_35 : decode cX0_distributes 35 = .ok (.iload_n 2, 1) := by decide +kernel
theorem dX0_distributes_36 : decode cX0_distributes 36 = .ok (.ifCond .eq 16, 3) := by decide +kernel
theorem dX0_distributes_39 : decode cX0_distributes 39 = .ok (.aload_n 1, 1) := by decide +kernel
theorem dX0_distributes_40 : decode cX0_distributes 40 = .ok (.iload_n 3, 1) := by decide +kernel
theorem dX0_distributes_41 : decode cX0_distributes 41 = .ok (.invokevirtual 31, 3) := by decide +kernel
theorem dX0_distributes_44 : decode cX0_distributes 44 = .ok (.iload 4, 2) := by decide +kernel
theorem dX0_distributes_46 : decode cX0_distributes 46 = .ok (.invokestatic 37, 3) := by decide +kernel
theorem dX0_distributes_49 : decode cX0_distributes 49 = .ok (.ifCond .eq 7, 3) := by decide +kernel
theorem dX0_distributes_52 : decode cX0_distributes 52 = .ok (.iconst 1, 1) := by decide +kernel
theorem dX0_distributes_53 : decode cX0_distributes 53 = .ok (.goto 4, 3) := by decide +kernel
theorem dX0_distributes_56 : decode cX0_distributes 56 = .ok (.iconst 0, 1) := by decide +kernel
theorem dX0_distributes_57 : decode cX0_distributes 57 = .ok (.istore 5, 2) := by decide +kernel
theorem dX0_distributes_59 : decode cX0_distributes 59 = .ok (.iload 5, 2) := by decide +kernel
theorem dX0_distributes_61 : decode cX0_distributes 61 = .ok (.ifCond .eq 16, 3) := by decide +kernel
theorem dX0_distributes_64 : decode cX0_distributes 64 = .ok (.aload_n 0, 1) := by decide +kernel
theorem dX0_distributes_65 : decode cX0_distributes 65 = .ok (.aload_n 1, 1) := by decide +kernel
theorem dX0_distributes_66 : decode cX0_distributes 66 = .ok (.iload_n 3, 1) := by decide +kernel
theorem dX0_distributes_67 : decode cX0_distributes 67 = .ok (.iload 4, 2) := by decide +kernel
theorem dX0_distributes_69 : decode cX0_distributes 69 = .ok (.invokevirtual 41, 3) := by decide +kernel
theorem dX0_distributes_72 : decode cX0_distributes 72 = .ok (.ifCond .ne 5, 3) := by decide +kernel
theorem dX0_distributes_75 : decode cX0_distributes 75 = .ok (.iconst 0, 1) := by decide +kernel
theorem dX0_distributes_76 : decode cX0_distributes 76 = .ok (.ireturn, 1) := by decide +kernel
theorem dX0_distributes_77 : decode cX0_distributes 77 = .ok (.iinc 4 1, 3) := by decide +kernel
theorem dX0_distributes_80 : decode cX0_distributes 80 = .ok (.goto (-69), 3) := by decide +kernel
theorem dX0_distributes_83 : decode cX0_distributes 83 = .ok (.iinc 3 1, 3) := by decide +kernel
theorem dX0_distributes_86 : decode cX0_distributes 86 = .ok (.goto (-84), 3) := by decide +kernel
theorem dX0_distributes_89 : decode cX0_distributes 89 = .ok (.iconst 1, 1) := by decide +kernel
theorem dX0_distributes_90 : decode cX0_distributes 90 = .ok (.ireturn, 1) := by decide +kernel
set_option maxRecDepth 20000 in
theorem ggX0_distributesAt_X6_has : GoodIn wsX0_distributesAt wsX6_has := goodIn_r _ [7, 8, 9, 10, 11, 18, 19, 20, 21, 22, 23] (by decide +kernel) (by decide +kernel)
set_option maxRecDepth 20000 in
theorem gX0_distributesAt_X6_has : GoodIn wsX0_distributesAt (wsV RX0 18 RX6 yX6_has wsX6_has) := goodIn_app (goodIn_of _ (by decide +kernel)) ggX0_distributesAt_X6_has
set_option maxRecDepth 20000 in
theorem ggX0_distributesAt_X0_at : GoodIn wsX0_distributesAt wsX0_at := goodIn_r _ [15] (by decide +kernel) (by decide +kernel)
set_option maxRecDepth 20000 in
theorem gX0_distributesAt_X0_at : GoodIn wsX0_distributesAt (va_wsS RX0 45 yX0_at wsX0_at) := goodIn_app (goodIn_of _ (by decide +kernel)) ggX0_distributesAt_X0_at
theorem dX0_distributesAt_0 : decode cX0_distributesAt 0 = .ok (.iconst 0, 1) := by decide +kernel
theorem dX0_distributesAt_1 : decode cX0_distributesAt 1 = .ok (.istore 4, 2) := by decide +kernel
theorem dX0_distributesAt_3 : decode cX0_distributesAt 3 = .ok (.iload 4, 2) := by decide +kernel
theorem dX0_distributesAt_5 : decode cX0_distributesAt 5 = .ok (.bipush 9, 2) := by decide +kernel
theorem dX0_distributesAt_7 : decode cX0_distributesAt 7 = .ok (.if_icmp .ge 75, 3) := by decide +kernel
theorem dX0_distributesAt_10 : decode cX0_distributesAt 10 = .ok (.aload_n 1, 1) := by decide +kernel
theorem dX0_distributesAt_11 : decode cX0_distributesAt 11 = .ok (.iload 4, 2) := by decide +kernel
theorem dX0_distributesAt_13 : decode cX0_distributesAt 13 = .ok (.invokevirtual 18, 3) := by decide +kernel
theorem dX0_distributesAt_16 : decode cX0_distributesAt 16 = .ok (.ifCond .eq 60, 3) := by decide +kernel
theorem dX0_distributesAt_19 : decode cX0_distributesAt 19 = .ok (.aload_n 0, 1) := by decide +kernel
theorem dX0_distributesAt_20 : decode cX0_distributesAt 20 = .ok (.getfield 15, 3) := by decide +kernel
theorem dX0_distributesAt_23 : decode cX0_distributesAt 23 = .ok (.iload_n 2, 1) := by decide +kernel
theorem dX0_distributesAt_24 : decode cX0_distributesAt 24 = .ok (.aload_n 0, 1) := by decide +kernel
theorem dX0_distributesAt_25 : decode cX0_distributesAt 25 = .ok (.getfield 9, 3) := by decide +kernel
theorem dX0_distributesAt_28 : decode cX0_distributesAt 28 = .ok (.iload 4, 2) := by decide +kernel
theorem dX0_distributesAt_30 : decode cX0_distributesAt 30 = .ok (.iload_n 3, 1) := by decide +kernel
theorem dX0_distributesAt_31 : decode cX0_distributesAt 31 = .ok (.invokestatic 45, 3) := by decide +kernel
theorem dX0_distributesAt_34 : decode cX0_distributesAt 34 = .ok (.invokestatic 45, 3) := by decide +kernel
theorem dX0_distributesAt_37 : decode cX0_distributesAt 37 = .ok (.istore 5, 2) := by decide +kernel
theorem dX0_distributesAt_39 : decode cX0_distributesAt 39 = .ok (.aload_n 0, 1) := by decide +kernel
theorem dX0_distributesAt_40 : decode cX0_distributesAt 40 = .ok (.getfield 9, 3) := by decide +kernel
theorem dX0_distributesAt_43 : decode cX0_distributesAt 43 = .ok (.aload_n 0, 1) := by decide +kernel
theorem dX0_distributesAt_44 : decode cX0_distributesAt 44 = .ok (.getfield 15, 3) := by decide +kernel
theorem dX0_distributesAt_47 : decode cX0_distributesAt 47 = .ok (.iload_n 2, 1) := by decide +kernel
theorem dX0_distributesAt_48 : decode cX0_distributesAt 48 = .ok (.iload 4, 2) := by decide +kernel
theorem dX0_distributesAt_50 : decode cX0_distributesAt 50 = .ok (.invokestatic 45, 3) := by decide +kernel
theorem dX0_distributesAt_53 : decode cX0_distributesAt 53 = .ok (.aload_n 0, 1) := by decide +kernel
theorem dX0_distributesAt_54 : decode cX0_distributesAt 54 = .ok (.getfield 15, 3) := by decide +kernel
theorem dX0_distributesAt_57 : decode cX0_distributesAt 57 = .ok (.iload_n 2, 1) := by decide +kernel
theorem dX0_distributesAt_58 : decode cX0_distributesAt 58 = .ok (.iload_n 3, 1) := by decide +kernel
theorem dX0_distributesAt_59 : decode cX0_distributesAt 59 = .ok (.invokestatic 45, 3) := by decide +kernel
theorem dX0_distributesAt_62 : decode cX0_distributesAt 62 = .ok (.invokestatic 45, 3) := by decide +kernel
theorem dX0_distributesAt_65 : decode cX0_distributesAt 65 = .ok (.istore 6, 2) := by decide +kernel
theorem dX0_distributesAt_67 : decode cX0_distributesAt 67 = .ok (.iload 5, 2) := by decide +kernel
theorem dX0_distributesAt_69 : decode cX0_distributesAt 69 = .ok (.iload 6, 2) := by decide +kernel
theorem dX0_distributesAt_71 : decode cX0_distributesAt 71 = .ok (.if_icmp .eq 5, 3) := by decide +kernel
theorem dX0_distributesAt_74 : decode cX0_distributesAt 74 = .ok (.iconst 0, 1) := by decide +kernel
theorem dX0_distributesAt_75 : decode cX0_distributesAt 75 = .ok (.ireturn, 1) := by decide +kernel
theorem dX0_distributesAt_76 : decode cX0_distributesAt 76 = .ok (.iinc 4 1, 3) := by decide +kernel
theorem dX0_distributesAt_79 : decode cX0_distributesAt 79 = .ok (.goto (-76), 3) := by decide +kernel
theorem dX0_distributesAt_82 : decode cX0_distributesAt 82 = .ok (.iconst 1, 1) := by decide +kernel
theorem dX0_distributesAt_83 : decode cX0_distributesAt 83 = .ok (.ireturn, 1) := by decide +kernel
theorem dX0_at_0 : decode cX0_at 0 = .ok (.iload_n 1, 1) := by decide +kernel
theorem dX0_at_1 : decode cX0_at 1 = .ok (.bipush 9, 2) := by decide +kernel
theorem dX0_at_3 : decode cX0_at 3 = .ok (.imul, 1) := by decide +kernel
theorem dX0_at_4 : decode cX0_at 4 = .ok (.iload_n 2, 1) := by decide +kernel
theorem dX0_at_5 : decode cX0_at 5 = .ok (.iadd, 1) := by decide +kernel
theorem dX0_at_6 : decode cX0_at 6 = .ok (.istore_n 3, 1) := by decide +kernel
theorem dX0_at_7 : decode cX0_at 7 = .ok (.iload_n 1, 1) := by decide +kernel
theorem dX0_at_8 : decode cX0_at 8 = .ok (.ifCond .lt 19, 3) := by decide +kernel
theorem dX0_at_11 : decode cX0_at 11 = .ok (.iload_n 2, 1) := by decide +kernel
theorem dX0_at_12 : decode cX0_at 12 = .ok (.ifCond .lt 15, 3) := by decide +kernel
theorem dX0_at_15 : decode cX0_at 15 = .ok (.iload_n 3, 1) := by decide +kernel
theorem dX0_at_16 : decode cX0_at 16 = .ok (.aload_n 0, 1) := by decide +kernel
theorem dX0_at_17 : decode cX0_at 17 = .ok (.arraylength, 1) := by decide +kernel
theorem dX0_at_18 : decode cX0_at 18 = .ok (.if_icmp .ge 9, 3) := by decide +kernel
theorem dX0_at_21 : decode cX0_at 21 = .ok (.aload_n 0, 1) := by decide +kernel
theorem dX0_at_22 : decode cX0_at 22 = .ok (.iload_n 3, 1) := by decide +kernel
theorem dX0_at_23 : decode cX0_at 23 = .ok (.iaload, 1) := by decide +kernel
theorem dX0_at_24 : decode cX0_at 24 = .ok (.goto 4, 3) := by decide +kernel
theorem dX0_at_27 : decode cX0_at 27 = .ok (.iconst (-1), 1) := by decide +kernel
theorem dX0_at_28 : decode cX0_at 28 = .ok (.ireturn, 1) := by decide +kernel
theorem dX1_init_0 : decode cX1_init 0 = .ok (.aload_n 0, 1) := by decide +kernel
theorem dX1_init_1 : decode cX1_init 1 = .ok (.invokespecial 3, 3) := by decide +kernel
theorem dX1_init_4 : decode cX1_init 4 = .ok (.aload_n 0, 1) := by decide +kernel
theorem dX1_init_5 : decode cX1_init 5 = .ok (.bipush 9, 2) := by decide +kernel
theorem dX1_init_7 : decode cX1_init 7 = .ok (.newarray .int, 2) := by decide +kernel
theorem dX1_init_9 : decode cX1_init 9 = .ok (.putfield 9, 3) := by decide +kernel
theorem dX1_init_12 : decode cX1_init 12 = .ok (.aload_n 0, 1) := by decide +kernel
theorem dX1_init_13 : decode cX1_init 13 = .ok (.bipush 8, 2) := by decide +kernel
theorem dX1_init_15 : decode cX1_init 15 = .ok (.newarray .int, 2) := by decide +kernel
theorem dX1_init_17 : decode cX1_init 17 = .ok (.putfield 15, 3) := by decide +kernel
theorem dX1_init_20 : decode cX1_init 20 = .ok (.return_, 1) := by decide +kernel
set_option maxRecDepth 20000 in
theorem ggX1_take_X6_edgeLabel : GoodIn wsX1_take wsX6_edgeLabel := goodIn_r _ [13, 14, 15, 16, 3, 17, 18, 19, 20, 21, 22, 23, 12, 24, 25, 30, 31, 32, 33, 34, 35] (by decide +kernel) (by decide +kernel)
set_option maxRecDepth 20000 in
theorem gX1_take_X6_edgeLabel : GoodIn wsX1_take (wsV RX1 31 RX6 yX6_edgeLabel wsX6_edgeLabel) := goodIn_app (goodIn_of _ (by decide +kernel)) ggX1_take_X6_edgeLabel
theorem dX1_take_0 : decode cX1_take 0 = .ok (.aload_n 0, 1) := by decide +kernel
theorem dX1_take_1 : decode cX1_take 1 = .ok (.iload_n 3, 1) := by decide +kernel
theorem dX1_take_2 : decode cX1_take 2 = .ok (.bipush 8, 2) := by decide +kernel
theorem dX1_take_4 : decode cX1_take 4 = .ok (.invokestatic 18, 3) := by decide +kernel
theorem dX1_take_7 : decode cX1_take 7 = .ok (.putfield 24, 3) := by decide +kernel
theorem dX1_take_10 : decode cX1_take 10 = .ok (.aload_n 0, 1) := by decide +kernel
theorem dX1_take_11 : decode cX1_take 11 = .ok (.iconst 0, 1) := by decide +kernel
theorem dX1_take_12 : decode cX1_take 12 = .ok (.putfield 28, 3) := by decide +kernel
theorem dX1_take_15 : decode cX1_take 15 = .ok (.iconst 0, 1) := by decide +kernel
theorem dX1_take_16 : decode cX1_take 16 = .ok (.istore 4, 2) := by decide +kernel
theorem dX1_take_18 : decode cX1_take 18 = .ok (.iload 4, 2) := by decide +kernel
theorem dX1_take_20 : decode cX1_take 20 = .ok (.aload_n 0, 1) := by decide +kernel
theorem dX1_take_21 : decode cX1_take 21 = .ok (.getfield 24, 3) := by decide +kernel
theorem dX1_take_24 : decode cX1_take 24 = .ok (.if_icmp .gt 63, 3) := by decide +kernel
theorem dX1_take_27 : decode cX1_take 27 = .ok (.aload_n 0, 1) := by decide +kernel
theorem dX1_take_28 : decode cX1_take 28 = .ok (.getfield 9, 3) := by decide +kernel
theorem dX1_take_31 : decode cX1_take 31 = .ok (.iload 4, 2) := by decide +kernel
theorem dX1_take_33 : decode cX1_take 33 = .ok (.aload_n 2, 1) := by decide +kernel
theorem dX1_take_34 : decode cX1_take 34 = .ok (.iload 4, 2) := by decide +kernel
theorem dX1_take_36 : decode cX1_take 36 = .ok (.iaload, 1) := by decide +kernel
theorem dX1_take_37 : decode cX1_take 37 = .ok (.iastore, 1) := by decide +kernel
theorem dX1_take_38 : decode cX1_take 38 = .ok (.aload_n 0, 1) := by decide +kernel
theorem dX1_take_39 : decode cX1_take 39 = .ok (.dup, 1) := by decide +kernel
theorem dX1_take_40 : decode cX1_take 40 = .ok (.getfield 28, 3) := by decide +kernel
theorem dX1_take_43 : decode cX1_take 43 = .ok (.iconst 1, 1) := by decide +kernel
theorem dX1_take_44 : decode cX1_take 44 = .ok (.aload_n 2, 1) := by decide +kernel
theorem dX1_take_45 : decode cX1_take 45 = .ok (.iload 4, 2) := by decide +kernel
theorem dX1_take_47 : decode cX1_take 47 = .ok (.iaload, 1) := by decide +kernel
theorem dX1_take_48 : decode cX1_take 48 = .ok (.ishl, 1) := by decide +kernel
theorem dX1_take_49 : decode cX1_take 49 = .ok (.ior, 1) := by decide +kernel
theorem dX1_take_50 : decode cX1_take 50 = .ok (.putfield 28, 3) := by decide +kernel
theorem dX1_take_53 : decode cX1_take 53 = .ok (.iload 4, 2) := by decide +kernel
theorem dX1_take_55 : decode cX1_take 55 = .ok (.ifCond .le 26, 3) := by decide +kernel
theorem dX1_take_58 : decode cX1_take 58 = .ok (.aload_n 0, 1) := by decide +kernel
theorem dX1_take_59 : decode cX1_take 59 = .ok (.getfield 15, 3) := by decide +kernel
theorem dX1_take_62 : decode cX1_take 62 = .ok (.iload 4, 2) := by decide +kernel
theorem dX1_take_64 : decode cX1_take 64 = .ok (.iconst 1, 1) := by decide +kernel
theorem dX1_take_65 : decode cX1_take 65 = .ok (.isub, 1) := by decide +kernel
theorem dX1_take_66 : decode cX1_take 66 = .ok (.aload_n 1, 1) := by decide +kernel
theorem dX1_take_67 : decode cX1_take 67 = .ok (.aload_n 2, 1) := by decide +kernel
theorem dX1_take_68 : decode cX1_take 68 = .ok (.iload 4, 2) := by decide +kernel
theorem dX1_take_70 : decode cX1_take 70 = .ok (.iconst 1, 1) := by decide +kernel
theorem dX1_take_71 : decode cX1_take 71 = .ok (.isub, 1) := by decide +kernel
theorem dX1_take_72 : decode cX1_take 72 = .ok (.iaload, 1) := by decide +kernel
theorem dX1_take_73 : decode cX1_take 73 = .ok (.aload_n 2, 1) := by decide +kernel
theorem dX1_take_74 : decode cX1_take 74 = .ok (.iload 4, 2) := by decide +kernel
theorem dX1_take_76 : decode cX1_take 76 = .ok (.iaload, 1) := by decide +kernel
theorem dX1_take_77 : decode cX1_take 77 = .ok (.invokevirtual 31, 3) := by decide +kernel
theorem dX1_take_80 : decode cX1_take 80 = .ok (.iastore, 1) := by decide +kernel
theorem dX1_take_81 : decode cX1_take 81 = .ok (.iinc 4 1, 3) := by decide +kernel
theorem dX1_take_84 : decode cX1_take 84 = .ok (.goto (-66), 3) := by decide +kernel
theorem dX1_take_87 : decode cX1_take 87 = .ok (.return_, 1) := by decide +kernel
theorem dX1_isAheadOf_0 : decode cX1_isAheadOf 0 = .ok (.iconst 0, 1) := by decide +kernel
theorem dX1_isAheadOf_1 : decode cX1_isAheadOf 1 = .ok (.istore_n 2, 1) := by decide +kernel
theorem dX1_isAheadOf_2 : decode cX1_isAheadOf 2 = .ok (.iload_n 2, 1) := by decide +kernel
theorem dX1_isAheadOf_3 : decode cX1_isAheadOf 3 = .ok (.aload_n 0, 1) := by decide +kernel
theorem dX1_isAheadOf_4 : decode cX1_isAheadOf 4 = .ok (.getfield 24, 3) := by decide +kernel
theorem dX1_isAheadOf_7 : decode cX1_isAheadOf 7 = .ok (.if_icmp .ge 53, 3) := by decide +kernel
theorem dX1_isAheadOf_10 : decode cX1_isAheadOf 10 = .ok (.iload_n 2, 1) := by decide +kernel
theorem dX1_isAheadOf_11 : decode cX1_isAheadOf 11 = .ok (.aload_n 1, 1) := by decide +kernel
theorem dX1_isAheadOf_12 : decode cX1_isAheadOf 12 = .ok (.getfield 24, 3) := by decide +kernel
theorem dX1_isAheadOf_15 : decode cX1_isAheadOf 15 = .ok (.if_icmp .ge 45, 3) := by decide +kernel
theorem dX1_isAheadOf_18 : decode cX1_isAheadOf 18 = .ok (.aload_n 0, 1) := by decide +kernel
theorem dX1_isAheadOf_19 : decode cX1_isAheadOf 19 = .ok (.getfield 15, 3) := by decide +kernel
theorem dX1_isAheadOf_22 : decode cX1_isAheadOf 22 = .ok (.iload_n 2, 1) := by decide +kernel
theorem dX1_isAheadOf_23 : decode cX1_isAheadOf 23 = .ok (.iaload, 1) := by decide +kernel
theorem dX1_isAheadOf_24 : decode cX1_isAheadOf 24 = .ok (.aload_n 1, 1) := by decide +kernel
theorem dX1_isAheadOf_25 : decode cX1_isAheadOf 25 = .ok (.getfield 15, 3) := by decide +kernel
theorem dX1_isAheadOf_28 : decode cX1_isAheadOf 28 = .ok (.iload_n 2, 1) := by decide +kernel
theorem dX1_isAheadOf_29 : decode cX1_isAheadOf 29 = .ok (.iaload, 1) := by decide +kernel
theorem dX1_isAheadOf_30 : decode cX1_isAheadOf 30 = .ok (.if_icmp .eq 24, 3) := by decide +kernel
theorem dX1_isAheadOf_33 : decode cX1_isAheadOf 33 = .ok (.aload_n 0, 1) := by decide +kernel
theorem dX1_isAheadOf_34 : decode cX1_isAheadOf 34 = .ok (.getfield 15, 3) := by decide +kernel
theorem dX1_isAheadOf_37 : decode cX1_isAheadOf 37 = .ok (.iload_n 2, 1) := by decide +kernel
theorem dX1_isAheadOf_38 : decode cX1_isAheadOf 38 = .ok (.iaload, 1) := by decide +kernel
theorem dX1_isAheadOf_39 : decode cX1_isAheadOf 39 = .ok (.aload_n 1, 1) := by decide +kernel
theorem dX1_isAheadOf_40 : decode cX1_isAheadOf 40 = .ok (.getfield 15, 3) := by decide +kernel
theorem dX1_isAheadOf_43 : decode cX1_isAheadOf 43 = .ok (.iload_n 2, 1) := by decide +kernel
theorem dX1_isAheadOf_44 : decode cX1_isAheadOf 44 = .ok (.iaload, 1) := by decide +kernel
theorem dX1_isAheadOf_45 : decode cX1_isAheadOf 45 = .ok (.if_icmp .ge 7, 3) := by decide +kernel
theorem dX1_isAheadOf_48 : decode cX1_isAheadOf 48 = .ok (.iconst 1, 1) := by decide +kernel
theorem dX1_isAheadOf_49 : decode cX1_isAheadOf 49 = .ok (.goto 4, 3) := by decide +kernel
theorem dX1_isAheadOf_52 : decode cX1_isAheadOf 52 = .ok (.iconst 0, 1) := by decide +kernel
theorem dX1_isAheadOf_53 : decode cX1_isAheadOf 53 = .ok (.ireturn, 1) := by decide +kernel
theorem dX1_isAheadOf_54 : decode cX1_isAheadOf 54 = .ok (.iinc 2 1, 3) := by decide +kernel
theorem dX1_isAheadOf_57 : decode cX1_isAheadOf 57 = .ok (.goto (-55), 3) := by decide +kernel
theorem dX1_isAheadOf_60 : decode cX1_isAheadOf 60 = .ok (.aload_n 0, 1) := by decide +kernel
theorem dX1_isAheadOf_61 : decode cX1_isAheadOf 61 = .ok (.getfield 24, 3) := by decide +kernel
theorem dX1_isAheadOf_64 : decode cX1_isAheadOf 64 = .ok (.aload_n 1, 1) := by decide +kernel
theorem dX1_isAheadOf_65 : decode cX1_isAheadOf 65 = .ok (.getfield 24, 3) := by decide +kernel
theorem dX1_isAheadOf_68 : decode cX1_isAheadOf 68 = .ok (.if_icmp .ge 7, 3) := by decide +kernel
theorem dX1_isAheadOf_71 : decode cX1_isAheadOf 71 = .ok (.iconst 1, 1) := by decide +kernel
theorem dX1_isAheadOf_72 : decode cX1_isAheadOf 72 = .ok (.goto 4, 3) := by decide +kernel
theorem dX1_isAheadOf_75 : decode cX1_isAheadOf 75 = .ok (.iconst 0, 1) := by decide +kernel
theorem dX1_isAheadOf_76 : decode cX1_isAheadOf 76 = .ok (.ireturn, 1) := by decide +kernel
theorem dX1_fallSet_0 : decode cX1_fallSet 0 = .ok (.iconst 0, 1) := by decide +kernel
theorem dX1_fallSet_1 : decode cX1_fallSet 1 = .ok (.istore_n 1, 1) := by decide +kernel
theorem dX1_fallSet_2 : decode cX1_fallSet 2 = .ok (.iconst 1, 1) := by decide +kernel
theorem dX1_fallSet_3 : decode cX1_fallSet 3 = .ok (.istore_n 2, 1) := by decide +kernel
theorem dX1_fallSet_4 : decode cX1_fallSet 4 = .ok (.iload_n 2, 1) := by decide +kernel
theorem dX1_fallSet_5 : decode cX1_fallSet 5 = .ok (.aload_n 0, 1) := by decide +kernel
theorem dX1_fallSet_6 : decode cX1_fallSet 6 = .ok (.getfield 24, 3) := by decide +kernel
theorem dX1_fallSet_9 : decode cX1_fallSet 9 = .ok (.if_icmp .ge 32, 3) := by decide +kernel
theorem dX1_fallSet_12 : decode cX1_fallSet 12 = .ok (.aload_n 0, 1) := by decide +kernel
theorem dX1_fallSet_13 : decode cX1_fallSet 13 = .ok (.getfield 15, 3) := by decide +kernel
theorem dX1_fallSet_16 : decode cX1_fallSet 16 = .ok (.iload_n 2, 1) := by decide +kernel
theorem dX1_fallSet_17 : decode cX1_fallSet 17 = .ok (.iaload, 1) := by decide +kernel
theorem dX1_fallSet_18 : decode cX1_fallSet 18 = .ok (.aload_n 0, 1) := by decide +kernel
theorem dX1_fallSet_19 : decode cX1_fallSet 19 = .ok (.getfield 15, 3) := by decide +kernel
theorem dX1_fallSet_22 : decode cX1_fallSet 22 = .ok (.iload_n 2, 1) := by decide +kernel
theorem dX1_fallSet_23 : decode cX1_fallSet 23 = .ok (.iconst 1, 1) := by decide +kernel
theorem dX1_fallSet_24 : decode cX1_fallSet 24 = .ok (.isub, 1) := by decide +kernel
theorem dX1_fallSet_25 : decode cX1_fallSet 25 = .ok (.iaload, 1) := by decide +kernel
theorem dX1_fallSet_26 : decode cX1_fallSet 26 = .ok (.if_icmp .ge 9, 3) := by decide +kernel
theorem dX1_fallSet_29 : decode cX1_fallSet 29 = .ok (.iload_n 1, 1) := by decide +kernel
theorem dX1_fallSet_30 : decode cX1_fallSet 30 = .ok (.iconst 1, 1) := by decide +kernel
theorem dX1_fallSet_31 : decode cX1_fallSet 31 = .ok (.iload_n 2, 1) := by decide +kernel
theorem dX1_fallSet_32 : decode cX1_fallSet 32 = .ok (.ishl, 1) := by decide +kernel
theorem dX1_fallSet_33 : decode cX1_fallSet 33 = .ok (.ior, 1) := by decide +kernel
theorem dX1_fallSet_34 : decode cX1_fallSet 34 = .ok (.istore_n 1, 1) := by decide +kernel
theorem dX1_fallSet_35 : decode cX1_fallSet 35 = .ok (.iinc 2 1, 3) := by decide +kernel
theorem dX1_fallSet_38 : decode cX1_fallSet 38 = .ok (.goto (-34), 3) := by decide +kernel
theorem dX1_fallSet_41 : decode cX1_fallSet 41 = .ok (.iload_n 1, 1) := by decide +kernel
theorem dX1_fallSet_42 : decode cX1_fallSet 42 = .ok (.ireturn, 1) := by decide +kernel
set_option maxRecDepth 20000 in
theorem ggX1_isRising_X1_fallSet : GoodIn wsX1_isRising wsX1_fallSet := goodIn_r _ [5, 6, 7, 8, 9, 10, 11] (by decide +kernel) (by decide +kernel)
set_option maxRecDepth 20000 in
theorem gX1_isRising_X1_fallSet : GoodIn wsX1_isRising (wsV RX1 36 RX1 yX1_fallSet wsX1_fallSet) := goodIn_app (goodIn_of _ (by decide +kernel)) ggX1_isRising_X1_fallSet
theorem dX1_isRising_0 : decode cX1_isRising 0 = .ok (.aload_n 0, 1) := by decide +kernel
theorem dX1_isRising_1 : decode cX1_isRising 1 = .ok (.invokevirtual 36, 3) := by decide +kernel
theorem dX1_isRising_4 : decode cX1_isRising 4 = .ok (.ifCond .ne 7, 3) := by decide +kernel
theorem dX1_isRising_7 : decode cX1_isRising 7 = .ok (.iconst 1, 1) := by decide +kernel
theorem dX1_isRising_8 : decode cX1_isRising 8 = .ok (.goto 4, 3) := by decide +kernel
theorem dX1_isRising_11 : decode cX1_isRising 11 = .ok (.iconst 0, 1) := by decide +kernel
theorem dX1_isRising_12 : decode cX1_isRising 12 = .ok (.ireturn, 1) := by decide +kernel
set_option maxRecDepth 20000 in
theorem ggX1_isDescending_X1_fallSet : GoodIn wsX1_isDescending wsX1_fallSet := goodIn_r _ [6, 1, 7, 15, 16, 17, 18] (by decide +kernel) (by decide +kernel)
set_option maxRecDepth 20000 in
theorem gX1_isDescending_X1_fallSet : GoodIn wsX1_isDescending (wsV RX1 36 RX1 yX1_fallSet wsX1_fallSet) := goodIn_app (goodIn_of _ (by decide +kernel)) ggX1_isDescending_X1_fallSet
set_option maxRecDepth 20000 in
theorem ggX1_isDescending_J6_bitCount_0f7a4 : GoodIn wsX1_isDescending wsJ6_bitCount_0f7a4 := goodIn_r _ [11, 12, 13, 14] (by decide +kernel) (by decide +kernel)
set_option maxRecDepth 20000 in
theorem gX1_isDescending_J6_bitCount_0f7a4 : GoodIn wsX1_isDescending (va_wsS RX1 40 yJ6_bitCount_0f7a4 wsJ6_bitCount_0f7a4) := goodIn_app (goodIn_of _ (by decide +kernel)) ggX1_isDescending_J6_bitCount_0f7a4
theorem dX1_isDescending_0 : decode cX1_isDescending 0 = .ok (.aload_n 0, 1) := by decide +kernel
theorem dX1_isDescending_1 : decode cX1_isDescending 1 = .ok (.getfield 24, 3) := by decide +kernel
theorem dX1_isDescending_4 : decode cX1_isDescending 4 = .ok (.iconst 2, 1) := by decide +kernel
theorem dX1_isDescending_5 : decode cX1_isDescending 5 = .ok (.if_icmp .lt 19, 3) := by decide +kernel
theorem dX1_isDescending_8 : decode cX1_isDescending 8 = .ok (.aload_n 0, 1) := by decide +kernel
theorem dX1_isDescending_9 : decode cX1_isDescending 9 = .ok (.invokevirtual 36, 3) := by decide +kernel
theorem dX1_isDescending_12 : decode cX1_isDescending 12 = .ok (.invokestatic 40, 3) := by decide +kernel
theorem dX1_isDescending_15 : decode cX1_isDescending 15 = .ok (.aload_n 0, 1) := by decide +kernel
theorem dX1_isDescending_16 : decode cX1_isDescending 16 = .ok (.getfield 24, 3) := by decide +kernel
theorem dX1_isDescending_19 : decode cX1_isDescending 19 = .ok (.iconst 1, 1) := by decide +kernel
theorem dX1_isDescending_20 : decode cX1_isDescending 20 = .ok (.isub, 1) := by decide +kernel
theorem dX1_isDescending_21 : decode cX1_isDescending 21 = .ok (.if_icmp .ne 7, 3) := by decide +kernel
theorem dX1_isDescending_24 : decode cX1_isDescending 24 = .ok (.iconst 1, 1) := by decide +kernel
theorem dX1_isDescending_25 : decode cX1_isDescending 25 = .ok (.goto 4, 3) := by decide +kernel
theorem dX1_isDescending_28 : decode cX1_isDescending 28 = .ok (.iconst 0, 1) := by decide +kernel
theorem dX1_isDescending_29 : decode cX1_isDescending 29 = .ok (.ireturn, 1) := by decide +kernel
set_option maxRecDepth 20000 in
theorem ggX2_init_X1_init : GoodIn wsX2_init wsX1_init := goodIn_r _ [11, 12, 2, 3, 6, 13, 14, 18, 19, 20, 21] (by decide +kernel) (by decide +kernel)
set_option maxRecDepth 20000 in
theorem gX2_init_X1_init_n21 : GoodIn wsX2_init (wsX1_init) := ggX2_init_X1_init
theorem dX2_init_0 : decode cX2_init 0 = .ok (.aload_n 0, 1) := by decide +kernel
theorem dX2_init_1 : decode cX2_init 1 = .ok (.invokespecial 3, 3) := by decide +kernel
theorem dX2_init_4 : decode cX2_init 4 = .ok (.aload_n 0, 1) := by decide +kernel
theorem dX2_init_5 : decode cX2_init 5 = .ok (.bipush 12, 2) := by decide +kernel
theorem dX2_init_7 : decode cX2_init 7 = .ok (.anewarray 9, 3) := by decide +kernel
theorem dX2_init_10 : decode cX2_init 10 = .ok (.putfield 11, 3) := by decide +kernel
theorem dX2_init_13 : decode cX2_init 13 = .ok (.aload_n 0, 1) := by decide +kernel
theorem dX2_init_14 : decode cX2_init 14 = .ok (.bipush 9, 2) := by decide +kernel
theorem dX2_init_16 : decode cX2_init 16 = .ok (.newarray .int, 2) := by decide +kernel
theorem dX2_init_18 : decode cX2_init 18 = .ok (.putfield 17, 3) := by decide +kernel
theorem dX2_init_21 : decode cX2_init 21 = .ok (.iconst 0, 1) := by decide +kernel
theorem dX2_init_22 : decode cX2_init 22 = .ok (.istore_n 1, 1) := by decide +kernel
theorem dX2_init_23 : decode cX2_init 23 = .ok (.iload_n 1, 1) := by decide +kernel
theorem dX2_init_24 : decode cX2_init 24 = .ok (.bipush 12, 2) := by decide +kernel
theorem dX2_init_26 : decode cX2_init 26 = .ok (.if_icmp .ge 22, 3) := by decide +kernel
theorem dX2_init_29 : decode cX2_init 29 = .ok (.aload_n 0, 1) := by decide +kernel
theorem dX2_init_30 : decode cX2_init 30 = .ok (.getfield 11, 3) := by decide +kernel
theorem dX2_init_33 : decode cX2_init 33 = .ok (.iload_n 1, 1) := by decide +kernel
theorem dX2_init_34 : decode cX2_init 34 = .ok (.new 9, 3) := by decide +kernel
theorem dX2_init_37 : decode cX2_init 37 = .ok (.dup, 1) := by decide +kernel
theorem dX2_init_38 : decode cX2_init 38 = .ok (.invokespecial 21, 3) := by decide +kernel
theorem dX2_init_41 : decode cX2_init 41 = .ok (.aastore, 1) := by decide +kernel
theorem dX2_init_42 : decode cX2_init 42 = .ok (.iinc 1 1, 3) := by decide +kernel
theorem dX2_init_45 : decode cX2_init 45 = .ok (.goto (-22), 3) := by decide +kernel
theorem dX2_init_48 : decode cX2_init 48 = .ok (.return_, 1) := by decide +kernel
theorem dX2_hasChain_0 : decode cX2_hasChain 0 = .ok (.iload_n 1, 1) := by decide +kernel
theorem dX2_hasChain_1 : decode cX2_hasChain 1 = .ok (.ifCond .lt 15, 3) := by decide +kernel
theorem dX2_hasChain_4 : decode cX2_hasChain 4 = .ok (.iload_n 1, 1) := by decide +kernel
theorem dX2_hasChain_5 : decode cX2_hasChain 5 = .ok (.aload_n 0, 1) := by decide +kernel
theorem dX2_hasChain_6 : decode cX2_hasChain 6 = .ok (.getfield 22, 3) := by decide +kernel
theorem dX2_hasChain_9 : decode cX2_hasChain 9 = .ok (.if_icmp .ge 7, 3) := by decide +kernel
theorem dX2_hasChain_12 : decode cX2_hasChain 12 = .ok (.iconst 1, 1) := by decide +kernel
theorem dX2_hasChain_13 : decode cX2_hasChain 13 = .ok (.goto 4, 3) := by decide +kernel
theorem dX2_hasChain_16 : decode cX2_hasChain 16 = .ok (.iconst 0, 1) := by decide +kernel
theorem dX2_hasChain_17 : decode cX2_hasChain 17 = .ok (.ireturn, 1) := by decide +kernel
set_option maxRecDepth 20000 in
theorem ggX2_fill_X2_grow : GoodIn wsX2_fill wsX2_grow := goodIn_r _ [7, 2, 8, 9, 10, 6, 11, 1, 12, 13, 14, 15, 16, 17, 18, 19, 20, 21, 22, 23, 24, 25, 26, 27, 28, 29, 30, 31, 32, 33, 34, 35, 36, 37, 38, 39, 40, 41, 42, 43, 44, 45, 46, 47, 48, 49, 50, 51, 52, 53, 54, 55, 56, 57, 58, 59, 60, 61, 62, 63, 64, 65, 66, 67, 3, 4, 5, 68, 69, 70, 71, 72, 73, 74, 75, 76, 77, 78, 79, 80] (by decide +kernel) (by decide +kernel)
set_option maxRecDepth 20000 in
theorem gX2_fill_X2_grow : GoodIn wsX2_fill (wsV RX2 26 RX2 yX2_grow wsX2_grow) := goodIn_app (goodIn_of _ (by decide +kernel)) ggX2_fill_X2_grow
theorem dX2_fill_0 : decode cX2_fill 0 = .ok (.aload_n 0, 1) := by decide +kernel
theorem dX2_fill_1 : decode cX2_fill 1 = .ok (.iconst 0, 1) := by decide +kernel
theorem dX2_fill_2 : decode cX2_fill 2 = .ok (.putfield 22, 3) := by decide +kernel
theorem dX2_fill_5 : decode cX2_fill 5 = .ok (.aload_n 0, 1) := by decide +kernel
theorem dX2_fill_6 : decode cX2_fill 6 = .ok (.getfield 17, 3) := by decide +kernel
theorem dX2_fill_9 : decode cX2_fill 9 = .ok (.iconst 0, 1) := by decide +kernel
theorem dX2_fill_10 : decode cX2_fill 10 = .ok (.iload_n 2, 1) := by decide +kernel
theorem dX2_fill_11 : decode cX2_fill 11 = .ok (.iastore, 1) := by decide +kernel
theorem dX2_fill_12 : decode cX2_fill 12 = .ok (.aload_n 0, 1) := by decide +kernel
theorem dX2_fill_13 : decode cX2_fill 13 = .ok (.aload_n 1, 1) := by decide +kernel
theorem dX2_fill_14 : decode cX2_fill 14 = .ok (.iload_n 3, 1) := by decide +kernel
theorem dX2_fill_15 : decode cX2_fill 15 = .ok (.iconst 0, 1) := by decide +kernel
theorem dX2_fill_16 : decode cX2_fill 16 = .ok (.invokevirtual 26, 3) := by decide +kernel
theorem dX2_fill_19 : decode cX2_fill 19 = .ok (.return_, 1) := by decide +kernel
set_option maxRecDepth 20000 in
theorem ggX2_grow_X2_insert : GoodIn wsX2_grow wsX2_insert := goodIn_r _ [6, 7, 8, 1, 9, 10, 11, 12, 13, 14, 15, 16, 17, 18, 19, 20, 21, 22, 23, 24, 25, 26, 27, 28, 29, 30, 31, 32, 33, 34, 35, 36, 37, 38, 39, 40, 41, 42, 67, 68, 69, 70, 71, 72, 73, 74, 75, 76, 77, 78, 79] (by decide +kernel) (by decide +kernel)
set_option maxRecDepth 20000 in
theorem gX2_grow_X2_insert : GoodIn wsX2_grow (wsV RX2 30 RX2 yX2_insert wsX2_insert) := goodIn_app (goodIn_of _ (by decide +kernel)) ggX2_grow_X2_insert
set_option maxRecDepth 20000 in
theorem ggX2_grow_X6_atMost : GoodIn wsX2_grow wsX6_atMost := goodIn_r _ [46, 47, 48, 49, 50, 25, 51, 52, 53, 54, 55, 74, 75, 76, 77, 78, 79] (by decide +kernel) (by decide +kernel)
set_option maxRecDepth 20000 in
theorem gX2_grow_X6_atMost : GoodIn wsX2_grow (wsV RX2 34 RX6 yX6_atMost wsX6_atMost) := goodIn_app (goodIn_of _ (by decide +kernel)) ggX2_grow_X6_atMost
set_option maxRecDepth 20000 in
theorem ggX2_grow_X6_coverers : GoodIn wsX2_grow wsX6_coverers := goodIn_r _ [59, 60, 47, 48, 49, 50, 25, 51, 52, 53, 54, 55, 61, 62, 63, 74, 75, 76, 77, 78, 79] (by decide +kernel) (by decide +kernel)
set_option maxRecDepth 20000 in
theorem gX2_grow_X6_coverers : GoodIn wsX2_grow (wsV RX2 40 RX6 yX6_coverers wsX6_coverers) := goodIn_app (goodIn_of _ (by decide +kernel)) ggX2_grow_X6_coverers
set_option maxRecDepth 20000 in
theorem ggX2_grow_X9_isIn : GoodIn wsX2_grow wsX9_isIn := goodIn_r _ [55] (by decide +kernel) (by decide +kernel)
set_option maxRecDepth 20000 in
theorem gX2_grow_X9_isIn_n44 : GoodIn wsX2_grow (wsX9_isIn) := ggX2_grow_X9_isIn
set_option maxRecDepth 20000 in
theorem ggX2_grow_X2_grow : GoodIn wsX2_grow wsX2_grow := goodIn_r _ [0, 1, 2, 3, 4, 5, 6, 7, 8, 9, 10, 11, 12, 13, 14, 15, 16, 17, 18, 19, 20, 21, 22, 23, 24, 25, 26, 27, 28, 29, 30, 31, 32, 33, 34, 35, 36, 37, 38, 39, 40, 41, 42, 43, 44, 45, 46, 47, 48, 49, 50, 51, 52, 53, 54, 55, 56, 57, 58, 59, 60, 61, 62, 63, 64, 65, 66, 67, 68, 69, 70, 71, 72, 73, 74, 75, 76, 77, 78, 79] (by decide +kernel) (by decide +kernel)
set_option maxRecDepth 20000 in
theorem gX2_grow_X2_grow : GoodIn wsX2_grow (wsV RX2 26 RX2 yX2_grow wsX2_grow) := goodIn_app (goodIn_of _ (by decide +kernel)) ggX2_grow_X2_grow
theorem dX2_grow_0 : decode cX2_grow 0 = .ok (.aload_n 0, 1) := by decide +kernel
theorem dX2_grow_1 : decode cX2_grow 1 = .ok (.getfield 17, 3) := by decide +kernel
theorem dX2_grow_4 : decode cX2_grow 4 = .ok (.iload_n 3, 1) := by decide +kernel
theorem dX2_grow_5 : decode cX2_grow 5 = .ok (.iaload, 1) := by decide +kernel
theorem dX2_grow_6 : decode cX2_grow 6 = .ok (.iload_n 2, 1) := by decide +kernel
theorem dX2_grow_7 : decode cX2_grow 7 = .ok (.if_icmp .ne 10, 3) := by decide +kernel
theorem dX2_grow_10 : decode cX2_grow 10 = .ok (.aload_n 0, 1) := by decide +kernel
theorem dX2_grow_11 : decode cX2_grow 11 = .ok (.aload_n 1, 1) := by decide +kernel
theorem dX2_grow_12 : decode cX2_grow 12 = .ok (.iload_n 3, 1) := by decide +kernel
theorem dX2_grow_13 : decode cX2_grow 13 = .ok (.invokevirtual 30, 3) := by decide +kernel
theorem dX2_grow_16 : decode cX2_grow 16 = .ok (.return_, 1) := by decide +kernel
theorem dX2_grow_17 : decode cX2_grow 17 = .ok (.iload_n 3, 1) := by decide +kernel
theorem dX2_grow_18 : decode cX2_grow 18 = .ok (.iconst 1, 1) := by decide +kernel
theorem dX2_grow_19 : decode cX2_grow 19 = .ok (.iadd, 1) := by decide +kernel
theorem dX2_grow_20 : decode cX2_grow 20 = .ok (.bipush 9, 2) := by decide +kernel
theorem dX2_grow_22 : decode cX2_grow 22 = .ok (.if_icmp .lt 4, 3) := by decide +kernel
theorem dX2_grow_25 : decode cX2_grow 25 = .ok (.return_, 1) := by decide +kernel
theorem dX2_grow_26 : decode cX2_grow 26 = .ok (.aload_n 1, 1) := by decide +kernel
theorem dX2_grow_27 : decode cX2_grow 27 = .ok (.aload_n 0, 1) := by decide +kernel
theorem dX2_grow_28 : decode cX2_grow 28 = .ok (.getfield 17, 3) := by decide +kernel
theorem dX2_grow_31 : decode cX2_grow 31 = .ok (.iload_n 3, 1) := by decide +kernel
theorem dX2_grow_32 : decode cX2_grow 32 = .ok (.iaload, 1) := by decide +kernel
theorem dX2_grow_33 : decode cX2_grow 33 = .ok (.aload_n 1, 1) := by decide +kernel
theorem dX2_grow_34 : decode cX2_grow 34 = .ok (.iload_n 2, 1) := by decide +kernel
theorem dX2_grow_35 : decode cX2_grow 35 = .ok (.invokevirtual 34, 3) := by decide +kernel
theorem dX2_grow_38 : decode cX2_grow 38 = .ok (.invokevirtual 40, 3) := by decide +kernel
theorem dX2_grow_41 : decode cX2_grow 41 = .ok (.istore 4, 2) := by decide +kernel
theorem dX2_grow_43 : decode cX2_grow 43 = .ok (.iconst 0, 1) := by decide +kernel
theorem dX2_grow_44 : decode cX2_grow 44 = .ok (.istore 5, 2) := by decide +kernel
theorem dX2_grow_46 : decode cX2_grow 46 = .ok (.iload 5, 2) := by decide +kernel
theorem dX2_grow_48 : decode cX2_grow 48 = .ok (.bipush 9, 2) := by decide +kernel
theorem dX2_grow_50 : decode cX2_grow 50 = .ok (.if_icmp .ge 38, 3) := by decide +kernel
theorem dX2_grow_53 : decode cX2_grow 53 = .ok (.iload 4, 2) := by decide +kernel
theorem dX2_grow_55 : decode cX2_grow 55 = .ok (.iload 5, 2) := by decide +kernel
theorem dX2_grow_57 : decode cX2_grow 57 = .ok (.invokestatic 44, 3) := by decide +kernel
theorem dX2_grow_60 : decode cX2_grow 60 = .ok (.ifCond .eq 22, 3) := by decide +kernel
theorem dX2_grow_63 : decode cX2_grow 63 = .ok (.aload_n 0, 1) := by decide +kernel
theorem dX2_grow_64 : decode cX2_grow 64 = .ok (.getfield 17, 3) := by decide +kernel
theorem dX2_grow_67 : decode cX2_grow 67 = .ok (.iload_n 3, 1) := by decide +kernel
theorem dX2_grow_68 : decode cX2_grow 68 = .ok (.iconst 1, 1) := by decide +kernel
theorem dX2_grow_69 : decode cX2_grow 69 = .ok (.iadd, 1) := by decide +kernel
theorem dX2_grow_70 : decode cX2_grow 70 = .ok (.iload 5, 2) := by decide +kernel
theorem dX2_grow_72 : decode cX2_grow 72 = .ok (.iastore, 1) := by decide +kernel
theorem dX2_grow_73 : decode cX2_grow 73 = .ok (.aload_n 0, 1) := by decide +kernel
theorem dX2_grow_74 : decode cX2_grow 74 = .ok (.aload_n 1, 1) := by decide +kernel
theorem dX2_grow_75 : decode cX2_grow 75 = .ok (.iload_n 2, 1) := by decide +kernel
theorem dX2_grow_76 : decode cX2_grow 76 = .ok (.iload_n 3, 1) := by decide +kernel
theorem dX2_grow_77 : decode cX2_grow 77 = .ok (.iconst 1, 1) := by decide +kernel
theorem dX2_grow_78 : decode cX2_grow 78 = .ok (.iadd, 1) := by decide +kernel
theorem dX2_grow_79 : decode cX2_grow 79 = .ok (.invokevirtual 26, 3) := by decide +kernel
theorem dX2_grow_82 : decode cX2_grow 82 = .ok (.iinc 5 1, 3) := by decide +kernel
theorem dX2_grow_85 : decode cX2_grow 85 = .ok (.goto (-39), 3) := by decide +kernel
theorem dX2_grow_88 : decode cX2_grow 88 = .ok (.return_, 1) := by decide +kernel
set_option maxRecDepth 20000 in
theorem ggX2_insert_X1_take : GoodIn wsX2_insert wsX1_take := goodIn_r _ [8, 9, 10, 11, 12, 13, 14, 15, 16, 17, 18, 19, 20, 21, 22, 23, 24, 25, 26, 27, 28, 29, 30, 31, 32, 33, 41, 42, 43, 44, 45, 46, 47, 48, 49, 50] (by decide +kernel) (by decide +kernel)
set_option maxRecDepth 20000 in
theorem gX2_insert_X1_take : GoodIn wsX2_insert (wsV RX2 48 RX1 yX1_take wsX1_take) := goodIn_app (goodIn_of _ (by decide +kernel)) ggX2_insert_X1_take
set_option maxRecDepth 20000 in
theorem ggX2_insert_X1_isAheadOf : GoodIn wsX2_insert wsX1_isAheadOf := goodIn_r _ [37, 13, 16, 41, 42, 43, 44] (by decide +kernel) (by decide +kernel)
set_option maxRecDepth 20000 in
theorem gX2_insert_X1_isAheadOf : GoodIn wsX2_insert (wsV RX2 52 RX1 yX1_isAheadOf wsX1_isAheadOf) := goodIn_app (goodIn_of _ (by decide +kernel)) ggX2_insert_X1_isAheadOf
theorem dX2_insert_0 : decode cX2_insert 0 = .ok (.aload_n 0, 1) := by decide +kernel
theorem dX2_insert_1 : decode cX2_insert 1 = .ok (.getfield 22, 3) := by decide +kernel
theorem dX2_insert_4 : decode cX2_insert 4 = .ok (.bipush 12, 2) := by decide +kernel
theorem dX2_insert_6 : decode cX2_insert 6 = .ok (.if_icmp .lt 4, 3) := by decide +kernel
theorem dX2_insert_9 : decode cX2_insert 9 = .ok (.return_, 1) := by decide +kernel
theorem dX2_insert_10 : decode cX2_insert 10 = .ok (.aload_n 0, 1) := by decide +kernel
theorem dX2_insert_11 : decode cX2_insert 11 = .ok (.getfield 11, 3) := by decide +kernel
theorem dX2_insert_14 : decode cX2_insert 14 = .ok (.aload_n 0, 1) := by decide +kernel
theorem dX2_insert_15 : decode cX2_insert 15 = .ok (.getfield 22, 3) := by decide +kernel
theorem dX2_insert_18 : decode cX2_insert 18 = .ok (.aaload, 1) := by decide +kernel
theorem dX2_insert_19 : decode cX2_insert 19 = .ok (.astore_n 3, 1) := by decide +kernel
theorem dX2_insert_20 : decode cX2_insert 20 = .ok (.aload_n 3, 1) := by decide +kernel
theorem dX2_insert_21 : decode cX2_insert 21 = .ok (.aload_n 1, 1) := by decide +kernel
theorem dX2_insert_22 : decode cX2_insert 22 = .ok (.aload_n 0, 1) := by decide +kernel
theorem dX2_insert_23 : decode cX2_insert 23 = .ok (.getfield 17, 3) := by decide +kernel
theorem dX2_insert_26 : decode cX2_insert 26 = .ok (.iload_n 2, 1) := by decide +kernel
theorem dX2_insert_27 : decode cX2_insert 27 = .ok (.invokevirtual 48, 3) := by decide +kernel
theorem dX2_insert_30 : decode cX2_insert 30 = .ok (.aload_n 0, 1) := by decide +kernel
theorem dX2_insert_31 : decode cX2_insert 31 = .ok (.getfield 22, 3) := by decide +kernel
theorem dX2_insert_34 : decode cX2_insert 34 = .ok (.istore 4, 2) := by decide +kernel
theorem dX2_insert_36 : decode cX2_insert 36 = .ok (.iload 4, 2) := by decide +kernel
theorem dX2_insert_38 : decode cX2_insert 38 = .ok (.ifCond .le 41, 3) := by decide +kernel
theorem dX2_insert_41 : decode cX2_insert 41 = .ok (.aload_n 3, 1) := by decide +kernel
theorem dX2_insert_42 : decode cX2_insert 42 = .ok (.aload_n 0, 1) := by decide +kernel
theorem dX2_insert_43 : decode cX2_insert 43 = .ok (.getfield 11, 3) := by decide +kernel
theorem dX2_insert_46 : decode cX2_insert 46 = .ok (.iload 4, 2) := by decide +kernel
theorem dX2_insert_48 : decode cX2_insert 48 = .ok (.iconst 1, 1) := by decide +kernel
theorem dX2_insert_49 : decode cX2_insert 49 = .ok (.isub, 1) := by decide +kernel
theorem dX2_insert_50 : decode cX2_insert 50 = .ok (.aaload, 1) := by decide +kernel
theorem dX2_insert_51 : decode cX2_insert 51 = .ok (.invokevirtual 52, 3) := by decide +kernel
theorem dX2_insert_54 : decode cX2_insert 54 = .ok (.ifCond .eq 25, 3) := by decide +kernel
theorem dX2_insert_57 : decode cX2_insert 57 = .ok (.aload_n 0, 1) := by decide +kernel
theorem dX2_insert_58 : decode cX2_insert 58 = .ok (.getfield 11, 3) := by decide +kernel
theorem dX2_insert_61 : decode cX2_insert 61 = .ok (.iload 4, 2) := by decide +kernel
theorem dX2_insert_63 : decode cX2_insert 63 = .ok (.aload_n 0, 1) := by decide +kernel
theorem dX2_insert_64 : decode cX2_insert 64 = .ok (.getfield 11, 3) := by decide +kernel
theorem dX2_insert_67 : decode cX2_insert 67 = .ok (.iload 4, 2) := by decide +kernel
theorem dX2_insert_69 : decode cX2_insert 69 = .ok (.iconst 1, 1) := by decide +kernel
theorem dX2_insert_70 : decode cX2_insert 70 = .ok (.isub, 1) := by decide +kernel
theorem dX2_insert_71 : decode cX2_insert 71 = .ok (.aaload, 1) := by decide +kernel
theorem dX2_insert_72 : decode cX2_insert 72 = .ok (.aastore, 1) := by decide +kernel
theorem dX2_insert_73 : decode cX2_insert 73 = .ok (.iinc 4 (-1), 3) := by decide +kernel
theorem dX2_insert_76 : decode cX2_insert 76 = .ok (.goto (-40), 3) := by decide +kernel
theorem dX2_insert_79 : decode cX2_insert 79 = .ok (.aload_n 0, 1) := by decide +kernel
theorem dX2_insert_80 : decode cX2_insert 80 = .ok (.getfield 11, 3) := by decide +kernel
theorem dX2_insert_83 : decode cX2_insert 83 = .ok (.iload 4, 2) := by decide +kernel
theorem dX2_insert_85 : decode cX2_insert 85 = .ok (.aload_n 3, 1) := by decide +kernel
theorem dX2_insert_86 : decode cX2_insert 86 = .ok (.aastore, 1) := by decide +kernel
theorem dX2_insert_87 : decode cX2_insert 87 = .ok (.aload_n 0, 1) := by decide +kernel
theorem dX2_insert_88 : decode cX2_insert 88 = .ok (.dup, 1) := by decide +kernel
theorem dX2_insert_89 : decode cX2_insert 89 = .ok (.getfield 22, 3) := by decide +kernel
theorem dX2_insert_92 : decode cX2_insert 92 = .ok (.iconst 1, 1) := by decide +kernel
theorem dX2_insert_93 : decode cX2_insert 93 = .ok (.iadd, 1) := by decide +kernel
theorem dX2_insert_94 : decode cX2_insert 94 = .ok (.putfield 22, 3) := by decide +kernel
theorem dX2_insert_97 : decode cX2_insert 97 = .ok (.return_, 1) := by decide +kernel
set_option maxRecDepth 20000 in
theorem ggX2_rising_X2_withFalls : GoodIn wsX2_rising wsX2_withFalls := goodIn_r _ [5, 6, 7, 8, 9, 10, 11, 12, 13, 14, 15, 16, 17, 18, 19, 20, 21] (by decide +kernel) (by decide +kernel)
set_option maxRecDepth 20000 in
theorem gX2_rising_X2_withFalls : GoodIn wsX2_rising (wsV RX2 56 RX2 yX2_withFalls wsX2_withFalls) := goodIn_app (goodIn_of _ (by decide +kernel)) ggX2_rising_X2_withFalls
theorem dX2_rising_0 : decode cX2_rising 0 = .ok (.aload_n 0, 1) := by decide +kernel
theorem dX2_rising_1 : decode cX2_rising 1 = .ok (.iconst 0, 1) := by decide +kernel
theorem dX2_rising_2 : decode cX2_rising 2 = .ok (.invokevirtual 56, 3) := by decide +kernel
theorem dX2_rising_5 : decode cX2_rising 5 = .ok (.ireturn, 1) := by decide +kernel
set_option maxRecDepth 20000 in
theorem ggX2_isLexed_X2_rising : GoodIn wsX2_isLexed wsX2_rising := goodIn_r _ [6, 7, 8, 9, 5, 10, 11, 1, 12, 13, 14, 15, 16, 17, 18, 24, 25, 26, 27, 28, 29, 30] (by decide +kernel) (by decide +kernel)
set_option maxRecDepth 20000 in
theorem gX2_isLexed_X2_rising : GoodIn wsX2_isLexed (wsV RX2 59 RX2 yX2_rising wsX2_rising) := goodIn_app (goodIn_of _ (by decide +kernel)) ggX2_isLexed_X2_rising
set_option maxRecDepth 20000 in
theorem ggX2_isLexed_X1_isRising : GoodIn wsX2_isLexed wsX1_isRising := goodIn_r _ [22, 23, 13, 14, 15, 16, 17, 18, 27, 28, 29, 30] (by decide +kernel) (by decide +kernel)
set_option maxRecDepth 20000 in
theorem gX2_isLexed_X1_isRising : GoodIn wsX2_isLexed (wsV RX2 63 RX1 yX1_isRising wsX1_isRising) := goodIn_app (goodIn_of _ (by decide +kernel)) ggX2_isLexed_X1_isRising
theorem dX2_isLexed_0 : decode cX2_isLexed 0 = .ok (.aload_n 0, 1) := by decide +kernel
theorem dX2_isLexed_1 : decode cX2_isLexed 1 = .ok (.invokevirtual 59, 3) := by decide +kernel
theorem dX2_isLexed_4 : decode cX2_isLexed 4 = .ok (.iconst 1, 1) := by decide +kernel
theorem dX2_isLexed_5 : decode cX2_isLexed 5 = .ok (.if_icmp .ne 19, 3) := by decide +kernel
theorem dX2_isLexed_8 : decode cX2_isLexed 8 = .ok (.aload_n 0, 1) := by decide +kernel
theorem dX2_isLexed_9 : decode cX2_isLexed 9 = .ok (.getfield 11, 3) := by decide +kernel
theorem dX2_isLexed_12 : decode cX2_isLexed 12 = .ok (.iconst 0, 1) := by decide +kernel
theorem dX2_isLexed_13 : decode cX2_isLexed 13 = .ok (.aaload, 1) := by decide +kernel
theorem dX2_isLexed_14 : decode cX2_isLexed 14 = .ok (.invokevirtual 63, 3) := by decide +kernel
theorem dX2_isLexed_17 : decode cX2_isLexed 17 = .ok (.ifCond .eq 7, 3) := by decide +kernel
theorem dX2_isLexed_20 : decode cX2_isLexed 20 = .ok (.iconst 1, 1) := by decide +kernel
theorem dX2_isLexed_21 : decode cX2_isLexed 21 = .ok (.goto 4, 3) := by decide +kernel
theorem dX2_isLexed_24 : decode cX2_isLexed 24 = .ok (.iconst 0, 1) := by decide +kernel
theorem dX2_isLexed_25 : decode cX2_isLexed 25 = .ok (.ireturn, 1) := by decide +kernel
set_option maxRecDepth 20000 in
theorem ggX2_descending_X1_isDescending : GoodIn wsX2_descending wsX1_isDescending := goodIn_r _ [7, 8, 9, 10, 11, 6, 12, 13, 14, 15, 16, 17, 18, 19, 20, 24, 25, 26, 27] (by decide +kernel) (by decide +kernel)
set_option maxRecDepth 20000 in
theorem gX2_descending_X1_isDescending : GoodIn wsX2_descending (wsV RX2 67 RX1 yX1_isDescending wsX1_isDescending) := goodIn_app (goodIn_of _ (by decide +kernel)) ggX2_descending_X1_isDescending
theorem dX2_descending_0 : decode cX2_descending 0 = .ok (.iconst 0, 1) := by decide +kernel
theorem dX2_descending_1 : decode cX2_descending 1 = .ok (.istore_n 1, 1) := by decide +kernel
theorem dX2_descending_2 : decode cX2_descending 2 = .ok (.iconst 0, 1) := by decide +kernel
theorem dX2_descending_3 : decode cX2_descending 3 = .ok (.istore_n 2, 1) := by decide +kernel
theorem dX2_descending_4 : decode cX2_descending 4 = .ok (.iload_n 2, 1) := by decide +kernel
theorem dX2_descending_5 : decode cX2_descending 5 = .ok (.aload_n 0, 1) := by decide +kernel
theorem dX2_descending_6 : decode cX2_descending 6 = .ok (.getfield 22, 3) := by decide +kernel
theorem dX2_descending_9 : decode cX2_descending 9 = .ok (.if_icmp .ge 24, 3) := by decide +kernel
theorem dX2_descending_12 : decode cX2_descending 12 = .ok (.aload_n 0, 1) := by decide +kernel
theorem dX2_descending_13 : decode cX2_descending 13 = .ok (.getfield 11, 3) := by decide +kernel
theorem dX2_descending_16 : decode cX2_descending 16 = .ok (.iload_n 2, 1) := by decide +kernel
theorem dX2_descending_17 : decode cX2_descending 17 = .ok (.aaload, 1) := by decide +kernel
theorem dX2_descending_18 : decode cX2_descending 18 = .ok (.invokevirtual 67, 3) := by decide +kernel
theorem dX2_descending_21 : decode cX2_descending 21 = .ok (.ifCond .eq 6, 3) := by decide +kernel
theorem dX2_descending_24 : decode cX2_descending 24 = .ok (.iinc 1 1, 3) := by decide +kernel
theorem dX2_descending_27 : decode cX2_descending 27 = .ok (.iinc 2 1, 3) := by decide +kernel
theorem dX2_descending_30 : decode cX2_descending 30 = .ok (.goto (-26), 3) := by decide +kernel
theorem dX2_descending_33 : decode cX2_descending 33 = .ok (.iload_n 1, 1) := by decide +kernel
theorem dX2_descending_34 : decode cX2_descending 34 = .ok (.ireturn, 1) := by decide +kernel
theorem dX2_longest_0 : decode cX2_longest 0 = .ok (.iconst 0, 1) := by decide +kernel
theorem dX2_longest_1 : decode cX2_longest 1 = .ok (.istore_n 1, 1) := by decide +kernel
theorem dX2_longest_2 : decode cX2_longest 2 = .ok (.iconst 0, 1) := by decide +kernel
theorem dX2_longest_3 : decode cX2_longest 3 = .ok (.istore_n 2, 1) := by decide +kernel
theorem dX2_longest_4 : decode cX2_longest 4 = .ok (.iload_n 2, 1) := by decide +kernel
theorem dX2_longest_5 : decode cX2_longest 5 = .ok (.aload_n 0, 1) := by decide +kernel
theorem dX2_longest_6 : decode cX2_longest 6 = .ok (.getfield 22, 3) := by decide +kernel
theorem dX2_longest_9 : decode cX2_longest 9 = .ok (.if_icmp .ge 23, 3) := by decide +kernel
theorem dX2_longest_12 : decode cX2_longest 12 = .ok (.iload_n 1, 1) := by decide +kernel
theorem dX2_longest_13 : decode cX2_longest 13 = .ok (.aload_n 0, 1) := by decide +kernel
theorem dX2_longest_14 : decode cX2_longest 14 = .ok (.getfield 11, 3) := by decide +kernel
theorem dX2_longest_17 : decode cX2_longest 17 = .ok (.iload_n 2, 1) := by decide +kernel
theorem dX2_longest_18 : decode cX2_longest 18 = .ok (.aaload, 1) := by decide +kernel
theorem dX2_longest_19 : decode cX2_longest 19 = .ok (.getfield 70, 3) := by decide +kernel
theorem dX2_longest_22 : decode cX2_longest 22 = .ok (.invokestatic 73, 3) := by decide +kernel
theorem dX2_longest_25 : decode cX2_longest 25 = .ok (.istore_n 1, 1) := by decide +kernel
theorem dX2_longest_26 : decode cX2_longest 26 = .ok (.iinc 2 1, 3) := by decide +kernel
theorem dX2_longest_29 : decode cX2_longest 29 = .ok (.goto (-25), 3) := by decide +kernel
theorem dX2_longest_32 : decode cX2_longest 32 = .ok (.iload_n 1, 1) := by decide +kernel
theorem dX2_longest_33 : decode cX2_longest 33 = .ok (.ireturn, 1) := by decide +kernel
theorem dX2_shortest_0 : decode cX2_shortest 0 = .ok (.bipush 8, 2) := by decide +kernel
theorem dX2_shortest_2 : decode cX2_shortest 2 = .ok (.istore_n 1, 1) := by decide +kernel
theorem dX2_shortest_3 : decode cX2_shortest 3 = .ok (.iconst 0, 1) := by decide +kernel
theorem dX2_shortest_4 : decode cX2_shortest 4 = .ok (.istore_n 2, 1) := by decide +kernel
theorem dX2_shortest_5 : decode cX2_shortest 5 = .ok (.iload_n 2, 1) := by decide +kernel
theorem dX2_shortest_6 : decode cX2_shortest 6 = .ok (.aload_n 0, 1) := by decide +kernel
theorem dX2_shortest_7 : decode cX2_shortest 7 = .ok (.getfield 22, 3) := by decide +kernel
theorem dX2_shortest_10 : decode cX2_shortest 10 = .ok (.if_icmp .ge 23, 3) := by decide +kernel
theorem dX2_shortest_13 : decode cX2_shortest 13 = .ok (.iload_n 1, 1) := by decide +kernel
theorem dX2_shortest_14 : decode cX2_shortest 14 = .ok (.aload_n 0, 1) := by decide +kernel
theorem dX2_shortest_15 : decode cX2_shortest 15 = .ok (.getfield 11, 3) := by decide +kernel
theorem dX2_shortest_18 : decode cX2_shortest 18 = .ok (.iload_n 2, 1) := by decide +kernel
theorem dX2_shortest_19 : decode cX2_shortest 19 = .ok (.aaload, 1) := by decide +kernel
theorem dX2_shortest_20 : decode cX2_shortest 20 = .ok (.getfield 70, 3) := by decide +kernel
theorem dX2_shortest_23 : decode cX2_shortest 23 = .ok (.invokestatic 78, 3) := by decide +kernel
theorem dX2_shortest_26 : decode cX2_shortest 26 = .ok (.istore_n 1, 1) := by decide +kernel
theorem dX2_shortest_27 : decode cX2_shortest 27 = .ok (.iinc 2 1, 3) := by decide +kernel
theorem dX2_shortest_30 : decode cX2_shortest 30 = .ok (.goto (-25), 3) := by decide +kernel
theorem dX2_shortest_33 : decode cX2_shortest 33 = .ok (.iload_n 1, 1) := by decide +kernel
theorem dX2_shortest_34 : decode cX2_shortest 34 = .ok (.ireturn, 1) := by decide +kernel
set_option maxRecDepth 20000 in
theorem ggX2_withFalls_X1_fallSet : GoodIn wsX2_withFalls wsX1_fallSet := goodIn_r _ [7, 8, 9, 13, 14, 15, 16] (by decide +kernel) (by decide +kernel)
set_option maxRecDepth 20000 in
theorem gX2_withFalls_X1_fallSet : GoodIn wsX2_withFalls (wsV RX2 81 RX1 yX1_fallSet wsX1_fallSet) := goodIn_app (goodIn_of _ (by decide +kernel)) ggX2_withFalls_X1_fallSet
theorem dX2_withFalls_0 : decode cX2_withFalls 0 = .ok (.iconst 0, 1) := by decide +kernel
theorem dX2_withFalls_1 : decode cX2_withFalls 1 = .ok (.istore_n 2, 1) := by decide +kernel
theorem dX2_withFalls_2 : decode cX2_withFalls 2 = .ok (.iconst 0, 1) := by decide +kernel
theorem dX2_withFalls_3 : decode cX2_withFalls 3 = .ok (.istore_n 3, 1) := by decide +kernel
theorem dX2_withFalls_4 : decode cX2_withFalls 4 = .ok (.iload_n 3, 1) := by decide +kernel
theorem dX2_withFalls_5 : decode cX2_withFalls 5 = .ok (.aload_n 0, 1) := by decide +kernel
theorem dX2_withFalls_6 : decode cX2_withFalls 6 = .ok (.getfield 22, 3) := by decide +kernel
theorem dX2_withFalls_9 : decode cX2_withFalls 9 = .ok (.if_icmp .ge 25, 3) := by decide +kernel
theorem dX2_withFalls_12 : decode cX2_withFalls 12 = .ok (.aload_n 0, 1) := by decide +kernel
theorem dX2_withFalls_13 : decode cX2_withFalls 13 = .ok (.getfield 11, 3) := by decide +kernel
theorem dX2_withFalls_16 : decode cX2_withFalls 16 = .ok (.iload_n 3, 1) := by decide +kernel
theorem dX2_withFalls_17 : decode cX2_withFalls 17 = .ok (.aaload, 1) := by decide +kernel
theorem dX2_withFalls_18 : decode cX2_withFalls 18 = .ok (.invokevirtual 81, 3) := by decide +kernel
theorem dX2_withFalls_21 : decode cX2_withFalls 21 = .ok (.iload_n 1, 1) := by decide +kernel
theorem dX2_withFalls_22 : decode cX2_withFalls 22 = .ok (.if_icmp .ne 6, 3) := by decide +kernel
theorem dX2_withFalls_25 : decode cX2_withFalls 25 = .ok (.iinc 2 1, 3) := by decide +kernel
theorem dX2_withFalls_28 : decode cX2_withFalls 28 = .ok (.iinc 3 1, 3) := by decide +kernel
theorem dX2_withFalls_31 : decode cX2_withFalls 31 = .ok (.goto (-27), 3) := by decide +kernel
theorem dX2_withFalls_34 : decode cX2_withFalls 34 = .ok (.iload_n 2, 1) := by decide +kernel
theorem dX2_withFalls_35 : decode cX2_withFalls 35 = .ok (.ireturn, 1) := by decide +kernel
set_option maxRecDepth 20000 in
theorem ggX2_isShell_X2_hasSide : GoodIn wsX2_isShell wsX2_hasSide := goodIn_r _ [7, 1, 2, 8, 9, 10, 6, 11, 12, 13, 14, 15, 16, 17, 18, 19, 20, 21, 22, 23, 24, 25] (by decide +kernel) (by decide +kernel)
set_option maxRecDepth 20000 in
theorem gX2_isShell_X2_hasSide : GoodIn wsX2_isShell (wsV RX2 87 RX2 yX2_hasSide wsX2_hasSide) := goodIn_app (goodIn_of _ (by decide +kernel)) ggX2_isShell_X2_hasSide
theorem dX2_isShell_0 : decode cX2_isShell 0 = .ok (.iconst 0, 1) := by decide +kernel
theorem dX2_isShell_1 : decode cX2_isShell 1 = .ok (.istore_n 2, 1) := by decide +kernel
theorem dX2_isShell_2 : decode cX2_isShell 2 = .ok (.iload_n 2, 1) := by decide +kernel
theorem dX2_isShell_3 : decode cX2_isShell 3 = .ok (.iload_n 1, 1) := by decide +kernel
theorem dX2_isShell_4 : decode cX2_isShell 4 = .ok (.if_icmp .ge 38, 3) := by decide +kernel
theorem dX2_isShell_7 : decode cX2_isShell 7 = .ok (.aload_n 0, 1) := by decide +kernel
theorem dX2_isShell_8 : decode cX2_isShell 8 = .ok (.iload_n 1, 1) := by decide +kernel
theorem dX2_isShell_9 : decode cX2_isShell 9 = .ok (.aload_n 0, 1) := by decide +kernel
theorem dX2_isShell_10 : decode cX2_isShell 10 = .ok (.getfield 11, 3) := by decide +kernel
theorem dX2_isShell_13 : decode cX2_isShell 13 = .ok (.iload_n 2, 1) := by decide +kernel
theorem dX2_isShell_14 : decode cX2_isShell 14 = .ok (.aaload, 1) := by decide +kernel
theorem dX2_isShell_15 : decode cX2_isShell 15 = .ok (.getfield 84, 3) := by decide +kernel
theorem dX2_isShell_18 : decode cX2_isShell 18 = .ok (.aload_n 0, 1) := by decide +kernel
theorem dX2_isShell_19 : decode cX2_isShell 19 = .ok (.getfield 11, 3) := by decide +kernel
theorem dX2_isShell_22 : decode cX2_isShell 22 = .ok (.iload_n 1, 1) := by decide +kernel
theorem dX2_isShell_23 : decode cX2_isShell 23 = .ok (.aaload, 1) := by decide +kernel
theorem dX2_isShell_24 : decode cX2_isShell 24 = .ok (.getfield 84, 3) := by decide +kernel
theorem dX2_isShell_27 : decode cX2_isShell 27 = .ok (.iand, 1) := by decide +kernel
theorem dX2_isShell_28 : decode cX2_isShell 28 = .ok (.invokevirtual 87, 3) := by decide +kernel
theorem dX2_isShell_31 : decode cX2_isShell 31 = .ok (.ifCond .ne 5, 3) := by decide +kernel
theorem dX2_isShell_34 : decode cX2_isShell 34 = .ok (.iconst 0, 1) := by decide +kernel
theorem dX2_isShell_35 : decode cX2_isShell 35 = .ok (.ireturn, 1) := by decide +kernel
theorem dX2_isShell_36 : decode cX2_isShell 36 = .ok (.iinc 2 1, 3) := by decide +kernel
theorem dX2_isShell_39 : decode cX2_isShell 39 = .ok (.goto (-37), 3) := by decide +kernel
theorem dX2_isShell_42 : decode cX2_isShell 42 = .ok (.iconst 1, 1) := by decide +kernel
theorem dX2_isShell_43 : decode cX2_isShell 43 = .ok (.ireturn, 1) := by decide +kernel
set_option maxRecDepth 20000 in
theorem ggX2_hasSide_X2_isSide : GoodIn wsX2_hasSide wsX2_isSide := goodIn_r _ [7, 1, 2, 8, 9, 10, 11, 12, 13, 14, 15, 16, 17, 18, 19, 20, 21] (by decide +kernel) (by decide +kernel)
set_option maxRecDepth 20000 in
theorem gX2_hasSide_X2_isSide : GoodIn wsX2_hasSide (wsV RX2 90 RX2 yX2_isSide wsX2_isSide) := goodIn_app (goodIn_of _ (by decide +kernel)) ggX2_hasSide_X2_isSide
theorem dX2_hasSide_0 : decode cX2_hasSide 0 = .ok (.iconst 0, 1) := by decide +kernel
theorem dX2_hasSide_1 : decode cX2_hasSide 1 = .ok (.istore_n 3, 1) := by decide +kernel
theorem dX2_hasSide_2 : decode cX2_hasSide 2 = .ok (.iload_n 3, 1) := by decide +kernel
theorem dX2_hasSide_3 : decode cX2_hasSide 3 = .ok (.iload_n 1, 1) := by decide +kernel
theorem dX2_hasSide_4 : decode cX2_hasSide 4 = .ok (.if_icmp .ge 36, 3) := by decide +kernel
theorem dX2_hasSide_7 : decode cX2_hasSide 7 = .ok (.aload_n 0, 1) := by decide +kernel
theorem dX2_hasSide_8 : decode cX2_hasSide 8 = .ok (.iload_n 1, 1) := by decide +kernel
theorem dX2_hasSide_9 : decode cX2_hasSide 9 = .ok (.iload_n 3, 1) := by decide +kernel
theorem dX2_hasSide_10 : decode cX2_hasSide 10 = .ok (.invokevirtual 90, 3) := by decide +kernel
theorem dX2_hasSide_13 : decode cX2_hasSide 13 = .ok (.ifCond .eq 21, 3) := by decide +kernel
theorem dX2_hasSide_16 : decode cX2_hasSide 16 = .ok (.iload_n 2, 1) := by decide +kernel
theorem dX2_hasSide_17 : decode cX2_hasSide 17 = .ok (.aload_n 0, 1) := by decide +kernel
theorem dX2_hasSide_18 : decode cX2_hasSide 18 = .ok (.getfield 11, 3) := by decide +kernel
theorem dX2_hasSide_21 : decode cX2_hasSide 21 = .ok (.iload_n 3, 1) := by decide +kernel
theorem dX2_hasSide_22 : decode cX2_hasSide 22 = .ok (.aaload, 1) := by decide +kernel
theorem dX2_hasSide_23 : decode cX2_hasSide 23 = .ok (.getfield 84, 3) := by decide +kernel
theorem dX2_hasSide_26 : decode cX2_hasSide 26 = .ok (.iconst (-1), 1) := by decide +kernel
theorem dX2_hasSide_27 : decode cX2_hasSide 27 = .ok (.ixor, 1) := by decide +kernel
theorem dX2_hasSide_28 : decode cX2_hasSide 28 = .ok (.iand, 1) := by decide +kernel
theorem dX2_hasSide_29 : decode cX2_hasSide 29 = .ok (.ifCond .ne 5, 3) := by decide +kernel
theorem dX2_hasSide_32 : decode cX2_hasSide 32 = .ok (.iconst 1, 1) := by decide +kernel
theorem dX2_hasSide_33 : decode cX2_hasSide 33 = .ok (.ireturn, 1) := by decide +kernel
theorem dX2_hasSide_34 : decode cX2_hasSide 34 = .ok (.iinc 3 1, 3) := by decide +kernel
theorem dX2_hasSide_37 : decode cX2_hasSide 37 = .ok (.goto (-35), 3) := by decide +kernel
theorem dX2_hasSide_40 : decode cX2_hasSide 40 = .ok (.iconst 0, 1) := by decide +kernel
theorem dX2_hasSide_41 : decode cX2_hasSide 41 = .ok (.ireturn, 1) := by decide +kernel
set_option maxRecDepth 20000 in
theorem ggX2_isSide_J6_bitCount_0f7a4 : GoodIn wsX2_isSide wsJ6_bitCount_0f7a4 := goodIn_r _ [6, 7, 8, 9] (by decide +kernel) (by decide +kernel)
set_option maxRecDepth 20000 in
theorem gX2_isSide_J6_bitCount_0f7a4 : GoodIn wsX2_isSide (va_wsS RX2 93 yJ6_bitCount_0f7a4 wsJ6_bitCount_0f7a4) := goodIn_app (goodIn_of _ (by decide +kernel)) ggX2_isSide_J6_bitCount_0f7a4
theorem dX2_isSide_0 : decode cX2_isSide 0 = .ok (.aload_n 0, 1) := by decide +kernel
theorem dX2_isSide_1 : decode cX2_isSide 1 = .ok (.getfield 11, 3) := by decide +kernel
theorem dX2_isSide_4 : decode cX2_isSide 4 = .ok (.iload_n 1, 1) := by decide +kernel
theorem dX2_isSide_5 : decode cX2_isSide 5 = .ok (.aaload, 1) := by decide +kernel
theorem dX2_isSide_6 : decode cX2_isSide 6 = .ok (.getfield 84, 3) := by decide +kernel
theorem dX2_isSide_9 : decode cX2_isSide 9 = .ok (.aload_n 0, 1) := by decide +kernel
theorem dX2_isSide_10 : decode cX2_isSide 10 = .ok (.getfield 11, 3) := by decide +kernel
theorem dX2_isSide_13 : decode cX2_isSide 13 = .ok (.iload_n 2, 1) := by decide +kernel
theorem dX2_isSide_14 : decode cX2_isSide 14 = .ok (.aaload, 1) := by decide +kernel
theorem dX2_isSide_15 : decode cX2_isSide 15 = .ok (.getfield 84, 3) := by decide +kernel
theorem dX2_isSide_18 : decode cX2_isSide 18 = .ok (.iconst (-1), 1) := by decide +kernel
theorem dX2_isSide_19 : decode cX2_isSide 19 = .ok (.ixor, 1) := by decide +kernel
theorem dX2_isSide_20 : decode cX2_isSide 20 = .ok (.iand, 1) := by decide +kernel
theorem dX2_isSide_21 : decode cX2_isSide 21 = .ok (.invokestatic 93, 3) := by decide +kernel
theorem dX2_isSide_24 : decode cX2_isSide 24 = .ok (.iconst 1, 1) := by decide +kernel
theorem dX2_isSide_25 : decode cX2_isSide 25 = .ok (.if_icmp .ne 7, 3) := by decide +kernel
theorem dX2_isSide_28 : decode cX2_isSide 28 = .ok (.iconst 1, 1) := by decide +kernel
theorem dX2_isSide_29 : decode cX2_isSide 29 = .ok (.goto 4, 3) := by decide +kernel
theorem dX2_isSide_32 : decode cX2_isSide 32 = .ok (.iconst 0, 1) := by decide +kernel
theorem dX2_isSide_33 : decode cX2_isSide 33 = .ok (.ireturn, 1) := by decide +kernel
set_option maxRecDepth 20000 in
theorem ggX2_creaseSet_X2_isSide : GoodIn wsX2_creaseSet wsX2_isSide := goodIn_r _ [7, 1, 2, 8, 9, 10, 11, 12, 13, 14, 15, 16, 17, 18, 19, 20, 21] (by decide +kernel) (by decide +kernel)
set_option maxRecDepth 20000 in
theorem gX2_creaseSet_X2_isSide : GoodIn wsX2_creaseSet (wsV RX2 90 RX2 yX2_isSide wsX2_isSide) := goodIn_app (goodIn_of _ (by decide +kernel)) ggX2_creaseSet_X2_isSide
theorem dX2_creaseSet_0 : decode cX2_creaseSet 0 = .ok (.iconst 0, 1) := by decide +kernel
theorem dX2_creaseSet_1 : decode cX2_creaseSet 1 = .ok (.istore_n 2, 1) := by decide +kernel
theorem dX2_creaseSet_2 : decode cX2_creaseSet 2 = .ok (.iconst 0, 1) := by decide +kernel
theorem dX2_creaseSet_3 : decode cX2_creaseSet 3 = .ok (.istore_n 3, 1) := by decide +kernel
theorem dX2_creaseSet_4 : decode cX2_creaseSet 4 = .ok (.iload_n 3, 1) := by decide +kernel
theorem dX2_creaseSet_5 : decode cX2_creaseSet 5 = .ok (.iload_n 1, 1) := by decide +kernel
theorem dX2_creaseSet_6 : decode cX2_creaseSet 6 = .ok (.if_icmp .ge 42, 3) := by decide +kernel
theorem dX2_creaseSet_9 : decode cX2_creaseSet 9 = .ok (.aload_n 0, 1) := by decide +kernel
theorem dX2_creaseSet_10 : decode cX2_creaseSet 10 = .ok (.iload_n 1, 1) := by decide +kernel
theorem dX2_creaseSet_11 : decode cX2_creaseSet 11 = .ok (.iload_n 3, 1) := by decide +kernel
theorem dX2_creaseSet_12 : decode cX2_creaseSet 12 = .ok (.invokevirtual 90, 3) := by decide +kernel
theorem dX2_creaseSet_15 : decode cX2_creaseSet 15 = .ok (.ifCond .eq 27, 3) := by decide +kernel
theorem dX2_creaseSet_18 : decode cX2_creaseSet 18 = .ok (.iload_n 2, 1) := by decide +kernel
theorem dX2_creaseSet_19 : decode cX2_creaseSet 19 = .ok (.aload_n 0, 1) := by decide +kernel
theorem dX2_creaseSet_20 : decode cX2_creaseSet 20 = .ok (.getfield 11, 3) := by decide +kernel
theorem dX2_creaseSet_23 : decode cX2_creaseSet 23 = .ok (.iload_n 1, 1) := by decide +kernel
theorem dX2_creaseSet_24 : decode cX2_creaseSet 24 = .ok (.aaload, 1) := by decide +kernel
theorem dX2_creaseSet_25 : decode cX2_creaseSet 25 = .ok (.getfield 84, 3) := by decide +kernel
theorem dX2_creaseSet_28 : decode cX2_creaseSet 28 = .ok (.aload_n 0, 1) := by decide +kernel
theorem dX2_creaseSet_29 : decode cX2_creaseSet 29 = .ok (.getfield 11, 3) := by decide +kernel
theorem dX2_creaseSet_32 : decode cX2_creaseSet 32 = .ok (.iload_n 3, 1) := by decide +kernel
theorem dX2_creaseSet_33 : decode cX2_creaseSet 33 = .ok (.aaload, 1) := by decide +kernel
theorem dX2_creaseSet_34 : decode cX2_creaseSet 34 = .ok (.getfield 84, 3) := by decide +kernel
theorem dX2_creaseSet_37 : decode cX2_creaseSet 37 = .ok (.iconst (-1), 1) := by decide +kernel
theorem dX2_creaseSet_38 : decode cX2_creaseSet 38 = .ok (.ixor, 1) := by decide +kernel
theorem dX2_creaseSet_39 : decode cX2_creaseSet 39 = .ok (.iand, 1) := by decide +kernel
theorem dX2_creaseSet_40 : decode cX2_creaseSet 40 = .ok (.ior, 1) := by decide +kernel
theorem dX2_creaseSet_41 : decode cX2_creaseSet 41 = .ok (.istore_n 2, 1) := by decide +kernel
theorem dX2_creaseSet_42 : decode cX2_creaseSet 42 = .ok (.iinc 3 1, 3) := by decide +kernel
theorem dX2_creaseSet_45 : decode cX2_creaseSet 45 = .ok (.goto (-41), 3) := by decide +kernel
theorem dX2_creaseSet_48 : decode cX2_creaseSet 48 = .ok (.iload_n 2, 1) := by decide +kernel
theorem dX2_creaseSet_49 : decode cX2_creaseSet 49 = .ok (.ireturn, 1) := by decide +kernel
theorem dX3_init_0 : decode cX3_init 0 = .ok (.aload_n 0, 1) := by decide +kernel
theorem dX3_init_1 : decode cX3_init 1 = .ok (.invokespecial 3, 3) := by decide +kernel
theorem dX3_init_4 : decode cX3_init 4 = .ok (.aload_n 0, 1) := by decide +kernel
theorem dX3_init_5 : decode cX3_init 5 = .ok (.sipush 512, 3) := by decide +kernel
theorem dX3_init_8 : decode cX3_init 8 = .ok (.newarray .int, 2) := by decide +kernel
theorem dX3_init_10 : decode cX3_init 10 = .ok (.putfield 9, 3) := by decide +kernel
theorem dX3_init_13 : decode cX3_init 13 = .ok (.aload_n 0, 1) := by decide +kernel
theorem dX3_init_14 : decode cX3_init 14 = .ok (.sipush 1225, 3) := by decide +kernel
theorem dX3_init_17 : decode cX3_init 17 = .ok (.newarray .int, 2) := by decide +kernel
theorem dX3_init_19 : decode cX3_init 19 = .ok (.putfield 15, 3) := by decide +kernel
theorem dX3_init_22 : decode cX3_init 22 = .ok (.aload_n 0, 1) := by decide +kernel
theorem dX3_init_23 : decode cX3_init 23 = .ok (.bipush 35, 2) := by decide +kernel
theorem dX3_init_25 : decode cX3_init 25 = .ok (.newarray .int, 2) := by decide +kernel
theorem dX3_init_27 : decode cX3_init 27 = .ok (.putfield 18, 3) := by decide +kernel
theorem dX3_init_30 : decode cX3_init 30 = .ok (.return_, 1) := by decide +kernel
set_option maxRecDepth 20000 in
theorem ggX3_isFace_J6_bitCount_0f7a4 : GoodIn wsX3_isFace wsJ6_bitCount_0f7a4 := goodIn_r _ [4, 5, 6, 7] (by decide +kernel) (by decide +kernel)
set_option maxRecDepth 20000 in
theorem gX3_isFace_J6_bitCount_0f7a4 : GoodIn wsX3_isFace (va_wsS RX3 21 yJ6_bitCount_0f7a4 wsJ6_bitCount_0f7a4) := goodIn_app (goodIn_of _ (by decide +kernel)) ggX3_isFace_J6_bitCount_0f7a4
set_option maxRecDepth 20000 in
theorem ggX3_isFace_X6_isRow : GoodIn wsX3_isFace wsX6_isRow := goodIn_r _ [12, 13, 14, 15, 16, 17, 18, 19, 20, 21, 22, 23] (by decide +kernel) (by decide +kernel)
set_option maxRecDepth 20000 in
theorem gX3_isFace_X6_isRow : GoodIn wsX3_isFace (wsV RX3 27 RX6 yX6_isRow wsX6_isRow) := goodIn_app (goodIn_of _ (by decide +kernel)) ggX3_isFace_X6_isRow
theorem dX3_isFace_0 : decode cX3_isFace 0 = .ok (.iload_n 3, 1) := by decide +kernel
theorem dX3_isFace_1 : decode cX3_isFace 1 = .ok (.iload_n 1, 1) := by decide +kernel
theorem dX3_isFace_2 : decode cX3_isFace 2 = .ok (.iconst (-1), 1) := by decide +kernel
theorem dX3_isFace_3 : decode cX3_isFace 3 = .ok (.ixor, 1) := by decide +kernel
theorem dX3_isFace_4 : decode cX3_isFace 4 = .ok (.iand, 1) := by decide +kernel
theorem dX3_isFace_5 : decode cX3_isFace 5 = .ok (.ifCond .ne 23, 3) := by decide +kernel
theorem dX3_isFace_8 : decode cX3_isFace 8 = .ok (.iload_n 3, 1) := by decide +kernel
theorem dX3_isFace_9 : decode cX3_isFace 9 = .ok (.invokestatic 21, 3) := by decide +kernel
theorem dX3_isFace_12 : decode cX3_isFace 12 = .ok (.iload_n 2, 1) := by decide +kernel
theorem dX3_isFace_13 : decode cX3_isFace 13 = .ok (.if_icmp .ne 15, 3) := by decide +kernel
theorem dX3_isFace_16 : decode cX3_isFace 16 = .ok (.aload_n 0, 1) := by decide +kernel
theorem dX3_isFace_17 : decode cX3_isFace 17 = .ok (.iload_n 3, 1) := by decide +kernel
theorem dX3_isFace_18 : decode cX3_isFace 18 = .ok (.invokevirtual 27, 3) := by decide +kernel
theorem dX3_isFace_21 : decode cX3_isFace 21 = .ok (.ifCond .eq 7, 3) := by decide +kernel
theorem dX3_isFace_24 : decode cX3_isFace 24 = .ok (.iconst 1, 1) := by decide +kernel
theorem dX3_isFace_25 : decode cX3_isFace 25 = .ok (.goto 4, 3) := by decide +kernel
theorem dX3_isFace_28 : decode cX3_isFace 28 = .ok (.iconst 0, 1) := by decide +kernel
theorem dX3_isFace_29 : decode cX3_isFace 29 = .ok (.ireturn, 1) := by decide +kernel
set_option maxRecDepth 20000 in
theorem ggX3_list_X3_isFace : GoodIn wsX3_list wsX3_isFace := goodIn_r _ [5, 6, 7, 8, 9, 10, 11, 12, 13, 14, 15, 16, 17, 18, 19, 20, 21, 22, 26, 27, 28, 29, 30, 31] (by decide +kernel) (by decide +kernel)
set_option maxRecDepth 20000 in
theorem gX3_list_X3_isFace : GoodIn wsX3_list (va_wsS RX3 33 yX3_isFace wsX3_isFace) := goodIn_app (goodIn_of _ (by decide +kernel)) ggX3_list_X3_isFace
theorem dX3_list_0 : decode cX3_list 0 = .ok (.iconst 0, 1) := by decide +kernel
theorem dX3_list_1 : decode cX3_list 1 = .ok (.istore 4, 2) := by decide +kernel
theorem dX3_list_3 : decode cX3_list 3 = .ok (.iconst 0, 1) := by decide +kernel
theorem dX3_list_4 : decode cX3_list 4 = .ok (.istore 5, 2) := by decide +kernel
theorem dX3_list_6 : decode cX3_list 6 = .ok (.iload 5, 2) := by decide +kernel
theorem dX3_list_8 : decode cX3_list 8 = .ok (.sipush 512, 3) := by decide +kernel
theorem dX3_list_11 : decode cX3_list 11 = .ok (.if_icmp .ge 32, 3) := by decide +kernel
theorem dX3_list_14 : decode cX3_list 14 = .ok (.aload_n 1, 1) := by decide +kernel
theorem dX3_list_15 : decode cX3_list 15 = .ok (.iload_n 2, 1) := by decide +kernel
theorem dX3_list_16 : decode cX3_list 16 = .ok (.iload_n 3, 1) := by decide +kernel
theorem dX3_list_17 : decode cX3_list 17 = .ok (.iload 5, 2) := by decide +kernel
theorem dX3_list_19 : decode cX3_list 19 = .ok (.invokestatic 33, 3) := by decide +kernel
theorem dX3_list_22 : decode cX3_list 22 = .ok (.ifCond .eq 15, 3) := by decide +kernel
theorem dX3_list_25 : decode cX3_list 25 = .ok (.aload_n 0, 1) := by decide +kernel
theorem dX3_list_26 : decode cX3_list 26 = .ok (.getfield 9, 3) := by decide +kernel
theorem dX3_list_29 : decode cX3_list 29 = .ok (.iload 5, 2) := by decide +kernel
theorem dX3_list_31 : decode cX3_list 31 = .ok (.iload 4, 2) := by decide +kernel
theorem dX3_list_33 : decode cX3_list 33 = .ok (.iastore, 1) := by decide +kernel
theorem dX3_list_34 : decode cX3_list 34 = .ok (.iinc 4 1, 3) := by decide +kernel
theorem dX3_list_37 : decode cX3_list 37 = .ok (.iinc 5 1, 3) := by decide +kernel
theorem dX3_list_40 : decode cX3_list 40 = .ok (.goto (-34), 3) := by decide +kernel
theorem dX3_list_43 : decode cX3_list 43 = .ok (.iload 4, 2) := by decide +kernel
theorem dX3_list_45 : decode cX3_list 45 = .ok (.ireturn, 1) := by decide +kernel
set_option maxRecDepth 20000 in
theorem ggX3_rank_X3_list : GoodIn wsX3_rank wsX3_list := goodIn_r _ [10, 11, 12, 13, 9, 14, 15, 16, 17, 18, 19, 20, 21, 22, 23, 24, 25, 26, 27, 28, 29, 30, 31, 56, 57, 58, 59, 60, 61, 62, 63, 64] (by decide +kernel) (by decide +kernel)
set_option maxRecDepth 20000 in
theorem gX3_rank_X3_list : GoodIn wsX3_rank (wsV RX3 37 RX3 yX3_list wsX3_list) := goodIn_app (goodIn_of _ (by decide +kernel)) ggX3_rank_X3_list
set_option maxRecDepth 20000 in
theorem ggX3_rank_X3_isFace : GoodIn wsX3_rank wsX3_isFace := goodIn_r _ [14, 15, 16, 17, 18, 19, 20, 21, 22, 23, 24, 25, 26, 27, 28, 29, 30, 31, 59, 60, 61, 62, 63, 64] (by decide +kernel) (by decide +kernel)
set_option maxRecDepth 20000 in
theorem gX3_rank_X3_isFace : GoodIn wsX3_rank (va_wsS RX3 33 yX3_isFace wsX3_isFace) := goodIn_app (goodIn_of _ (by decide +kernel)) ggX3_rank_X3_isFace
set_option maxRecDepth 20000 in
theorem ggX3_rank_X3_write : GoodIn wsX3_rank wsX3_write := goodIn_r _ [35, 36, 11, 37, 38, 39, 40, 41, 29, 30, 31, 15, 16, 17, 18, 19, 20, 21, 56, 57, 58, 59, 60, 61, 62, 63, 64] (by decide +kernel) (by decide +kernel)
set_option maxRecDepth 20000 in
theorem gX3_rank_X3_write : GoodIn wsX3_rank (wsV RX3 47 RX3 yX3_write wsX3_write) := goodIn_app (goodIn_of _ (by decide +kernel)) ggX3_rank_X3_write
set_option maxRecDepth 20000 in
theorem ggX3_rank_X3_reduce : GoodIn wsX3_rank wsX3_reduce := goodIn_r _ [45, 36, 5, 46, 47, 48, 9, 49, 50, 51, 52, 53, 54, 55, 56, 57, 58] (by decide +kernel) (by decide +kernel)
set_option maxRecDepth 20000 in
theorem gX3_rank_X3_reduce : GoodIn wsX3_rank (wsV RX3 51 RX3 yX3_reduce wsX3_reduce) := goodIn_app (goodIn_of _ (by decide +kernel)) ggX3_rank_X3_reduce
theorem dX3_rank_0 : decode cX3_rank 0 = .ok (.iload_n 3, 1) := by decide +kernel
theorem dX3_rank_1 : decode cX3_rank 1 = .ok (.iconst 1, 1) := by decide +kernel
theorem dX3_rank_2 : decode cX3_rank 2 = .ok (.if_icmp .ge 5, 3) := by decide +kernel
theorem dX3_rank_5 : decode cX3_rank 5 = .ok (.iconst 0, 1) := by decide +kernel
theorem dX3_rank_6 : decode cX3_rank 6 = .ok (.ireturn, 1) := by decide +kernel
theorem dX3_rank_7 : decode cX3_rank 7 = .ok (.aload_n 0, 1) := by decide +kernel
theorem dX3_rank_8 : decode cX3_rank 8 = .ok (.aload_n 1, 1) := by decide +kernel
theorem dX3_rank_9 : decode cX3_rank 9 = .ok (.iload_n 2, 1) := by decide +kernel
theorem dX3_rank_10 : decode cX3_rank 10 = .ok (.iload_n 3, 1) := by decide +kernel
theorem dX3_rank_11 : decode cX3_rank 11 = .ok (.iconst 1, 1) := by decide +kernel
theorem dX3_rank_12 : decode cX3_rank 12 = .ok (.isub, 1) := by decide +kernel
theorem dX3_rank_13 : decode cX3_rank 13 = .ok (.invokevirtual 37, 3) := by decide +kernel
theorem dX3_rank_16 : decode cX3_rank 16 = .ok (.bipush 35, 2) := by decide +kernel
theorem dX3_rank_18 : decode cX3_rank 18 = .ok (.invokestatic 41, 3) := by decide +kernel
theorem dX3_rank_21 : decode cX3_rank 21 = .ok (.istore 5, 2) := by decide +kernel
theorem dX3_rank_23 : decode cX3_rank 23 = .ok (.iconst 0, 1) := by decide +kernel
theorem dX3_rank_24 : decode cX3_rank 24 = .ok (.istore 6, 2) := by decide +kernel
theorem dX3_rank_26 : decode cX3_rank 26 = .ok (.iload 6, 2) := by decide +kernel
theorem dX3_rank_28 : decode cX3_rank 28 = .ok (.iload 5, 2) := by decide +kernel
theorem dX3_rank_30 : decode cX3_rank 30 = .ok (.if_icmp .ge 23, 3) := by decide +kernel
theorem dX3_rank_33 : decode cX3_rank 33 = .ok (.aload_n 0, 1) := by decide +kernel
theorem dX3_rank_34 : decode cX3_rank 34 = .ok (.getfield 15, 3) := by decide +kernel
theorem dX3_rank_37 : decode cX3_rank 37 = .ok (.iload 6, 2) := by decide +kernel
theorem dX3_rank_39 : decode cX3_rank 39 = .ok (.bipush 35, 2) := by decide +kernel
theorem dX3_rank_41 : decode cX3_rank 41 = .ok (.imul, 1) := by decide +kernel
theorem dX3_rank_42 : decode cX3_rank 42 = .ok (.iload 6, 2) := by decide +kernel
theorem dX3_rank_44 : decode cX3_rank 44 = .ok (.iadd, 1) := by decide +kernel
theorem dX3_rank_45 : decode cX3_rank 45 = .ok (.iconst 0, 1) := by decide +kernel
theorem dX3_rank_46 : decode cX3_rank 46 = .ok (.iastore, 1) := by decide +kernel
theorem dX3_rank_47 : decode cX3_rank 47 = .ok (.iinc 6 1, 3) := by decide +kernel
theorem dX3_rank_50 : decode cX3_rank 50 = .ok (.goto (-24), 3) := by decide +kernel
theorem dX3_rank_53 : decode cX3_rank 53 = .ok (.iconst 0, 1) := by decide +kernel
theorem dX3_rank_54 : decode cX3_rank 54 = .ok (.istore 6, 2) := by decide +kernel
theorem dX3_rank_56 : decode cX3_rank 56 = .ok (.iconst 0, 1) := by decide +kernel
theorem dX3_rank_57 : decode cX3_rank 57 = .ok (.istore 7, 2) := by decide +kernel
theorem dX3_rank_59 : decode cX3_rank 59 = .ok (.iload 7, 2) := by decide +kernel
theorem dX3_rank_61 : decode cX3_rank 61 = .ok (.sipush 512, 3) := by decide +kernel
theorem dX3_rank_64 : decode cX3_rank 64 = .ok (.if_icmp .ge 50, 3) := by decide +kernel
theorem dX3_rank_67 : decode cX3_rank 67 = .ok (.iload 6, 2) := by decide +kernel
theorem dX3_rank_69 : decode cX3_rank 69 = .ok (.iload 5, 2) := by decide +kernel
theorem dX3_rank_71 : decode cX3_rank 71 = .ok (.if_icmp .ge 43, 3) := by decide +kernel
theorem dX3_rank_74 : decode cX3_rank 74 = .ok (.aload_n 1, 1) := by decide +kernel
theorem dX3_rank_75 : decode cX3_rank 75 = .ok (.iload_n 2, 1) := by decide +kernel
theorem dX3_rank_76 : decode cX3_rank 76 = .ok (.iload_n 3, 1) := by decide +kernel
theorem dX3_rank_77 : decode cX3_rank 77 = .ok (.iload 7, 2) := by decide +kernel
theorem dX3_rank_79 : decode cX3_rank 79 = .ok (.invokestatic 33, 3) := by decide +kernel
theorem dX3_rank_82 : decode cX3_rank 82 = .ok (.ifCond .eq 26, 3) := by decide +kernel
theorem dX3_rank_85 : decode cX3_rank 85 = .ok (.aload_n 0, 1) := by decide +kernel
theorem dX3_rank_86 : decode cX3_rank 86 = .ok (.aload_n 1, 1) := by decide +kernel
theorem dX3_rank_87 : decode cX3_rank 87 = .ok (.iload 7, 2) := by decide +kernel
theorem dX3_rank_89 : decode cX3_rank 89 = .ok (.iload 4, 2) := by decide +kernel
theorem dX3_rank_91 : decode cX3_rank 91 = .ok (.invokevirtual 47, 3) := by decide +kernel
theorem dX3_rank_94 : decode cX3_rank 94 = .ok (.aload_n 0, 1) := by decide +kernel
theorem dX3_rank_95 : decode cX3_rank 95 = .ok (.iload 5, 2) := by decide +kernel
theorem dX3_rank_97 : decode cX3_rank 97 = .ok (.iload 4, 2) := by decide +kernel
theorem dX3_rank_99 : decode cX3_rank 99 = .ok (.invokevirtual 51, 3) := by decide +kernel
theorem dX3_rank_102 : decode cX3_rank 102 = .ok (.ifCond .eq 6, 3) := by decide +kernel
theorem dX3_rank_105 : decode cX3_rank 105 = .ok (.iinc 6 1, 3) := by decide +kernel
theorem dX3_rank_108 : decode cX3_rank 108 = .ok (.iinc 7 1, 3) := by decide +kernel
theorem dX3_rank_111 : decode cX3_rank 111 = .ok (.goto (-52), 3) := by decide +kernel
theorem dX3_rank_114 : decode cX3_rank 114 = .ok (.iload 6, 2) := by decide +kernel
theorem dX3_rank_116 : decode cX3_rank 116 = .ok (.ireturn, 1) := by decide +kernel
set_option maxRecDepth 20000 in
theorem ggX3_write_J7_fill_53178 : GoodIn wsX3_write wsJ7_fill_53178 := goodIn_r _ [7] (by decide +kernel) (by decide +kernel)
set_option maxRecDepth 20000 in
theorem gX3_write_J7_fill_53178 : GoodIn wsX3_write (va_wsS RX3 55 yJ7_fill_53178 wsJ7_fill_53178) := goodIn_app (goodIn_of _ (by decide +kernel)) ggX3_write_J7_fill_53178
set_option maxRecDepth 20000 in
theorem ggX3_write_X9_isIn : GoodIn wsX3_write wsX9_isIn := goodIn_r _ [10] (by decide +kernel) (by decide +kernel)
set_option maxRecDepth 20000 in
theorem gX3_write_X9_isIn_n61 : GoodIn wsX3_write (wsX9_isIn) := ggX3_write_X9_isIn
set_option maxRecDepth 20000 in
theorem ggX3_write_J6_bitCount_0f7a4 : GoodIn wsX3_write wsJ6_bitCount_0f7a4 := goodIn_r _ [14, 15, 16, 17] (by decide +kernel) (by decide +kernel)
set_option maxRecDepth 20000 in
theorem gX3_write_J6_bitCount_0f7a4 : GoodIn wsX3_write (va_wsS RX3 21 yJ6_bitCount_0f7a4 wsJ6_bitCount_0f7a4) := goodIn_app (goodIn_of _ (by decide +kernel)) ggX3_write_J6_bitCount_0f7a4
theorem dX3_write_0 : decode cX3_write 0 = .ok (.aload_n 0, 1) := by decide +kernel
theorem dX3_write_1 : decode cX3_write 1 = .ok (.getfield 18, 3) := by decide +kernel
theorem dX3_write_4 : decode cX3_write 4 = .ok (.iconst 0, 1) := by decide +kernel
theorem dX3_write_5 : decode cX3_write 5 = .ok (.invokestatic 55, 3) := by decide +kernel
theorem dX3_write_8 : decode cX3_write 8 = .ok (.iconst 0, 1) := by decide +kernel
theorem dX3_write_9 : decode cX3_write 9 = .ok (.istore 4, 2) := by decide +kernel
theorem dX3_write_11 : decode cX3_write 11 = .ok (.iload 4, 2) := by decide +kernel
theorem dX3_write_13 : decode cX3_write 13 = .ok (.bipush 9, 2) := by decide +kernel
theorem dX3_write_15 : decode cX3_write 15 = .ok (.if_icmp .ge 86, 3) := by decide +kernel
theorem dX3_write_18 : decode cX3_write 18 = .ok (.iload_n 2, 1) := by decide +kernel
theorem dX3_write_19 : decode cX3_write 19 = .ok (.iload 4, 2) := by decide +kernel
theorem dX3_write_21 : decode cX3_write 21 = .ok (.invokestatic 61, 3) := by decide +kernel
theorem dX3_write_24 : decode cX3_write 24 = .ok (.ifCond .ne 6, 3) := by decide +kernel
theorem dX3_write_27 : decode cX3_write 27 = .ok (.goto 68, 3) := by decide +kernel
theorem dX3_write_30 : decode cX3_write 30 = .ok (.aload_n 0, 1) := by decide +kernel
theorem dX3_write_31 : decode cX3_write 31 = .ok (.getfield 9, 3) := by decide +kernel
theorem dX3_write_34 : decode cX3_write 34 = .ok (.iload_n 2, 1) := by decide +kernel
theorem dX3_write_35 : decode cX3_write 35 = .ok (.iconst 1, 1) := by decide +kernel
theorem dX3_write_36 : decode cX3_write 36 = .ok (.iload 4, 2) := by decide +kernel
theorem dX3_write_38 : decode cX3_write 38 = .ok (.ishl, 1) := by decide +kernel
theorem dX3_write_39 : decode cX3_write 39 = .ok (.iconst (-1), 1) := by decide +kernel
theorem dX3_write_40 : decode cX3_write 40 = .ok (.ixor, 1) := by decide +kernel
theorem dX3_write_41 : decode cX3_write 41 = .ok (.iand, 1) := by decide +kernel
theorem dX3_write_42 : decode cX3_write 42 = .ok (.iaload, 1) := by decide +kernel
theorem dX3_write_43 : decode cX3_write 43 = .ok (.istore 5, 2) := by decide +kernel
theorem dX3_write_45 : decode cX3_write 45 = .ok (.iload 5, 2) := by decide +kernel
theorem dX3_write_47 : decode cX3_write 47 = .ok (.bipush 35, 2) := by decide +kernel
theorem dX3_write_49 : decode cX3_write 49 = .ok (.if_icmp .ge 46, 3) := by decide +kernel
theorem dX3_write_52 : decode cX3_write 52 = .ok (.iload_n 2, 1) := by decide +kernel
theorem dX3_write_53 : decode cX3_write 53 = .ok (.aload_n 1, 1) := by decide +kernel
theorem dX3_write_54 : decode cX3_write 54 = .ok (.getfield 64, 3) := by decide +kernel
theorem dX3_write_57 : decode cX3_write 57 = .ok (.iload 4, 2) := by decide +kernel
theorem dX3_write_59 : decode cX3_write 59 = .ok (.iaload, 1) := by decide +kernel
theorem dX3_write_60 : decode cX3_write 60 = .ok (.iand, 1) := by decide +kernel
theorem dX3_write_61 : decode cX3_write 61 = .ok (.invokestatic 21, 3) := by decide +kernel
theorem dX3_write_64 : decode cX3_write 64 = .ok (.iconst 1, 1) := by decide +kernel
theorem dX3_write_65 : decode cX3_write 65 = .ok (.iand, 1) := by decide +kernel
theorem dX3_write_66 : decode cX3_write 66 = .ok (.ifCond .ne 7, 3) := by decide +kernel
theorem dX3_write_69 : decode cX3_write 69 = .ok (.iconst 1, 1) := by decide +kernel
theorem dX3_write_70 : decode cX3_write 70 = .ok (.goto 4, 3) := by decide +kernel
theorem dX3_write_73 : decode cX3_write 73 = .ok (.iconst 0, 1) := by decide +kernel
theorem dX3_write_74 : decode cX3_write 74 = .ok (.istore 6, 2) := by decide +kernel
theorem dX3_write_76 : decode cX3_write 76 = .ok (.aload_n 0, 1) := by decide +kernel
theorem dX3_write_77 : decode cX3_write 77 = .ok (.getfield 18, 3) := by decide +kernel
theorem dX3_write_80 : decode cX3_write 80 = .ok (.iload 5, 2) := by decide +kernel
theorem dX3_write_82 : decode cX3_write 82 = .ok (.iload 6, 2) := by decide +kernel
theorem dX3_write_84 : decode cX3_write 84 = .ok (.ifCond .eq 7, 3) := by decide +kernel
theorem dX3_write_87 : decode cX3_write 87 = .ok (.iconst 1, 1) := by decide +kernel
theorem dX3_write_88 : decode cX3_write 88 = .ok (.goto 6, 3) := by decide +kernel
theorem dX3_write_91 : decode cX3_write 91 = .ok (.iload_n 3, 1) := by decide +kernel
theorem dX3_write_92 : decode cX3_write 92 = .ok (.iconst 1, 1) := by decide +kernel
theorem dX3_write_93 : decode cX3_write 93 = .ok (.isub, 1) := by decide +kernel
theorem dX3_write_94 : decode cX3_write 94 = .ok (.iastore, 1) := by decide +kernel
theorem dX3_write_95 : decode cX3_write 95 = .ok (.iinc 4 1, 3) := by decide +kernel
theorem dX3_write_98 : decode cX3_write 98 = .ok (.goto (-87), 3) := by decide +kernel
theorem dX3_write_101 : decode cX3_write 101 = .ok (.return_, 1) := by decide +kernel
set_option maxRecDepth 20000 in
theorem ggX3_reduce_X3_stand : GoodIn wsX3_reduce wsX3_stand := goodIn_r _ [7, 1, 2, 8, 9, 6, 10, 11, 12, 13, 14, 15, 16] (by decide +kernel) (by decide +kernel)
set_option maxRecDepth 20000 in
theorem gX3_reduce_X3_stand : GoodIn wsX3_reduce (wsV RX3 67 RX3 yX3_stand wsX3_stand) := goodIn_app (goodIn_of _ (by decide +kernel)) ggX3_reduce_X3_stand
set_option maxRecDepth 20000 in
theorem ggX3_reduce_X3_remainder : GoodIn wsX3_reduce wsX3_remainder := goodIn_r _ [13] (by decide +kernel) (by decide +kernel)
set_option maxRecDepth 20000 in
theorem gX3_reduce_X3_remainder : GoodIn wsX3_reduce (va_wsS RX3 71 yX3_remainder wsX3_remainder) := goodIn_app (goodIn_of _ (by decide +kernel)) ggX3_reduce_X3_remainder
theorem dX3_reduce_0 : decode cX3_reduce 0 = .ok (.iconst 0, 1) := by decide +kernel
theorem dX3_reduce_1 : decode cX3_reduce 1 = .ok (.istore_n 3, 1) := by decide +kernel
theorem dX3_reduce_2 : decode cX3_reduce 2 = .ok (.iload_n 3, 1) := by decide +kernel
theorem dX3_reduce_3 : decode cX3_reduce 3 = .ok (.iload_n 1, 1) := by decide +kernel
theorem dX3_reduce_4 : decode cX3_reduce 4 = .ok (.if_icmp .ge 103, 3) := by decide +kernel
theorem dX3_reduce_7 : decode cX3_reduce 7 = .ok (.aload_n 0, 1) := by decide +kernel
theorem dX3_reduce_8 : decode cX3_reduce 8 = .ok (.getfield 18, 3) := by decide +kernel
theorem dX3_reduce_11 : decode cX3_reduce 11 = .ok (.iload_n 3, 1) := by decide +kernel
theorem dX3_reduce_12 : decode cX3_reduce 12 = .ok (.iaload, 1) := by decide +kernel
theorem dX3_reduce_13 : decode cX3_reduce 13 = .ok (.ifCond .ne 6, 3) := by decide +kernel
theorem dX3_reduce_16 : decode cX3_reduce 16 = .ok (.goto 85, 3) := by decide +kernel
theorem dX3_reduce_19 : decode cX3_reduce 19 = .ok (.aload_n 0, 1) := by decide +kernel
theorem dX3_reduce_20 : decode cX3_reduce 20 = .ok (.getfield 15, 3) := by decide +kernel
theorem dX3_reduce_23 : decode cX3_reduce 23 = .ok (.iload_n 3, 1) := by decide +kernel
theorem dX3_reduce_24 : decode cX3_reduce 24 = .ok (.bipush 35, 2) := by decide +kernel
theorem dX3_reduce_26 : decode cX3_reduce 26 = .ok (.imul, 1) := by decide +kernel
theorem dX3_reduce_27 : decode cX3_reduce 27 = .ok (.iload_n 3, 1) := by decide +kernel
theorem dX3_reduce_28 : decode cX3_reduce 28 = .ok (.iadd, 1) := by decide +kernel
theorem dX3_reduce_29 : decode cX3_reduce 29 = .ok (.iaload, 1) := by decide +kernel
theorem dX3_reduce_30 : decode cX3_reduce 30 = .ok (.ifCond .ne 12, 3) := by decide +kernel
theorem dX3_reduce_33 : decode cX3_reduce 33 = .ok (.aload_n 0, 1) := by decide +kernel
theorem dX3_reduce_34 : decode cX3_reduce 34 = .ok (.iload_n 3, 1) := by decide +kernel
theorem dX3_reduce_35 : decode cX3_reduce 35 = .ok (.iload_n 1, 1) := by decide +kernel
theorem dX3_reduce_36 : decode cX3_reduce 36 = .ok (.iload_n 2, 1) := by decide +kernel
theorem dX3_reduce_37 : decode cX3_reduce 37 = .ok (.invokevirtual 67, 3) := by decide +kernel
theorem dX3_reduce_40 : decode cX3_reduce 40 = .ok (.iconst 1, 1) := by decide +kernel
theorem dX3_reduce_41 : decode cX3_reduce 41 = .ok (.ireturn, 1) := by decide +kernel
theorem dX3_reduce_42 : decode cX3_reduce 42 = .ok (.iload_n 2, 1) := by decide +kernel
theorem dX3_reduce_43 : decode cX3_reduce 43 = .ok (.aload_n 0, 1) := by decide +kernel
theorem dX3_reduce_44 : decode cX3_reduce 44 = .ok (.getfield 18, 3) := by decide +kernel
theorem dX3_reduce_47 : decode cX3_reduce 47 = .ok (.iload_n 3, 1) := by decide +kernel
theorem dX3_reduce_48 : decode cX3_reduce 48 = .ok (.iaload, 1) := by decide +kernel
theorem dX3_reduce_49 : decode cX3_reduce 49 = .ok (.isub, 1) := by decide +kernel
theorem dX3_reduce_50 : decode cX3_reduce 50 = .ok (.istore 4, 2) := by decide +kernel
theorem dX3_reduce_52 : decode cX3_reduce 52 = .ok (.iload_n 3, 1) := by decide +kernel
theorem dX3_reduce_53 : decode cX3_reduce 53 = .ok (.istore 5, 2) := by decide +kernel
theorem dX3_reduce_55 : decode cX3_reduce 55 = .ok (.iload 5, 2) := by decide +kernel
theorem dX3_reduce_57 : decode cX3_reduce 57 = .ok (.iload_n 1, 1) := by decide +kernel
theorem dX3_reduce_58 : decode cX3_reduce 58 = .ok (.if_icmp .ge 43, 3) := by decide +kernel
theorem dX3_reduce_61 : decode cX3_reduce 61 = .ok (.aload_n 0, 1) := by decide +kernel
theorem dX3_reduce_62 : decode cX3_reduce 62 = .ok (.getfield 18, 3) := by decide +kernel
theorem dX3_reduce_65 : decode cX3_reduce 65 = .ok (.iload 5, 2) := by decide +kernel
theorem dX3_reduce_67 : decode cX3_reduce 67 = .ok (.aload_n 0, 1) := by decide +kernel
theorem dX3_reduce_68 : decode cX3_reduce 68 = .ok (.getfield 18, 3) := by decide +kernel
theorem dX3_reduce_71 : decode cX3_reduce 71 = .ok (.iload 5, 2) := by decide +kernel
theorem dX3_reduce_73 : decode cX3_reduce 73 = .ok (.iaload, 1) := by decide +kernel
theorem dX3_reduce_74 : decode cX3_reduce 74 = .ok (.iload 4, 2) := by decide +kernel
theorem dX3_reduce_76 : decode cX3_reduce 76 = .ok (.aload_n 0, 1) := by decide +kernel
theorem dX3_reduce_77 : decode cX3_reduce 77 = .ok (.getfield 15, 3) := by decide +kernel
theorem dX3_reduce_80 : decode cX3_reduce 80 = .ok (.iload_n 3, 1) := by decide +kernel
theorem dX3_reduce_81 : decode cX3_reduce 81 = .ok (.bipush 35, 2) := by decide +kernel
theorem dX3_reduce_83 : decode cX3_reduce 83 = .ok (.imul, 1) := by decide +kernel
theorem dX3_reduce_84 : decode cX3_reduce 84 = .ok (.iload 5, 2) := by decide +kernel
theorem dX3_reduce_86 : decode cX3_reduce 86 = .ok (.iadd, 1) := by decide +kernel
theorem dX3_reduce_87 : decode cX3_reduce 87 = .ok (.iaload, 1) := by decide +kernel
theorem dX3_reduce_88 : decode cX3_reduce 88 = .ok (.imul, 1) := by decide +kernel
theorem dX3_reduce_89 : decode cX3_reduce 89 = .ok (.iadd, 1) := by decide +kernel
theorem dX3_reduce_90 : decode cX3_reduce 90 = .ok (.iload_n 2, 1) := by decide +kernel
theorem dX3_reduce_91 : decode cX3_reduce 91 = .ok (.invokestatic 71, 3) := by decide +kernel
theorem dX3_reduce_94 : decode cX3_reduce 94 = .ok (.iastore, 1) := by decide +kernel
theorem dX3_reduce_95 : decode cX3_reduce 95 = .ok (.iinc 5 1, 3) := by decide +kernel
theorem dX3_reduce_98 : decode cX3_reduce 98 = .ok (.goto (-43), 3) := by decide +kernel
theorem dX3_reduce_101 : decode cX3_reduce 101 = .ok (.iinc 3 1, 3) := by decide +kernel
theorem dX3_reduce_104 : decode cX3_reduce 104 = .ok (.goto (-102), 3) := by decide +kernel
theorem dX3_reduce_107 : decode cX3_reduce 107 = .ok (.iconst 0, 1) := by decide +kernel
theorem dX3_reduce_108 : decode cX3_reduce 108 = .ok (.ireturn, 1) := by decide +kernel
set_option maxRecDepth 20000 in
theorem ggX3_stand_X3_inverse : GoodIn wsX3_stand wsX3_inverse := goodIn_r _ [6, 7, 8, 5, 9] (by decide +kernel) (by decide +kernel)
set_option maxRecDepth 20000 in
theorem gX3_stand_X3_inverse : GoodIn wsX3_stand (va_wsS RX3 74 yX3_inverse wsX3_inverse) := goodIn_app (goodIn_of _ (by decide +kernel)) ggX3_stand_X3_inverse
set_option maxRecDepth 20000 in
theorem ggX3_stand_X3_remainder : GoodIn wsX3_stand wsX3_remainder := goodIn_r _ [9] (by decide +kernel) (by decide +kernel)
set_option maxRecDepth 20000 in
theorem gX3_stand_X3_remainder : GoodIn wsX3_stand (va_wsS RX3 71 yX3_remainder wsX3_remainder) := goodIn_app (goodIn_of _ (by decide +kernel)) ggX3_stand_X3_remainder
theorem dX3_stand_0 : decode cX3_stand 0 = .ok (.aload_n 0, 1) := by decide +kernel
theorem dX3_stand_1 : decode cX3_stand 1 = .ok (.getfield 18, 3) := by decide +kernel
theorem dX3_stand_4 : decode cX3_stand 4 = .ok (.iload_n 1, 1) := by decide +kernel
theorem dX3_stand_5 : decode cX3_stand 5 = .ok (.iaload, 1) := by decide +kernel
theorem dX3_stand_6 : decode cX3_stand 6 = .ok (.iload_n 3, 1) := by decide +kernel
theorem dX3_stand_7 : decode cX3_stand 7 = .ok (.invokestatic 74, 3) := by decide +kernel
theorem dX3_stand_10 : decode cX3_stand 10 = .ok (.istore 4, 2) := by decide +kernel
theorem dX3_stand_12 : decode cX3_stand 12 = .ok (.iload_n 1, 1) := by decide +kernel
theorem dX3_stand_13 : decode cX3_stand 13 = .ok (.istore 5, 2) := by decide +kernel
theorem dX3_stand_15 : decode cX3_stand 15 = .ok (.iload 5, 2) := by decide +kernel
theorem dX3_stand_17 : decode cX3_stand 17 = .ok (.iload_n 2, 1) := by decide +kernel
theorem dX3_stand_18 : decode cX3_stand 18 = .ok (.if_icmp .ge 35, 3) := by decide +kernel
theorem dX3_stand_21 : decode cX3_stand 21 = .ok (.aload_n 0, 1) := by decide +kernel
theorem dX3_stand_22 : decode cX3_stand 22 = .ok (.getfield 15, 3) := by decide +kernel
theorem dX3_stand_25 : decode cX3_stand 25 = .ok (.iload_n 1, 1) := by decide +kernel
theorem dX3_stand_26 : decode cX3_stand 26 = .ok (.bipush 35, 2) := by decide +kernel
theorem dX3_stand_28 : decode cX3_stand 28 = .ok (.imul, 1) := by decide +kernel
theorem dX3_stand_29 : decode cX3_stand 29 = .ok (.iload 5, 2) := by decide +kernel
theorem dX3_stand_31 : decode cX3_stand 31 = .ok (.iadd, 1) := by decide +kernel
theorem dX3_stand_32 : decode cX3_stand 32 = .ok (.aload_n 0, 1) := by decide +kernel
theorem dX3_stand_33 : decode cX3_stand 33 = .ok (.getfield 18, 3) := by decide +kernel
theorem dX3_stand_36 : decode cX3_stand 36 = .ok (.iload 5, 2) := by decide +kernel
theorem dX3_stand_38 : decode cX3_stand 38 = .ok (.iaload, 1) := by decide +kernel
theorem dX3_stand_39 : decode cX3_stand 39 = .ok (.iload 4, 2) := by decide +kernel
theorem dX3_stand_41 : decode cX3_stand 41 = .ok (.imul, 1) := by decide +kernel
theorem dX3_stand_42 : decode cX3_stand 42 = .ok (.iload_n 3, 1) := by decide +kernel
theorem dX3_stand_43 : decode cX3_stand 43 = .ok (.invokestatic 71, 3) := by decide +kernel
theorem dX3_stand_46 : decode cX3_stand 46 = .ok (.iastore, 1) := by decide +kernel
theorem dX3_stand_47 : decode cX3_stand 47 = .ok (.iinc 5 1, 3) := by decide +kernel
theorem dX3_stand_50 : decode cX3_stand 50 = .ok (.goto (-35), 3) := by decide +kernel
theorem dX3_stand_53 : decode cX3_stand 53 = .ok (.return_, 1) := by decide +kernel
set_option maxRecDepth 20000 in
theorem ggX3_inverse_X3_remainder : GoodIn wsX3_inverse wsX3_remainder := goodIn_r _ [4] (by decide +kernel) (by decide +kernel)
set_option maxRecDepth 20000 in
theorem gX3_inverse_X3_remainder : GoodIn wsX3_inverse (va_wsS RX3 71 yX3_remainder wsX3_remainder) := goodIn_app (goodIn_of _ (by decide +kernel)) ggX3_inverse_X3_remainder
theorem dX3_inverse_0 : decode cX3_inverse 0 = .ok (.iconst 1, 1) := by decide +kernel
theorem dX3_inverse_1 : decode cX3_inverse 1 = .ok (.istore_n 2, 1) := by decide +kernel
theorem dX3_inverse_2 : decode cX3_inverse 2 = .ok (.iload_n 2, 1) := by decide +kernel
theorem dX3_inverse_3 : decode cX3_inverse 3 = .ok (.iload_n 1, 1) := by decide +kernel
theorem dX3_inverse_4 : decode cX3_inverse 4 = .ok (.if_icmp .ge 22, 3) := by decide +kernel
theorem dX3_inverse_7 : decode cX3_inverse 7 = .ok (.iload_n 0, 1) := by decide +kernel
theorem dX3_inverse_8 : decode cX3_inverse 8 = .ok (.iload_n 2, 1) := by decide +kernel
theorem dX3_inverse_9 : decode cX3_inverse 9 = .ok (.imul, 1) := by decide +kernel
theorem dX3_inverse_10 : decode cX3_inverse 10 = .ok (.iload_n 1, 1) := by decide +kernel
theorem dX3_inverse_11 : decode cX3_inverse 11 = .ok (.invokestatic 71, 3) := by decide +kernel
theorem dX3_inverse_14 : decode cX3_inverse 14 = .ok (.iconst 1, 1) := by decide +kernel
theorem dX3_inverse_15 : decode cX3_inverse 15 = .ok (.if_icmp .ne 5, 3) := by decide +kernel
theorem dX3_inverse_18 : decode cX3_inverse 18 = .ok (.iload_n 2, 1) := by decide +kernel
theorem dX3_inverse_19 : decode cX3_inverse 19 = .ok (.ireturn, 1) := by decide +kernel
theorem dX3_inverse_20 : decode cX3_inverse 20 = .ok (.iinc 2 1, 3) := by decide +kernel
theorem dX3_inverse_23 : decode cX3_inverse 23 = .ok (.goto (-21), 3) := by decide +kernel
theorem dX3_inverse_26 : decode cX3_inverse 26 = .ok (.iconst 0, 1) := by decide +kernel
theorem dX3_inverse_27 : decode cX3_inverse 27 = .ok (.ireturn, 1) := by decide +kernel
theorem dX3_remainder_0 : decode cX3_remainder 0 = .ok (.iload_n 1, 1) := by decide +kernel
theorem dX3_remainder_1 : decode cX3_remainder 1 = .ok (.ifCond .le 9, 3) := by decide +kernel
theorem dX3_remainder_4 : decode cX3_remainder 4 = .ok (.iload_n 0, 1) := by decide +kernel
theorem dX3_remainder_5 : decode cX3_remainder 5 = .ok (.iload_n 1, 1) := by decide +kernel
theorem dX3_remainder_6 : decode cX3_remainder 6 = .ok (.irem, 1) := by decide +kernel
theorem dX3_remainder_7 : decode cX3_remainder 7 = .ok (.goto 4, 3) := by decide +kernel
theorem dX3_remainder_10 : decode cX3_remainder 10 = .ok (.iconst 0, 1) := by decide +kernel
theorem dX3_remainder_11 : decode cX3_remainder 11 = .ok (.ireturn, 1) := by decide +kernel
theorem dX4_init_0 : decode cX4_init 0 = .ok (.aload_n 0, 1) := by decide +kernel
theorem dX4_init_1 : decode cX4_init 1 = .ok (.invokespecial 3, 3) := by decide +kernel
theorem dX4_init_4 : decode cX4_init 4 = .ok (.aload_n 0, 1) := by decide +kernel
theorem dX4_init_5 : decode cX4_init 5 = .ok (.bipush 9, 2) := by decide +kernel
theorem dX4_init_7 : decode cX4_init 7 = .ok (.newarray .int, 2) := by decide +kernel
theorem dX4_init_9 : decode cX4_init 9 = .ok (.putfield 9, 3) := by decide +kernel
theorem dX4_init_12 : decode cX4_init 12 = .ok (.aload_n 0, 1) := by decide +kernel
theorem dX4_init_13 : decode cX4_init 13 = .ok (.bipush 9, 2) := by decide +kernel
theorem dX4_init_15 : decode cX4_init 15 = .ok (.newarray .int, 2) := by decide +kernel
theorem dX4_init_17 : decode cX4_init 17 = .ok (.putfield 15, 3) := by decide +kernel
theorem dX4_init_20 : decode cX4_init 20 = .ok (.return_, 1) := by decide +kernel
set_option maxRecDepth 20000 in
theorem ggX4_isLike_X4_lineUp : GoodIn wsX4_isLike wsX4_lineUp := goodIn_r _ [7, 2, 1, 8, 9, 10, 6, 11, 12, 13, 14, 15, 16, 17, 18, 19, 20, 21, 22, 23, 48, 49, 50, 51, 52, 53, 45, 46, 47] (by decide +kernel) (by decide +kernel)
set_option maxRecDepth 20000 in
theorem gX4_isLike_X4_lineUp : GoodIn wsX4_isLike (wsV RX4 18 RX4 yX4_lineUp wsX4_lineUp) := goodIn_app (goodIn_of _ (by decide +kernel)) ggX4_isLike_X4_lineUp
set_option maxRecDepth 20000 in
theorem ggX4_isLike_J6_bitCount_0f7a4 : GoodIn wsX4_isLike wsJ6_bitCount_0f7a4 := goodIn_r _ [20, 21, 22, 23] (by decide +kernel) (by decide +kernel)
set_option maxRecDepth 20000 in
theorem gX4_isLike_J6_bitCount_0f7a4 : GoodIn wsX4_isLike (va_wsS RX4 31 yJ6_bitCount_0f7a4 wsJ6_bitCount_0f7a4) := goodIn_app (goodIn_of _ (by decide +kernel)) ggX4_isLike_J6_bitCount_0f7a4
set_option maxRecDepth 20000 in
theorem ggX4_isLike_X4_canFinish : GoodIn wsX4_isLike wsX4_canFinish := goodIn_r _ [27, 1, 28, 29, 30, 31, 6, 32, 8, 12, 13, 33, 34, 35, 36, 37, 38, 14, 15, 16, 17, 18, 19, 20, 21, 22, 23, 39, 40, 41, 42, 43, 44, 24, 25, 26, 45, 46, 47, 48, 49, 50, 51, 52, 53] (by decide +kernel) (by decide +kernel)
set_option maxRecDepth 20000 in
theorem gX4_isLike_X4_canFinish : GoodIn wsX4_isLike (wsV RX4 37 RX4 yX4_canFinish wsX4_canFinish) := goodIn_app (goodIn_of _ (by decide +kernel)) ggX4_isLike_X4_canFinish
theorem dX4_isLike_0 : decode cX4_isLike 0 = .ok (.aload_n 0, 1) := by decide +kernel
theorem dX4_isLike_1 : decode cX4_isLike 1 = .ok (.aload_n 1, 1) := by decide +kernel
theorem dX4_isLike_2 : decode cX4_isLike 2 = .ok (.invokevirtual 18, 3) := by decide +kernel
theorem dX4_isLike_5 : decode cX4_isLike 5 = .ok (.aload_n 0, 1) := by decide +kernel
theorem dX4_isLike_6 : decode cX4_isLike 6 = .ok (.getfield 22, 3) := by decide +kernel
theorem dX4_isLike_9 : decode cX4_isLike 9 = .ok (.aload_n 2, 1) := by decide +kernel
theorem dX4_isLike_10 : decode cX4_isLike 10 = .ok (.getfield 26, 3) := by decide +kernel
theorem dX4_isLike_13 : decode cX4_isLike 13 = .ok (.invokestatic 31, 3) := by decide +kernel
theorem dX4_isLike_16 : decode cX4_isLike 16 = .ok (.if_icmp .ne 18, 3) := by decide +kernel
theorem dX4_isLike_19 : decode cX4_isLike 19 = .ok (.aload_n 0, 1) := by decide +kernel
theorem dX4_isLike_20 : decode cX4_isLike 20 = .ok (.aload_n 1, 1) := by decide +kernel
theorem dX4_isLike_21 : decode cX4_isLike 21 = .ok (.aload_n 2, 1) := by decide +kernel
theorem dX4_isLike_22 : decode cX4_isLike 22 = .ok (.iconst 0, 1) := by decide +kernel
theorem dX4_isLike_23 : decode cX4_isLike 23 = .ok (.iconst 0, 1) := by decide +kernel
theorem dX4_isLike_24 : decode cX4_isLike 24 = .ok (.invokevirtual 37, 3) := by decide +kernel
theorem dX4_isLike_27 : decode cX4_isLike 27 = .ok (.ifCond .eq 7, 3) := by decide +kernel
theorem dX4_isLike_30 : decode cX4_isLike 30 = .ok (.iconst 1, 1) := by decide +kernel
theorem dX4_isLike_31 : decode cX4_isLike 31 = .ok (.goto 4, 3) := by decide +kernel
theorem dX4_isLike_34 : decode cX4_isLike 34 = .ok (.iconst 0, 1) := by decide +kernel
theorem dX4_isLike_35 : decode cX4_isLike 35 = .ok (.ireturn, 1) := by decide +kernel
set_option maxRecDepth 20000 in
theorem ggX4_selvesOf_X4_lineUp : GoodIn wsX4_selvesOf wsX4_lineUp := goodIn_r _ [8, 9, 1, 2, 10, 11, 7, 12, 13, 14, 15, 16, 17, 18, 19, 20, 21, 22, 23, 24, 52, 53, 54, 55, 56, 57, 49, 50, 51] (by decide +kernel) (by decide +kernel)
set_option maxRecDepth 20000 in
theorem gX4_selvesOf_X4_lineUp : GoodIn wsX4_selvesOf (wsV RX4 18 RX4 yX4_lineUp wsX4_lineUp) := goodIn_app (goodIn_of _ (by decide +kernel)) ggX4_selvesOf_X4_lineUp
set_option maxRecDepth 20000 in
theorem ggX4_selvesOf_X4_placesFor : GoodIn wsX4_selvesOf wsX4_placesFor := goodIn_r _ [28, 3, 29, 30, 31, 7, 32, 2, 13, 14, 33, 34, 35, 36, 37, 38, 15, 16, 17, 18, 19, 20, 21, 22, 23, 24, 39, 40, 41, 42, 43, 44, 45, 46, 47, 48, 1, 49, 50, 51, 52, 53, 54, 55, 56, 57] (by decide +kernel) (by decide +kernel)
set_option maxRecDepth 20000 in
theorem gX4_selvesOf_X4_placesFor : GoodIn wsX4_selvesOf (wsV RX4 41 RX4 yX4_placesFor wsX4_placesFor) := goodIn_app (goodIn_of _ (by decide +kernel)) ggX4_selvesOf_X4_placesFor
theorem dX4_selvesOf_0 : decode cX4_selvesOf 0 = .ok (.aload_n 0, 1) := by decide +kernel
theorem dX4_selvesOf_1 : decode cX4_selvesOf 1 = .ok (.aload_n 1, 1) := by decide +kernel
theorem dX4_selvesOf_2 : decode cX4_selvesOf 2 = .ok (.invokevirtual 18, 3) := by decide +kernel
theorem dX4_selvesOf_5 : decode cX4_selvesOf 5 = .ok (.iconst 1, 1) := by decide +kernel
theorem dX4_selvesOf_6 : decode cX4_selvesOf 6 = .ok (.istore_n 2, 1) := by decide +kernel
theorem dX4_selvesOf_7 : decode cX4_selvesOf 7 = .ok (.iconst 0, 1) := by decide +kernel
theorem dX4_selvesOf_8 : decode cX4_selvesOf 8 = .ok (.istore_n 3, 1) := by decide +kernel
theorem dX4_selvesOf_9 : decode cX4_selvesOf 9 = .ok (.iconst 0, 1) := by decide +kernel
theorem dX4_selvesOf_10 : decode cX4_selvesOf 10 = .ok (.istore 4, 2) := by decide +kernel
theorem dX4_selvesOf_12 : decode cX4_selvesOf 12 = .ok (.iload 4, 2) := by decide +kernel
theorem dX4_selvesOf_14 : decode cX4_selvesOf 14 = .ok (.aload_n 0, 1) := by decide +kernel
theorem dX4_selvesOf_15 : decode cX4_selvesOf 15 = .ok (.getfield 22, 3) := by decide +kernel
theorem dX4_selvesOf_18 : decode cX4_selvesOf 18 = .ok (.if_icmp .ge 52, 3) := by decide +kernel
theorem dX4_selvesOf_21 : decode cX4_selvesOf 21 = .ok (.iload 4, 2) := by decide +kernel
theorem dX4_selvesOf_23 : decode cX4_selvesOf 23 = .ok (.bipush 9, 2) := by decide +kernel
theorem dX4_selvesOf_25 : decode cX4_selvesOf 25 = .ok (.if_icmp .ge 45, 3) := by decide +kernel
theorem dX4_selvesOf_28 : decode cX4_selvesOf 28 = .ok (.aload_n 0, 1) := by decide +kernel
theorem dX4_selvesOf_29 : decode cX4_selvesOf 29 = .ok (.getfield 15, 3) := by decide +kernel
theorem dX4_selvesOf_32 : decode cX4_selvesOf 32 = .ok (.iload 4, 2) := by decide +kernel
theorem dX4_selvesOf_34 : decode cX4_selvesOf 34 = .ok (.iaload, 1) := by decide +kernel
theorem dX4_selvesOf_35 : decode cX4_selvesOf 35 = .ok (.istore 5, 2) := by decide +kernel
theorem dX4_selvesOf_37 : decode cX4_selvesOf 37 = .ok (.iload_n 2, 1) := by decide +kernel
theorem dX4_selvesOf_38 : decode cX4_selvesOf 38 = .ok (.aload_n 0, 1) := by decide +kernel
theorem dX4_selvesOf_39 : decode cX4_selvesOf 39 = .ok (.aload_n 1, 1) := by decide +kernel
theorem dX4_selvesOf_40 : decode cX4_selvesOf 40 = .ok (.iload 4, 2) := by decide +kernel
theorem dX4_selvesOf_42 : decode cX4_selvesOf 42 = .ok (.iload_n 3, 1) := by decide +kernel
theorem dX4_selvesOf_43 : decode cX4_selvesOf 43 = .ok (.invokevirtual 41, 3) := by decide +kernel
theorem dX4_selvesOf_46 : decode cX4_selvesOf 46 = .ok (.imul, 1) := by decide +kernel
theorem dX4_selvesOf_47 : decode cX4_selvesOf 47 = .ok (.istore_n 2, 1) := by decide +kernel
theorem dX4_selvesOf_48 : decode cX4_selvesOf 48 = .ok (.aload_n 0, 1) := by decide +kernel
theorem dX4_selvesOf_49 : decode cX4_selvesOf 49 = .ok (.getfield 9, 3) := by decide +kernel
theorem dX4_selvesOf_52 : decode cX4_selvesOf 52 = .ok (.iload 4, 2) := by decide +kernel
theorem dX4_selvesOf_54 : decode cX4_selvesOf 54 = .ok (.iload 5, 2) := by decide +kernel
theorem dX4_selvesOf_56 : decode cX4_selvesOf 56 = .ok (.iastore, 1) := by decide +kernel
theorem dX4_selvesOf_57 : decode cX4_selvesOf 57 = .ok (.iload_n 3, 1) := by decide +kernel
theorem dX4_selvesOf_58 : decode cX4_selvesOf 58 = .ok (.iconst 1, 1) := by decide +kernel
theorem dX4_selvesOf_59 : decode cX4_selvesOf 59 = .ok (.iload 5, 2) := by decide +kernel
theorem dX4_selvesOf_61 : decode cX4_selvesOf 61 = .ok (.ishl, 1) := by decide +kernel
theorem dX4_selvesOf_62 : decode cX4_selvesOf 62 = .ok (.ior, 1) := by decide +kernel
theorem dX4_selvesOf_63 : decode cX4_selvesOf 63 = .ok (.istore_n 3, 1) := by decide +kernel
theorem dX4_selvesOf_64 : decode cX4_selvesOf 64 = .ok (.iinc 4 1, 3) := by decide +kernel
theorem dX4_selvesOf_67 : decode cX4_selvesOf 67 = .ok (.goto (-55), 3) := by decide +kernel
theorem dX4_selvesOf_70 : decode cX4_selvesOf 70 = .ok (.iload_n 2, 1) := by decide +kernel
theorem dX4_selvesOf_71 : decode cX4_selvesOf 71 = .ok (.ireturn, 1) := by decide +kernel
set_option maxRecDepth 20000 in
theorem ggX4_lineUp_X4_nearest : GoodIn wsX4_lineUp wsX4_nearest := goodIn_r _ [7, 8, 9, 10, 11, 12, 13, 14, 15, 16, 17, 18, 19, 20, 21, 22, 23, 24, 25] (by decide +kernel) (by decide +kernel)
set_option maxRecDepth 20000 in
theorem gX4_lineUp_X4_nearest : GoodIn wsX4_lineUp (va_wsS RX4 45 yX4_nearest wsX4_nearest) := goodIn_app (goodIn_of _ (by decide +kernel)) ggX4_lineUp_X4_nearest
theorem dX4_lineUp_0 : decode cX4_lineUp 0 = .ok (.aload_n 1, 1) := by decide +kernel
theorem dX4_lineUp_1 : decode cX4_lineUp 1 = .ok (.getfield 26, 3) := by decide +kernel
theorem dX4_lineUp_4 : decode cX4_lineUp 4 = .ok (.istore_n 2, 1) := by decide +kernel
theorem dX4_lineUp_5 : decode cX4_lineUp 5 = .ok (.aload_n 0, 1) := by decide +kernel
theorem dX4_lineUp_6 : decode cX4_lineUp 6 = .ok (.iconst 0, 1) := by decide +kernel
theorem dX4_lineUp_7 : decode cX4_lineUp 7 = .ok (.putfield 22, 3) := by decide +kernel
theorem dX4_lineUp_10 : decode cX4_lineUp 10 = .ok (.iconst 0, 1) := by decide +kernel
theorem dX4_lineUp_11 : decode cX4_lineUp 11 = .ok (.istore_n 3, 1) := by decide +kernel
theorem dX4_lineUp_12 : decode cX4_lineUp 12 = .ok (.iload_n 3, 1) := by decide +kernel
theorem dX4_lineUp_13 : decode cX4_lineUp 13 = .ok (.bipush 9, 2) := by decide +kernel
theorem dX4_lineUp_15 : decode cX4_lineUp 15 = .ok (.if_icmp .ge 52, 3) := by decide +kernel
theorem dX4_lineUp_18 : decode cX4_lineUp 18 = .ok (.aload_n 1, 1) := by decide +kernel
theorem dX4_lineUp_19 : decode cX4_lineUp 19 = .ok (.iload_n 2, 1) := by decide +kernel
theorem dX4_lineUp_20 : decode cX4_lineUp 20 = .ok (.invokestatic 45, 3) := by decide +kernel
theorem dX4_lineUp_23 : decode cX4_lineUp 23 = .ok (.istore 4, 2) := by decide +kernel
theorem dX4_lineUp_25 : decode cX4_lineUp 25 = .ok (.iload 4, 2) := by decide +kernel
theorem dX4_lineUp_27 : decode cX4_lineUp 27 = .ok (.iconst (-1), 1) := by decide +kernel
theorem dX4_lineUp_28 : decode cX4_lineUp 28 = .ok (.if_icmp .eq 33, 3) := by decide +kernel
theorem dX4_lineUp_31 : decode cX4_lineUp 31 = .ok (.aload_n 0, 1) := by decide +kernel
theorem dX4_lineUp_32 : decode cX4_lineUp 32 = .ok (.getfield 15, 3) := by decide +kernel
theorem dX4_lineUp_35 : decode cX4_lineUp 35 = .ok (.aload_n 0, 1) := by decide +kernel
theorem dX4_lineUp_36 : decode cX4_lineUp 36 = .ok (.getfield 22, 3) := by decide +kernel
theorem dX4_lineUp_39 : decode cX4_lineUp 39 = .ok (.iload 4, 2) := by decide +kernel
theorem dX4_lineUp_41 : decode cX4_lineUp 41 = .ok (.iastore, 1) := by decide +kernel
theorem dX4_lineUp_42 : decode cX4_lineUp 42 = .ok (.aload_n 0, 1) := by decide +kernel
theorem dX4_lineUp_43 : decode cX4_lineUp 43 = .ok (.dup, 1) := by decide +kernel
theorem dX4_lineUp_44 : decode cX4_lineUp 44 = .ok (.getfield 22, 3) := by decide +kernel
theorem dX4_lineUp_47 : decode cX4_lineUp 47 = .ok (.iconst 1, 1) := by decide +kernel
theorem dX4_lineUp_48 : decode cX4_lineUp 48 = .ok (.iadd, 1) := by decide +kernel
theorem dX4_lineUp_49 : decode cX4_lineUp 49 = .ok (.putfield 22, 3) := by decide +kernel
theorem dX4_lineUp_52 : decode cX4_lineUp 52 = .ok (.iload_n 2, 1) := by decide +kernel
theorem dX4_lineUp_53 : decode cX4_lineUp 53 = .ok (.iconst 1, 1) := by decide +kernel
theorem dX4_lineUp_54 : decode cX4_lineUp 54 = .ok (.iload 4, 2) := by decide +kernel
theorem dX4_lineUp_56 : decode cX4_lineUp 56 = .ok (.ishl, 1) := by decide +kernel
theorem dX4_lineUp_57 : decode cX4_lineUp 57 = .ok (.iconst (-1), 1) := by decide +kernel
theorem dX4_lineUp_58 : decode cX4_lineUp 58 = .ok (.ixor, 1) := by decide +kernel
theorem dX4_lineUp_59 : decode cX4_lineUp 59 = .ok (.iand, 1) := by decide +kernel
theorem dX4_lineUp_60 : decode cX4_lineUp 60 = .ok (.istore_n 2, 1) := by decide +kernel
theorem dX4_lineUp_61 : decode cX4_lineUp 61 = .ok (.iinc 3 1, 3) := by decide +kernel
theorem dX4_lineUp_64 : decode cX4_lineUp 64 = .ok (.goto (-52), 3) := by decide +kernel
theorem dX4_lineUp_67 : decode cX4_lineUp 67 = .ok (.return_, 1) := by decide +kernel
set_option maxRecDepth 20000 in
theorem ggX4_nearest_X9_isIn : GoodIn wsX4_nearest wsX9_isIn := goodIn_r _ [5] (by decide +kernel) (by decide +kernel)
set_option maxRecDepth 20000 in
theorem gX4_nearest_X9_isIn_n49 : GoodIn wsX4_nearest (wsX9_isIn) := ggX4_nearest_X9_isIn
set_option maxRecDepth 20000 in
theorem ggX4_nearest_J6_bitCount_0f7a4 : GoodIn wsX4_nearest wsJ6_bitCount_0f7a4 := goodIn_r _ [9, 10, 11, 12] (by decide +kernel) (by decide +kernel)
set_option maxRecDepth 20000 in
theorem gX4_nearest_J6_bitCount_0f7a4 : GoodIn wsX4_nearest (va_wsS RX4 31 yJ6_bitCount_0f7a4 wsJ6_bitCount_0f7a4) := goodIn_app (goodIn_of _ (by decide +kernel)) ggX4_nearest_J6_bitCount_0f7a4
theorem dX4_nearest_0 : decode cX4_nearest 0 = .ok (.iconst (-1), 1) := by decide +kernel
theorem dX4_nearest_1 : decode cX4_nearest 1 = .ok (.istore_n 2, 1) := by decide +kernel
theorem dX4_nearest_2 : decode cX4_nearest 2 = .ok (.iconst (-1), 1) := by decide +kernel
theorem dX4_nearest_3 : decode cX4_nearest 3 = .ok (.istore_n 3, 1) := by decide +kernel
theorem dX4_nearest_4 : decode cX4_nearest 4 = .ok (.iconst 0, 1) := by decide +kernel
theorem dX4_nearest_5 : decode cX4_nearest 5 = .ok (.istore 4, 2) := by decide +kernel
theorem dX4_nearest_7 : decode cX4_nearest 7 = .ok (.iload 4, 2) := by decide +kernel
theorem dX4_nearest_9 : decode cX4_nearest 9 = .ok (.bipush 9, 2) := by decide +kernel
theorem dX4_nearest_11 : decode cX4_nearest 11 = .ok (.if_icmp .ge 54, 3) := by decide +kernel
theorem dX4_nearest_14 : decode cX4_nearest 14 = .ok (.iload_n 1, 1) := by decide +kernel
theorem dX4_nearest_15 : decode cX4_nearest 15 = .ok (.iload 4, 2) := by decide +kernel
theorem dX4_nearest_17 : decode cX4_nearest 17 = .ok (.invokestatic 49, 3) := by decide +kernel
theorem dX4_nearest_20 : decode cX4_nearest 20 = .ok (.ifCond .eq 39, 3) := by decide +kernel
theorem dX4_nearest_23 : decode cX4_nearest 23 = .ok (.aload_n 0, 1) := by decide +kernel
theorem dX4_nearest_24 : decode cX4_nearest 24 = .ok (.getfield 53, 3) := by decide +kernel
theorem dX4_nearest_27 : decode cX4_nearest 27 = .ok (.iload 4, 2) := by decide +kernel
theorem dX4_nearest_29 : decode cX4_nearest 29 = .ok (.iaload, 1) := by decide +kernel
theorem dX4_nearest_30 : decode cX4_nearest 30 = .ok (.aload_n 0, 1) := by decide +kernel
theorem dX4_nearest_31 : decode cX4_nearest 31 = .ok (.getfield 56, 3) := by decide +kernel
theorem dX4_nearest_34 : decode cX4_nearest 34 = .ok (.iload 4, 2) := by decide +kernel
theorem dX4_nearest_36 : decode cX4_nearest 36 = .ok (.iaload, 1) := by decide +kernel
theorem dX4_nearest_37 : decode cX4_nearest 37 = .ok (.ior, 1) := by decide +kernel
theorem dX4_nearest_38 : decode cX4_nearest 38 = .ok (.iload_n 1, 1) := by decide +kernel
theorem dX4_nearest_39 : decode cX4_nearest 39 = .ok (.iconst (-1), 1) := by decide +kernel
theorem dX4_nearest_40 : decode cX4_nearest 40 = .ok (.ixor, 1) := by decide +kernel
theorem dX4_nearest_41 : decode cX4_nearest 41 = .ok (.iand, 1) := by decide +kernel
theorem dX4_nearest_42 : decode cX4_nearest 42 = .ok (.invokestatic 31, 3) := by decide +kernel
theorem dX4_nearest_45 : decode cX4_nearest 45 = .ok (.istore 5, 2) := by decide +kernel
theorem dX4_nearest_47 : decode cX4_nearest 47 = .ok (.iload 5, 2) := by decide +kernel
theorem dX4_nearest_49 : decode cX4_nearest 49 = .ok (.iload_n 3, 1) := by decide +kernel
theorem dX4_nearest_50 : decode cX4_nearest 50 = .ok (.if_icmp .le 9, 3) := by decide +kernel
theorem dX4_nearest_53 : decode cX4_nearest 53 = .ok (.iload 5, 2) := by decide +kernel
theorem dX4_nearest_55 : decode cX4_nearest 55 = .ok (.istore_n 3, 1) := by decide +kernel
theorem dX4_nearest_56 : decode cX4_nearest 56 = .ok (.iload 4, 2) := by decide +kernel
theorem dX4_nearest_58 : decode cX4_nearest 58 = .ok (.istore_n 2, 1) := by decide +kernel
theorem dX4_nearest_59 : decode cX4_nearest 59 = .ok (.iinc 4 1, 3) := by decide +kernel
theorem dX4_nearest_62 : decode cX4_nearest 62 = .ok (.goto (-55), 3) := by decide +kernel
theorem dX4_nearest_65 : decode cX4_nearest 65 = .ok (.iload_n 2, 1) := by decide +kernel
theorem dX4_nearest_66 : decode cX4_nearest 66 = .ok (.ireturn, 1) := by decide +kernel
set_option maxRecDepth 20000 in
theorem ggX4_placesFor_X4_fits : GoodIn wsX4_placesFor wsX4_fits := goodIn_r _ [6, 7, 8, 9, 1, 10, 11, 12, 13, 14, 15, 16, 17, 18, 19, 20, 21, 22, 23, 24, 25, 26, 27, 28, 29, 30, 31, 37, 38, 39, 40, 41, 42, 43, 44, 45] (by decide +kernel) (by decide +kernel)
set_option maxRecDepth 20000 in
theorem gX4_placesFor_X4_fits : GoodIn wsX4_placesFor (wsV RX4 59 RX4 yX4_fits wsX4_fits) := goodIn_app (goodIn_of _ (by decide +kernel)) ggX4_placesFor_X4_fits
set_option maxRecDepth 20000 in
theorem ggX4_placesFor_X4_canFinish : GoodIn wsX4_placesFor wsX4_canFinish := goodIn_r _ [35, 36, 1, 2, 3, 4, 5, 6, 7, 8, 9, 10, 11, 12, 13, 14, 15, 16, 17, 18, 19, 20, 21, 22, 23, 24, 25, 26, 27, 28, 29, 30, 31, 32, 33, 34, 37, 38, 39, 40, 41, 42, 43, 44, 45] (by decide +kernel) (by decide +kernel)
set_option maxRecDepth 20000 in
theorem gX4_placesFor_X4_canFinish : GoodIn wsX4_placesFor (wsV RX4 37 RX4 yX4_canFinish wsX4_canFinish) := goodIn_app (goodIn_of _ (by decide +kernel)) ggX4_placesFor_X4_canFinish
theorem dX4_placesFor_0 : decode cX4_placesFor 0 = .ok (.iconst 0, 1) := by decide +kernel
theorem dX4_placesFor_1 : decode cX4_placesFor 1 = .ok (.istore 4, 2) := by decide +kernel
theorem dX4_placesFor_3 : decode cX4_placesFor 3 = .ok (.iconst 0, 1) := by decide +kernel
theorem dX4_placesFor_4 : decode cX4_placesFor 4 = .ok (.istore 5, 2) := by decide +kernel
theorem dX4_placesFor_6 : decode cX4_placesFor 6 = .ok (.iload 5, 2) := by decide +kernel
theorem dX4_placesFor_8 : decode cX4_placesFor 8 = .ok (.bipush 9, 2) := by decide +kernel
theorem dX4_placesFor_10 : decode cX4_placesFor 10 = .ok (.if_icmp .ge 51, 3) := by decide +kernel
theorem dX4_placesFor_13 : decode cX4_placesFor 13 = .ok (.aload_n 0, 1) := by decide +kernel
theorem dX4_placesFor_14 : decode cX4_placesFor 14 = .ok (.aload_n 1, 1) := by decide +kernel
theorem dX4_placesFor_15 : decode cX4_placesFor 15 = .ok (.iload_n 2, 1) := by decide +kernel
theorem dX4_placesFor_16 : decode cX4_placesFor 16 = .ok (.aload_n 1, 1) := by decide +kernel
theorem dX4_placesFor_17 : decode cX4_placesFor 17 = .ok (.iload 5, 2) := by decide +kernel
theorem dX4_placesFor_19 : decode cX4_placesFor 19 = .ok (.iload_n 3, 1) := by decide +kernel
theorem dX4_placesFor_20 : decode cX4_placesFor 20 = .ok (.invokevirtual 59, 3) := by decide +kernel
theorem dX4_placesFor_23 : decode cX4_placesFor 23 = .ok (.ifCond .eq 32, 3) := by decide +kernel
theorem dX4_placesFor_26 : decode cX4_placesFor 26 = .ok (.aload_n 0, 1) := by decide +kernel
theorem dX4_placesFor_27 : decode cX4_placesFor 27 = .ok (.getfield 9, 3) := by decide +kernel
theorem dX4_placesFor_30 : decode cX4_placesFor 30 = .ok (.iload_n 2, 1) := by decide +kernel
theorem dX4_placesFor_31 : decode cX4_placesFor 31 = .ok (.iload 5, 2) := by decide +kernel
theorem dX4_placesFor_33 : decode cX4_placesFor 33 = .ok (.iastore, 1) := by decide +kernel
theorem dX4_placesFor_34 : decode cX4_placesFor 34 = .ok (.aload_n 0, 1) := by decide +kernel
theorem dX4_placesFor_35 : decode cX4_placesFor 35 = .ok (.aload_n 1, 1) := by decide +kernel
theorem dX4_placesFor_36 : decode cX4_placesFor 36 = .ok (.aload_n 1, 1) := by decide +kernel
theorem dX4_placesFor_37 : decode cX4_placesFor 37 = .ok (.iload_n 2, 1) := by decide +kernel
theorem dX4_placesFor_38 : decode cX4_placesFor 38 = .ok (.iconst 1, 1) := by decide +kernel
theorem dX4_placesFor_39 : decode cX4_placesFor 39 = .ok (.iadd, 1) := by decide +kernel
theorem dX4_placesFor_40 : decode cX4_placesFor 40 = .ok (.iload_n 3, 1) := by decide +kernel
theorem dX4_placesFor_41 : decode cX4_placesFor 41 = .ok (.iconst 1, 1) := by decide +kernel
theorem dX4_placesFor_42 : decode cX4_placesFor 42 = .ok (.iload 5, 2) := by decide +kernel
theorem dX4_placesFor_44 : decode cX4_placesFor 44 = .ok (.ishl, 1) := by decide +kernel
theorem dX4_placesFor_45 : decode cX4_placesFor 45 = .ok (.ior, 1) := by decide +kernel
theorem dX4_placesFor_46 : decode cX4_placesFor 46 = .ok (.invokevirtual 37, 3) := by decide +kernel
theorem dX4_placesFor_49 : decode cX4_placesFor 49 = .ok (.ifCond .eq 6, 3) := by decide +kernel
theorem dX4_placesFor_52 : decode cX4_placesFor 52 = .ok (.iinc 4 1, 3) := by decide +kernel
theorem dX4_placesFor_55 : decode cX4_placesFor 55 = .ok (.iinc 5 1, 3) := by decide +kernel
theorem dX4_placesFor_58 : decode cX4_placesFor 58 = .ok (.goto (-52), 3) := by decide +kernel
theorem dX4_placesFor_61 : decode cX4_placesFor 61 = .ok (.iload 4, 2) := by decide +kernel
theorem dX4_placesFor_63 : decode cX4_placesFor 63 = .ok (.ireturn, 1) := by decide +kernel
set_option maxRecDepth 20000 in
theorem ggX4_canFinish_X4_fits : GoodIn wsX4_canFinish wsX4_fits := goodIn_r _ [7, 8, 9, 10, 2, 11, 12, 13, 14, 15, 16, 17, 18, 19, 20, 21, 22, 23, 24, 25, 26, 27, 28, 29, 30, 31, 32, 36, 37, 38, 39, 40, 41, 42, 43, 44] (by decide +kernel) (by decide +kernel)
set_option maxRecDepth 20000 in
theorem gX4_canFinish_X4_fits : GoodIn wsX4_canFinish (wsV RX4 59 RX4 yX4_fits wsX4_fits) := goodIn_app (goodIn_of _ (by decide +kernel)) ggX4_canFinish_X4_fits
set_option maxRecDepth 20000 in
theorem ggX4_canFinish_X4_canFinish : GoodIn wsX4_canFinish wsX4_canFinish := goodIn_r _ [0, 1, 2, 3, 4, 5, 6, 7, 8, 9, 10, 11, 12, 13, 14, 15, 16, 17, 18, 19, 20, 21, 22, 23, 24, 25, 26, 27, 28, 29, 30, 31, 32, 33, 34, 35, 36, 37, 38, 39, 40, 41, 42, 43, 44] (by decide +kernel) (by decide +kernel)
set_option maxRecDepth 20000 in
theorem gX4_canFinish_X4_canFinish : GoodIn wsX4_canFinish (wsV RX4 37 RX4 yX4_canFinish wsX4_canFinish) := goodIn_app (goodIn_of _ (by decide +kernel)) ggX4_canFinish_X4_canFinish
theorem dX4_canFinish_0 : decode cX4_canFinish 0 = .ok (.iload_n 3, 1) := by decide +kernel
theorem dX4_canFinish_1 : decode cX4_canFinish 1 = .ok (.aload_n 0, 1) := by decide +kernel
theorem dX4_canFinish_2 : decode cX4_canFinish 2 = .ok (.getfield 22, 3) := by decide +kernel
theorem dX4_canFinish_5 : decode cX4_canFinish 5 = .ok (.if_icmp .ge 9, 3) := by decide +kernel
theorem dX4_canFinish_8 : decode cX4_canFinish 8 = .ok (.iload_n 3, 1) := by decide +kernel
theorem dX4_canFinish_9 : decode cX4_canFinish 9 = .ok (.bipush 9, 2) := by decide +kernel
theorem dX4_canFinish_11 : decode cX4_canFinish 11 = .ok (.if_icmp .lt 5, 3) := by decide +kernel
theorem dX4_canFinish_14 : decode cX4_canFinish 14 = .ok (.iconst 1, 1) := by decide +kernel
theorem dX4_canFinish_15 : decode cX4_canFinish 15 = .ok (.ireturn, 1) := by decide +kernel
theorem dX4_canFinish_16 : decode cX4_canFinish 16 = .ok (.iconst 0, 1) := by decide +kernel
theorem dX4_canFinish_17 : decode cX4_canFinish 17 = .ok (.istore 5, 2) := by decide +kernel
theorem dX4_canFinish_19 : decode cX4_canFinish 19 = .ok (.iload 5, 2) := by decide +kernel
theorem dX4_canFinish_21 : decode cX4_canFinish 21 = .ok (.bipush 9, 2) := by decide +kernel
theorem dX4_canFinish_23 : decode cX4_canFinish 23 = .ok (.if_icmp .ge 52, 3) := by decide +kernel
theorem dX4_canFinish_26 : decode cX4_canFinish 26 = .ok (.aload_n 0, 1) := by decide +kernel
theorem dX4_canFinish_27 : decode cX4_canFinish 27 = .ok (.aload_n 1, 1) := by decide +kernel
theorem dX4_canFinish_28 : decode cX4_canFinish 28 = .ok (.iload_n 3, 1) := by decide +kernel
theorem dX4_canFinish_29 : decode cX4_canFinish 29 = .ok (.aload_n 2, 1) := by decide +kernel
theorem dX4_canFinish_30 : decode cX4_canFinish 30 = .ok (.iload 5, 2) := by decide +kernel
theorem dX4_canFinish_32 : decode cX4_canFinish 32 = .ok (.iload 4, 2) := by decide +kernel
theorem dX4_canFinish_34 : decode cX4_canFinish 34 = .ok (.invokevirtual 59, 3) := by decide +kernel
theorem dX4_canFinish_37 : decode cX4_canFinish 37 = .ok (.ifCond .eq 32, 3) := by decide +kernel
theorem dX4_canFinish_40 : decode cX4_canFinish 40 = .ok (.aload_n 0, 1) := by decide +kernel
theorem dX4_canFinish_41 : decode cX4_canFinish 41 = .ok (.getfield 9, 3) := by decide +kernel
theorem dX4_canFinish_44 : decode cX4_canFinish 44 = .ok (.iload_n 3, 1) := by decide +kernel
theorem dX4_canFinish_45 : decode cX4_canFinish 45 = .ok (.iload 5, 2) := by decide +kernel
theorem dX4_canFinish_47 : decode cX4_canFinish 47 = .ok (.iastore, 1) := by decide +kernel
theorem dX4_canFinish_48 : decode cX4_canFinish 48 = .ok (.aload_n 0, 1) := by decide +kernel
theorem dX4_canFinish_49 : decode cX4_canFinish 49 = .ok (.aload_n 1, 1) := by decide +kernel
theorem dX4_canFinish_50 : decode cX4_canFinish 50 = .ok (.aload_n 2, 1) := by decide +kernel
theorem dX4_canFinish_51 : decode cX4_canFinish 51 = .ok (.iload_n 3, 1) := by decide +kernel
theorem dX4_canFinish_52 : decode cX4_canFinish 52 = .ok (.iconst 1, 1) := by decide +kernel
theorem dX4_canFinish_53 : decode cX4_canFinish 53 = .ok (.iadd, 1) := by decide +kernel
theorem dX4_canFinish_54 : decode cX4_canFinish 54 = .ok (.iload 4, 2) := by decide +kernel
theorem dX4_canFinish_56 : decode cX4_canFinish 56 = .ok (.iconst 1, 1) := by decide +kernel
theorem dX4_canFinish_57 : decode cX4_canFinish 57 = .ok (.iload 5, 2) := by decide +kernel
theorem dX4_canFinish_59 : decode cX4_canFinish 59 = .ok (.ishl, 1) := by decide +kernel
theorem dX4_canFinish_60 : decode cX4_canFinish 60 = .ok (.ior, 1) := by decide +kernel
theorem dX4_canFinish_61 : decode cX4_canFinish 61 = .ok (.invokevirtual 37, 3) := by decide +kernel
theorem dX4_canFinish_64 : decode cX4_canFinish 64 = .ok (.ifCond .eq 5, 3) := by decide +kernel
theorem dX4_canFinish_67 : decode cX4_canFinish 67 = .ok (.iconst 1, 1) := by decide +kernel
theorem dX4_canFinish_68 : decode cX4_canFinish 68 = .ok (.ireturn, 1) := by decide +kernel
theorem dX4_canFinish_69 : decode cX4_canFinish 69 = .ok (.iinc 5 1, 3) := by decide +kernel
theorem dX4_canFinish_72 : decode cX4_canFinish 72 = .ok (.goto (-53), 3) := by decide +kernel
theorem dX4_canFinish_75 : decode cX4_canFinish 75 = .ok (.iconst 0, 1) := by decide +kernel
theorem dX4_canFinish_76 : decode cX4_canFinish 76 = .ok (.ireturn, 1) := by decide +kernel
set_option maxRecDepth 20000 in
theorem ggX4_fits_X6_has : GoodIn wsX4_fits wsX6_has := goodIn_r _ [9, 10, 11, 12, 13, 30, 31, 32, 33, 34, 35] (by decide +kernel) (by decide +kernel)
set_option maxRecDepth 20000 in
theorem gX4_fits_X6_has : GoodIn wsX4_fits (wsV RX4 63 RX6 yX6_has wsX6_has) := goodIn_app (goodIn_of _ (by decide +kernel)) ggX4_fits_X6_has
set_option maxRecDepth 20000 in
theorem ggX4_fits_X9_isIn : GoodIn wsX4_fits wsX9_isIn := goodIn_r _ [13] (by decide +kernel) (by decide +kernel)
set_option maxRecDepth 20000 in
theorem gX4_fits_X9_isIn_n49 : GoodIn wsX4_fits (wsX9_isIn) := ggX4_fits_X9_isIn
set_option maxRecDepth 20000 in
theorem ggX4_fits_J6_bitCount_0f7a4 : GoodIn wsX4_fits wsJ6_bitCount_0f7a4 := goodIn_r _ [17, 18, 19, 20] (by decide +kernel) (by decide +kernel)
set_option maxRecDepth 20000 in
theorem gX4_fits_J6_bitCount_0f7a4 : GoodIn wsX4_fits (va_wsS RX4 31 yJ6_bitCount_0f7a4 wsJ6_bitCount_0f7a4) := goodIn_app (goodIn_of _ (by decide +kernel)) ggX4_fits_J6_bitCount_0f7a4
set_option maxRecDepth 20000 in
theorem ggX4_fits_X6_isUnder : GoodIn wsX4_fits wsX6_isUnder := goodIn_r _ [24, 25, 26, 6, 7, 8, 9, 10, 11, 12, 13, 30, 31, 32, 33, 34, 35] (by decide +kernel) (by decide +kernel)
set_option maxRecDepth 20000 in
theorem gX4_fits_X6_isUnder : GoodIn wsX4_fits (wsV RX4 67 RX6 yX6_isUnder wsX6_isUnder) := goodIn_app (goodIn_of _ (by decide +kernel)) ggX4_fits_X6_isUnder
theorem dX4_fits_0 : decode cX4_fits 0 = .ok (.aload_n 0, 1) := by decide +kernel
theorem dX4_fits_1 : decode cX4_fits 1 = .ok (.getfield 15, 3) := by decide +kernel
theorem dX4_fits_4 : decode cX4_fits 4 = .ok (.iload_n 2, 1) := by decide +kernel
theorem dX4_fits_5 : decode cX4_fits 5 = .ok (.iaload, 1) := by decide +kernel
theorem dX4_fits_6 : decode cX4_fits 6 = .ok (.istore 6, 2) := by decide +kernel
theorem dX4_fits_8 : decode cX4_fits 8 = .ok (.aload_n 3, 1) := by decide +kernel
theorem dX4_fits_9 : decode cX4_fits 9 = .ok (.iload 4, 2) := by decide +kernel
theorem dX4_fits_11 : decode cX4_fits 11 = .ok (.invokevirtual 63, 3) := by decide +kernel
theorem dX4_fits_14 : decode cX4_fits 14 = .ok (.ifCond .eq 59, 3) := by decide +kernel
theorem dX4_fits_17 : decode cX4_fits 17 = .ok (.iload 5, 2) := by decide +kernel
theorem dX4_fits_19 : decode cX4_fits 19 = .ok (.iload 4, 2) := by decide +kernel
theorem dX4_fits_21 : decode cX4_fits 21 = .ok (.invokestatic 49, 3) := by decide +kernel
theorem dX4_fits_24 : decode cX4_fits 24 = .ok (.ifCond .ne 49, 3) := by decide +kernel
theorem dX4_fits_27 : decode cX4_fits 27 = .ok (.aload_n 1, 1) := by decide +kernel
theorem dX4_fits_28 : decode cX4_fits 28 = .ok (.getfield 53, 3) := by decide +kernel
theorem dX4_fits_31 : decode cX4_fits 31 = .ok (.iload 6, 2) := by decide +kernel
theorem dX4_fits_33 : decode cX4_fits 33 = .ok (.iaload, 1) := by decide +kernel
theorem dX4_fits_34 : decode cX4_fits 34 = .ok (.invokestatic 31, 3) := by decide +kernel
theorem dX4_fits_37 : decode cX4_fits 37 = .ok (.aload_n 3, 1) := by decide +kernel
theorem dX4_fits_38 : decode cX4_fits 38 = .ok (.getfield 53, 3) := by decide +kernel
theorem dX4_fits_41 : decode cX4_fits 41 = .ok (.iload 4, 2) := by decide +kernel
theorem dX4_fits_43 : decode cX4_fits 43 = .ok (.iaload, 1) := by decide +kernel
theorem dX4_fits_44 : decode cX4_fits 44 = .ok (.invokestatic 31, 3) := by decide +kernel
theorem dX4_fits_47 : decode cX4_fits 47 = .ok (.if_icmp .ne 26, 3) := by decide +kernel
theorem dX4_fits_50 : decode cX4_fits 50 = .ok (.aload_n 1, 1) := by decide +kernel
theorem dX4_fits_51 : decode cX4_fits 51 = .ok (.getfield 56, 3) := by decide +kernel
theorem dX4_fits_54 : decode cX4_fits 54 = .ok (.iload 6, 2) := by decide +kernel
theorem dX4_fits_56 : decode cX4_fits 56 = .ok (.iaload, 1) := by decide +kernel
theorem dX4_fits_57 : decode cX4_fits 57 = .ok (.invokestatic 31, 3) := by decide +kernel
theorem dX4_fits_60 : decode cX4_fits 60 = .ok (.aload_n 3, 1) := by decide +kernel
theorem dX4_fits_61 : decode cX4_fits 61 = .ok (.getfield 56, 3) := by decide +kernel
theorem dX4_fits_64 : decode cX4_fits 64 = .ok (.iload 4, 2) := by decide +kernel
theorem dX4_fits_66 : decode cX4_fits 66 = .ok (.iaload, 1) := by decide +kernel
theorem dX4_fits_67 : decode cX4_fits 67 = .ok (.invokestatic 31, 3) := by decide +kernel
theorem dX4_fits_70 : decode cX4_fits 70 = .ok (.if_icmp .eq 5, 3) := by decide +kernel
theorem dX4_fits_73 : decode cX4_fits 73 = .ok (.iconst 0, 1) := by decide +kernel
theorem dX4_fits_74 : decode cX4_fits 74 = .ok (.ireturn, 1) := by decide +kernel
theorem dX4_fits_75 : decode cX4_fits 75 = .ok (.iconst 0, 1) := by decide +kernel
theorem dX4_fits_76 : decode cX4_fits 76 = .ok (.istore 7, 2) := by decide +kernel
theorem dX4_fits_78 : decode cX4_fits 78 = .ok (.iload 7, 2) := by decide +kernel
theorem dX4_fits_80 : decode cX4_fits 80 = .ok (.iload_n 2, 1) := by decide +kernel
theorem dX4_fits_81 : decode cX4_fits 81 = .ok (.if_icmp .ge 68, 3) := by decide +kernel
theorem dX4_fits_84 : decode cX4_fits 84 = .ok (.aload_n 0, 1) := by decide +kernel
theorem dX4_fits_85 : decode cX4_fits 85 = .ok (.getfield 15, 3) := by decide +kernel
theorem dX4_fits_88 : decode cX4_fits 88 = .ok (.iload 7, 2) := by decide +kernel
theorem dX4_fits_90 : decode cX4_fits 90 = .ok (.iaload, 1) := by decide +kernel
theorem dX4_fits_91 : decode cX4_fits 91 = .ok (.istore 8, 2) := by decide +kernel
theorem dX4_fits_93 : decode cX4_fits 93 = .ok (.aload_n 1, 1) := by decide +kernel
theorem dX4_fits_94 : decode cX4_fits 94 = .ok (.iload 8, 2) := by decide +kernel
theorem dX4_fits_96 : decode cX4_fits 96 = .ok (.iload 6, 2) := by decide +kernel
theorem dX4_fits_98 : decode cX4_fits 98 = .ok (.invokevirtual 67, 3) := by decide +kernel
theorem dX4_fits_101 : decode cX4_fits 101 = .ok (.aload_n 3, 1) := by decide +kernel
theorem dX4_fits_102 : decode cX4_fits 102 = .ok (.aload_n 0, 1) := by decide +kernel
theorem dX4_fits_103 : decode cX4_fits 103 = .ok (.getfield 9, 3) := by decide +kernel
theorem dX4_fits_106 : decode cX4_fits 106 = .ok (.iload 7, 2) := by decide +kernel
theorem dX4_fits_108 : decode cX4_fits 108 = .ok (.iaload, 1) := by decide +kernel
theorem dX4_fits_109 : decode cX4_fits 109 = .ok (.iload 4, 2) := by decide +kernel
theorem dX4_fits_111 : decode cX4_fits 111 = .ok (.invokevirtual 67, 3) := by decide +kernel
theorem dX4_fits_114 : decode cX4_fits 114 = .ok (.if_icmp .ne 27, 3) := by decide +kernel
theorem dX4_fits_117 : decode cX4_fits 117 = .ok (.aload_n 1, 1) := by decide +kernel
theorem dX4_fits_118 : decode cX4_fits 118 = .ok (.iload 6, 2) := by decide +kernel
theorem dX4_fits_120 : decode cX4_fits 120 = .ok (.iload 8, 2) := by decide +kernel
theorem dX4_fits_122 : decode cX4_fits 122 = .ok (.invokevirtual 67, 3) := by decide +kernel
theorem dX4_fits_125 : decode cX4_fits 125 = .ok (.aload_n 3, 1) := by decide +kernel
theorem dX4_fits_126 : decode cX4_fits 126 = .ok (.iload 4, 2) := by decide +kernel
theorem dX4_fits_128 : decode cX4_fits 128 = .ok (.aload_n 0, 1) := by decide +kernel
theorem dX4_fits_129 : decode cX4_fits 129 = .ok (.getfield 9, 3) := by decide +kernel
theorem dX4_fits_132 : decode cX4_fits 132 = .ok (.iload 7, 2) := by decide +kernel
theorem dX4_fits_134 : decode cX4_fits 134 = .ok (.iaload, 1) := by decide +kernel
theorem dX4_fits_135 : decode cX4_fits 135 = .ok (.invokevirtual 67, 3) := by decide +kernel
theorem dX4_fits_138 : decode cX4_fits 138 = .ok (.if_icmp .eq 5, 3) := by decide +kernel
theorem dX4_fits_141 : decode cX4_fits 141 = .ok (.iconst 0, 1) := by decide +kernel
theorem dX4_fits_142 : decode cX4_fits 142 = .ok (.ireturn, 1) := by decide +kernel
theorem dX4_fits_143 : decode cX4_fits 143 = .ok (.iinc 7 1, 3) := by decide +kernel
theorem dX4_fits_146 : decode cX4_fits 146 = .ok (.goto (-68), 3) := by decide +kernel
theorem dX4_fits_149 : decode cX4_fits 149 = .ok (.iconst 1, 1) := by decide +kernel
theorem dX4_fits_150 : decode cX4_fits 150 = .ok (.ireturn, 1) := by decide +kernel
set_option maxRecDepth 20000 in
theorem ggX5_init_X6_init : GoodIn wsX5_init wsX6_init := goodIn_r _ [9, 10, 2, 3, 11, 12, 13, 14, 18, 19, 20, 21, 22, 23] (by decide +kernel) (by decide +kernel)
set_option maxRecDepth 20000 in
theorem gX5_init_X6_init_n17 : GoodIn wsX5_init (wsX6_init) := ggX5_init_X6_init
theorem dX5_init_0 : decode cX5_init 0 = .ok (.aload_n 0, 1) := by decide +kernel
theorem dX5_init_1 : decode cX5_init 1 = .ok (.invokespecial 3, 3) := by decide +kernel
theorem dX5_init_4 : decode cX5_init 4 = .ok (.aload_n 0, 1) := by decide +kernel
theorem dX5_init_5 : decode cX5_init 5 = .ok (.bipush 16, 2) := by decide +kernel
theorem dX5_init_7 : decode cX5_init 7 = .ok (.anewarray 9, 3) := by decide +kernel
theorem dX5_init_10 : decode cX5_init 10 = .ok (.putfield 11, 3) := by decide +kernel
theorem dX5_init_13 : decode cX5_init 13 = .ok (.iconst 0, 1) := by decide +kernel
theorem dX5_init_14 : decode cX5_init 14 = .ok (.istore_n 1, 1) := by decide +kernel
theorem dX5_init_15 : decode cX5_init 15 = .ok (.iload_n 1, 1) := by decide +kernel
theorem dX5_init_16 : decode cX5_init 16 = .ok (.bipush 16, 2) := by decide +kernel
theorem dX5_init_18 : decode cX5_init 18 = .ok (.if_icmp .ge 22, 3) := by decide +kernel
theorem dX5_init_21 : decode cX5_init 21 = .ok (.aload_n 0, 1) := by decide +kernel
theorem dX5_init_22 : decode cX5_init 22 = .ok (.getfield 11, 3) := by decide +kernel
theorem dX5_init_25 : decode cX5_init 25 = .ok (.iload_n 1, 1) := by decide +kernel
theorem dX5_init_26 : decode cX5_init 26 = .ok (.new 9, 3) := by decide +kernel
theorem dX5_init_29 : decode cX5_init 29 = .ok (.dup, 1) := by decide +kernel
theorem dX5_init_30 : decode cX5_init 30 = .ok (.invokespecial 17, 3) := by decide +kernel
theorem dX5_init_33 : decode cX5_init 33 = .ok (.aastore, 1) := by decide +kernel
theorem dX5_init_34 : decode cX5_init 34 = .ok (.iinc 1 1, 3) := by decide +kernel
theorem dX5_init_37 : decode cX5_init 37 = .ok (.goto (-22), 3) := by decide +kernel
theorem dX5_init_40 : decode cX5_init 40 = .ok (.return_, 1) := by decide +kernel
theorem dX5_forget_0 : decode cX5_forget 0 = .ok (.aload_n 0, 1) := by decide +kernel
theorem dX5_forget_1 : decode cX5_forget 1 = .ok (.iconst 0, 1) := by decide +kernel
theorem dX5_forget_2 : decode cX5_forget 2 = .ok (.putfield 18, 3) := by decide +kernel
theorem dX5_forget_5 : decode cX5_forget 5 = .ok (.return_, 1) := by decide +kernel
set_option maxRecDepth 20000 in
theorem ggX5_push_X6_copy : GoodIn wsX5_push wsX6_copy := goodIn_r _ [12, 13, 14, 15, 16, 17, 18, 19, 20, 21, 22, 26, 27, 28, 29, 30, 31] (by decide +kernel) (by decide +kernel)
set_option maxRecDepth 20000 in
theorem gX5_push_X6_copy : GoodIn wsX5_push (wsV RX5 25 RX6 yX6_copy wsX6_copy) := goodIn_app (goodIn_of _ (by decide +kernel)) ggX5_push_X6_copy
theorem dX5_push_0 : decode cX5_push 0 = .ok (.aload_n 0, 1) := by decide +kernel
theorem dX5_push_1 : decode cX5_push 1 = .ok (.getfield 11, 3) := by decide +kernel
theorem dX5_push_4 : decode cX5_push 4 = .ok (.aload_n 0, 1) := by decide +kernel
theorem dX5_push_5 : decode cX5_push 5 = .ok (.getfield 22, 3) := by decide +kernel
theorem dX5_push_8 : decode cX5_push 8 = .ok (.aaload, 1) := by decide +kernel
theorem dX5_push_9 : decode cX5_push 9 = .ok (.aload_n 1, 1) := by decide +kernel
theorem dX5_push_10 : decode cX5_push 10 = .ok (.invokevirtual 25, 3) := by decide +kernel
theorem dX5_push_13 : decode cX5_push 13 = .ok (.aload_n 0, 1) := by decide +kernel
theorem dX5_push_14 : decode cX5_push 14 = .ok (.aload_n 0, 1) := by decide +kernel
theorem dX5_push_15 : decode cX5_push 15 = .ok (.getfield 22, 3) := by decide +kernel
theorem dX5_push_18 : decode cX5_push 18 = .ok (.iconst 1, 1) := by decide +kernel
theorem dX5_push_19 : decode cX5_push 19 = .ok (.iadd, 1) := by decide +kernel
theorem dX5_push_20 : decode cX5_push 20 = .ok (.bipush 16, 2) := by decide +kernel
theorem dX5_push_22 : decode cX5_push 22 = .ok (.if_icmp .ge 12, 3) := by decide +kernel
theorem dX5_push_25 : decode cX5_push 25 = .ok (.aload_n 0, 1) := by decide +kernel
theorem dX5_push_26 : decode cX5_push 26 = .ok (.getfield 22, 3) := by decide +kernel
theorem dX5_push_29 : decode cX5_push 29 = .ok (.iconst 1, 1) := by decide +kernel
theorem dX5_push_30 : decode cX5_push 30 = .ok (.iadd, 1) := by decide +kernel
theorem dX5_push_31 : decode cX5_push 31 = .ok (.goto 4, 3) := by decide +kernel
theorem dX5_push_34 : decode cX5_push 34 = .ok (.iconst 0, 1) := by decide +kernel
theorem dX5_push_35 : decode cX5_push 35 = .ok (.putfield 22, 3) := by decide +kernel
theorem dX5_push_38 : decode cX5_push 38 = .ok (.aload_n 0, 1) := by decide +kernel
theorem dX5_push_39 : decode cX5_push 39 = .ok (.aload_n 0, 1) := by decide +kernel
theorem dX5_push_40 : decode cX5_push 40 = .ok (.getfield 18, 3) := by decide +kernel
theorem dX5_push_43 : decode cX5_push 43 = .ok (.iconst 1, 1) := by decide +kernel
theorem dX5_push_44 : decode cX5_push 44 = .ok (.iadd, 1) := by decide +kernel
theorem dX5_push_45 : decode cX5_push 45 = .ok (.bipush 16, 2) := by decide +kernel
theorem dX5_push_47 : decode cX5_push 47 = .ok (.invokestatic 29, 3) := by decide +kernel
theorem dX5_push_50 : decode cX5_push 50 = .ok (.putfield 18, 3) := by decide +kernel
theorem dX5_push_53 : decode cX5_push 53 = .ok (.return_, 1) := by decide +kernel
set_option maxRecDepth 20000 in
theorem ggX5_pop_X6_copy : GoodIn wsX5_pop wsX6_copy := goodIn_r _ [8, 9, 10, 11, 12, 13, 14, 15, 16, 17, 18, 22, 23, 24, 25, 26, 27] (by decide +kernel) (by decide +kernel)
set_option maxRecDepth 20000 in
theorem gX5_pop_X6_copy : GoodIn wsX5_pop (wsV RX5 25 RX6 yX6_copy wsX6_copy) := goodIn_app (goodIn_of _ (by decide +kernel)) ggX5_pop_X6_copy
theorem dX5_pop_0 : decode cX5_pop 0 = .ok (.aload_n 0, 1) := by decide +kernel
theorem dX5_pop_1 : decode cX5_pop 1 = .ok (.getfield 18, 3) := by decide +kernel
theorem dX5_pop_4 : decode cX5_pop 4 = .ok (.ifCond .ne 5, 3) := by decide +kernel
theorem dX5_pop_7 : decode cX5_pop 7 = .ok (.iconst 0, 1) := by decide +kernel
theorem dX5_pop_8 : decode cX5_pop 8 = .ok (.ireturn, 1) := by decide +kernel
theorem dX5_pop_9 : decode cX5_pop 9 = .ok (.aload_n 0, 1) := by decide +kernel
theorem dX5_pop_10 : decode cX5_pop 10 = .ok (.aload_n 0, 1) := by decide +kernel
theorem dX5_pop_11 : decode cX5_pop 11 = .ok (.getfield 22, 3) := by decide +kernel
theorem dX5_pop_14 : decode cX5_pop 14 = .ok (.ifCond .le 12, 3) := by decide +kernel
theorem dX5_pop_17 : decode cX5_pop 17 = .ok (.aload_n 0, 1) := by decide +kernel
theorem dX5_pop_18 : decode cX5_pop 18 = .ok (.getfield 22, 3) := by decide +kernel
theorem dX5_pop_21 : decode cX5_pop 21 = .ok (.iconst 1, 1) := by decide +kernel
theorem dX5_pop_22 : decode cX5_pop 22 = .ok (.isub, 1) := by decide +kernel
theorem dX5_pop_23 : decode cX5_pop 23 = .ok (.goto 5, 3) := by decide +kernel
theorem dX5_pop_26 : decode cX5_pop 26 = .ok (.bipush 15, 2) := by decide +kernel
theorem dX5_pop_28 : decode cX5_pop 28 = .ok (.putfield 22, 3) := by decide +kernel
theorem dX5_pop_31 : decode cX5_pop 31 = .ok (.aload_n 0, 1) := by decide +kernel
theorem dX5_pop_32 : decode cX5_pop 32 = .ok (.dup, 1) := by decide +kernel
theorem dX5_pop_33 : decode cX5_pop 33 = .ok (.getfield 18, 3) := by decide +kernel
theorem dX5_pop_36 : decode cX5_pop 36 = .ok (.iconst 1, 1) := by decide +kernel
theorem dX5_pop_37 : decode cX5_pop 37 = .ok (.isub, 1) := by decide +kernel
theorem dX5_pop_38 : decode cX5_pop 38 = .ok (.putfield 18, 3) := by decide +kernel
theorem dX5_pop_41 : decode cX5_pop 41 = .ok (.aload_n 1, 1) := by decide +kernel
theorem dX5_pop_42 : decode cX5_pop 42 = .ok (.aload_n 0, 1) := by decide +kernel
theorem dX5_pop_43 : decode cX5_pop 43 = .ok (.getfield 11, 3) := by decide +kernel
theorem dX5_pop_46 : decode cX5_pop 46 = .ok (.aload_n 0, 1) := by decide +kernel
theorem dX5_pop_47 : decode cX5_pop 47 = .ok (.getfield 22, 3) := by decide +kernel
theorem dX5_pop_50 : decode cX5_pop 50 = .ok (.aaload, 1) := by decide +kernel
theorem dX5_pop_51 : decode cX5_pop 51 = .ok (.invokevirtual 25, 3) := by decide +kernel
theorem dX5_pop_54 : decode cX5_pop 54 = .ok (.iconst 1, 1) := by decide +kernel
theorem dX5_pop_55 : decode cX5_pop 55 = .ok (.ireturn, 1) := by decide +kernel
theorem dX6_init_0 : decode cX6_init 0 = .ok (.aload_n 0, 1) := by decide +kernel
theorem dX6_init_1 : decode cX6_init 1 = .ok (.invokespecial 3, 3) := by decide +kernel
theorem dX6_init_4 : decode cX6_init 4 = .ok (.aload_n 0, 1) := by decide +kernel
theorem dX6_init_5 : decode cX6_init 5 = .ok (.bipush 9, 2) := by decide +kernel
theorem dX6_init_7 : decode cX6_init 7 = .ok (.newarray .int, 2) := by decide +kernel
theorem dX6_init_9 : decode cX6_init 9 = .ok (.putfield 9, 3) := by decide +kernel
theorem dX6_init_12 : decode cX6_init 12 = .ok (.aload_n 0, 1) := by decide +kernel
theorem dX6_init_13 : decode cX6_init 13 = .ok (.bipush 9, 2) := by decide +kernel
theorem dX6_init_15 : decode cX6_init 15 = .ok (.newarray .int, 2) := by decide +kernel
theorem dX6_init_17 : decode cX6_init 17 = .ok (.putfield 15, 3) := by decide +kernel
theorem dX6_init_20 : decode cX6_init 20 = .ok (.aload_n 0, 1) := by decide +kernel
theorem dX6_init_21 : decode cX6_init 21 = .ok (.bipush 81, 2) := by decide +kernel
theorem dX6_init_23 : decode cX6_init 23 = .ok (.newarray .int, 2) := by decide +kernel
theorem dX6_init_25 : decode cX6_init 25 = .ok (.putfield 18, 3) := by decide +kernel
theorem dX6_init_28 : decode cX6_init 28 = .ok (.return_, 1) := by decide +kernel
set_option maxRecDepth 20000 in
theorem ggX6_begin_J7_fill_53178 : GoodIn wsX6_begin wsJ7_fill_53178 := goodIn_r _ [10] (by decide +kernel) (by decide +kernel)
set_option maxRecDepth 20000 in
theorem gX6_begin_J7_fill_53178 : GoodIn wsX6_begin (va_wsS RX6 31 yJ7_fill_53178 wsJ7_fill_53178) := goodIn_app (goodIn_of _ (by decide +kernel)) ggX6_begin_J7_fill_53178
theorem dX6_begin_0 : decode cX6_begin 0 = .ok (.aload_n 0, 1) := by decide +kernel
theorem dX6_begin_1 : decode cX6_begin 1 = .ok (.iload_n 1, 1) := by decide +kernel
theorem dX6_begin_2 : decode cX6_begin 2 = .ok (.putfield 21, 3) := by decide +kernel
theorem dX6_begin_5 : decode cX6_begin 5 = .ok (.aload_n 0, 1) := by decide +kernel
theorem dX6_begin_6 : decode cX6_begin 6 = .ok (.iconst 1, 1) := by decide +kernel
theorem dX6_begin_7 : decode cX6_begin 7 = .ok (.iload_n 1, 1) := by decide +kernel
theorem dX6_begin_8 : decode cX6_begin 8 = .ok (.ishl, 1) := by decide +kernel
theorem dX6_begin_9 : decode cX6_begin 9 = .ok (.iconst 1, 1) := by decide +kernel
theorem dX6_begin_10 : decode cX6_begin 10 = .ok (.isub, 1) := by decide +kernel
theorem dX6_begin_11 : decode cX6_begin 11 = .ok (.putfield 25, 3) := by decide +kernel
theorem dX6_begin_14 : decode cX6_begin 14 = .ok (.aload_n 0, 1) := by decide +kernel
theorem dX6_begin_15 : decode cX6_begin 15 = .ok (.iconst 0, 1) := by decide +kernel
theorem dX6_begin_16 : decode cX6_begin 16 = .ok (.putfield 28, 3) := by decide +kernel
theorem dX6_begin_19 : decode cX6_begin 19 = .ok (.aload_n 0, 1) := by decide +kernel
theorem dX6_begin_20 : decode cX6_begin 20 = .ok (.getfield 9, 3) := by decide +kernel
theorem dX6_begin_23 : decode cX6_begin 23 = .ok (.iconst 0, 1) := by decide +kernel
theorem dX6_begin_24 : decode cX6_begin 24 = .ok (.invokestatic 31, 3) := by decide +kernel
theorem dX6_begin_27 : decode cX6_begin 27 = .ok (.aload_n 0, 1) := by decide +kernel
theorem dX6_begin_28 : decode cX6_begin 28 = .ok (.getfield 15, 3) := by decide +kernel
theorem dX6_begin_31 : decode cX6_begin 31 = .ok (.iconst 0, 1) := by decide +kernel
theorem dX6_begin_32 : decode cX6_begin 32 = .ok (.invokestatic 31, 3) := by decide +kernel
theorem dX6_begin_35 : decode cX6_begin 35 = .ok (.aload_n 0, 1) := by decide +kernel
theorem dX6_begin_36 : decode cX6_begin 36 = .ok (.getfield 18, 3) := by decide +kernel
theorem dX6_begin_39 : decode cX6_begin 39 = .ok (.iconst 0, 1) := by decide +kernel
theorem dX6_begin_40 : decode cX6_begin 40 = .ok (.invokestatic 31, 3) := by decide +kernel
theorem dX6_begin_43 : decode cX6_begin 43 = .ok (.return_, 1) := by decide +kernel
theorem dX6_copy_0 : decode cX6_copy 0 = .ok (.aload_n 0, 1) := by decide +kernel
theorem dX6_copy_1 : decode cX6_copy 1 = .ok (.aload_n 1, 1) := by decide +kernel
theorem dX6_copy_2 : decode cX6_copy 2 = .ok (.getfield 21, 3) := by decide +kernel
theorem dX6_copy_5 : decode cX6_copy 5 = .ok (.putfield 21, 3) := by decide +kernel
theorem dX6_copy_8 : decode cX6_copy 8 = .ok (.aload_n 0, 1) := by decide +kernel
theorem dX6_copy_9 : decode cX6_copy 9 = .ok (.aload_n 1, 1) := by decide +kernel
theorem dX6_copy_10 : decode cX6_copy 10 = .ok (.getfield 25, 3) := by decide +kernel
theorem dX6_copy_13 : decode cX6_copy 13 = .ok (.putfield 25, 3) := by decide +kernel
theorem dX6_copy_16 : decode cX6_copy 16 = .ok (.aload_n 0, 1) := by decide +kernel
theorem dX6_copy_17 : decode cX6_copy 17 = .ok (.aload_n 1, 1) := by decide +kernel
theorem dX6_copy_18 : decode cX6_copy 18 = .ok (.getfield 28, 3) := by decide +kernel
theorem dX6_copy_21 : decode cX6_copy 21 = .ok (.putfield 28, 3) := by decide +kernel
theorem dX6_copy_24 : decode cX6_copy 24 = .ok (.aload_n 1, 1) := by decide +kernel
theorem dX6_copy_25 : decode cX6_copy 25 = .ok (.getfield 9, 3) := by decide +kernel
theorem dX6_copy_28 : decode cX6_copy 28 = .ok (.iconst 0, 1) := by decide +kernel
theorem dX6_copy_29 : decode cX6_copy 29 = .ok (.aload_n 0, 1) := by decide +kernel
theorem dX6_copy_30 : decode cX6_copy 30 = .ok (.getfield 9, 3) := by decide +kernel
theorem dX6_copy_33 : decode cX6_copy 33 = .ok (.iconst 0, 1) := by decide +kernel
theorem dX6_copy_34 : decode cX6_copy 34 = .ok (.bipush 9, 2) := by decide +kernel
theorem dX6_copy_36 : decode cX6_copy 36 = .ok (.invokestatic 37, 3) := by decide +kernel
theorem dX6_copy_39 : decode cX6_copy 39 = .ok (.aload_n 1, 1) := by decide +kernel
theorem dX6_copy_40 : decode cX6_copy 40 = .ok (.getfield 15, 3) := by decide +kernel
theorem dX6_copy_43 : decode cX6_copy 43 = .ok (.iconst 0, 1) := by decide +kernel
theorem dX6_copy_44 : decode cX6_copy 44 = .ok (.aload_n 0, 1) := by decide +kernel
theorem dX6_copy_45 : decode cX6_copy 45 = .ok (.getfield 15, 3) := by decide +kernel
theorem dX6_copy_48 : decode cX6_copy 48 = .ok (.iconst 0, 1) := by decide +kernel
theorem dX6_copy_49 : decode cX6_copy 49 = .ok (.bipush 9, 2) := by decide +kernel
theorem dX6_copy_51 : decode cX6_copy 51 = .ok (.invokestatic 37, 3) := by decide +kernel
theorem dX6_copy_54 : decode cX6_copy 54 = .ok (.aload_n 1, 1) := by decide +kernel
theorem dX6_copy_55 : decode cX6_copy 55 = .ok (.getfield 18, 3) := by decide +kernel
theorem dX6_copy_58 : decode cX6_copy 58 = .ok (.iconst 0, 1) := by decide +kernel
theorem dX6_copy_59 : decode cX6_copy 59 = .ok (.aload_n 0, 1) := by decide +kernel
theorem dX6_copy_60 : decode cX6_copy 60 = .ok (.getfield 18, 3) := by decide +kernel
theorem dX6_copy_63 : decode cX6_copy 63 = .ok (.iconst 0, 1) := by decide +kernel
theorem dX6_copy_64 : decode cX6_copy 64 = .ok (.bipush 81, 2) := by decide +kernel
theorem dX6_copy_66 : decode cX6_copy 66 = .ok (.invokestatic 37, 3) := by decide +kernel
theorem dX6_copy_69 : decode cX6_copy 69 = .ok (.return_, 1) := by decide +kernel
set_option maxRecDepth 20000 in
theorem ggX6_has_X9_isIn : GoodIn wsX6_has wsX9_isIn := goodIn_r _ [4] (by decide +kernel) (by decide +kernel)
set_option maxRecDepth 20000 in
theorem gX6_has_X9_isIn_n43 : GoodIn wsX6_has (wsX9_isIn) := ggX6_has_X9_isIn
theorem dX6_has_0 : decode cX6_has 0 = .ok (.aload_n 0, 1) := by decide +kernel
theorem dX6_has_1 : decode cX6_has 1 = .ok (.getfield 25, 3) := by decide +kernel
theorem dX6_has_4 : decode cX6_has 4 = .ok (.iload_n 1, 1) := by decide +kernel
theorem dX6_has_5 : decode cX6_has 5 = .ok (.invokestatic 43, 3) := by decide +kernel
theorem dX6_has_8 : decode cX6_has 8 = .ok (.ireturn, 1) := by decide +kernel
set_option maxRecDepth 20000 in
theorem ggX6_isUnder_X6_has : GoodIn wsX6_isUnder wsX6_has := goodIn_r _ [6, 7, 8, 9, 10, 11, 12, 13, 14, 15, 16] (by decide +kernel) (by decide +kernel)
set_option maxRecDepth 20000 in
theorem gX6_isUnder_X6_has : GoodIn wsX6_isUnder (wsV RX6 47 RX6 yX6_has wsX6_has) := goodIn_app (goodIn_of _ (by decide +kernel)) ggX6_isUnder_X6_has
set_option maxRecDepth 20000 in
theorem ggX6_isUnder_X9_isIn : GoodIn wsX6_isUnder wsX9_isIn := goodIn_r _ [10] (by decide +kernel) (by decide +kernel)
set_option maxRecDepth 20000 in
theorem gX6_isUnder_X9_isIn_n43 : GoodIn wsX6_isUnder (wsX9_isIn) := ggX6_isUnder_X9_isIn
theorem dX6_isUnder_0 : decode cX6_isUnder 0 = .ok (.aload_n 0, 1) := by decide +kernel
theorem dX6_isUnder_1 : decode cX6_isUnder 1 = .ok (.iload_n 1, 1) := by decide +kernel
theorem dX6_isUnder_2 : decode cX6_isUnder 2 = .ok (.invokevirtual 47, 3) := by decide +kernel
theorem dX6_isUnder_5 : decode cX6_isUnder 5 = .ok (.ifCond .eq 20, 3) := by decide +kernel
theorem dX6_isUnder_8 : decode cX6_isUnder 8 = .ok (.aload_n 0, 1) := by decide +kernel
theorem dX6_isUnder_9 : decode cX6_isUnder 9 = .ok (.getfield 9, 3) := by decide +kernel
theorem dX6_isUnder_12 : decode cX6_isUnder 12 = .ok (.iload_n 1, 1) := by decide +kernel
theorem dX6_isUnder_13 : decode cX6_isUnder 13 = .ok (.iaload, 1) := by decide +kernel
theorem dX6_isUnder_14 : decode cX6_isUnder 14 = .ok (.iload_n 2, 1) := by decide +kernel
theorem dX6_isUnder_15 : decode cX6_isUnder 15 = .ok (.invokestatic 43, 3) := by decide +kernel
theorem dX6_isUnder_18 : decode cX6_isUnder 18 = .ok (.ifCond .eq 7, 3) := by decide +kernel
theorem dX6_isUnder_21 : decode cX6_isUnder 21 = .ok (.iconst 1, 1) := by decide +kernel
theorem dX6_isUnder_22 : decode cX6_isUnder 22 = .ok (.goto 4, 3) := by decide +kernel
theorem dX6_isUnder_25 : decode cX6_isUnder 25 = .ok (.iconst 0, 1) := by decide +kernel
theorem dX6_isUnder_26 : decode cX6_isUnder 26 = .ok (.ireturn, 1) := by decide +kernel
set_option maxRecDepth 20000 in
theorem ggX6_put_X6_has : GoodIn wsX6_put wsX6_has := goodIn_r _ [7, 8, 9, 10, 11, 12, 13, 14, 15, 16, 17] (by decide +kernel) (by decide +kernel)
set_option maxRecDepth 20000 in
theorem gX6_put_X6_has : GoodIn wsX6_put (wsV RX6 47 RX6 yX6_has wsX6_has) := goodIn_app (goodIn_of _ (by decide +kernel)) ggX6_put_X6_has
set_option maxRecDepth 20000 in
theorem ggX6_put_X9_isIn : GoodIn wsX6_put wsX9_isIn := goodIn_r _ [11] (by decide +kernel) (by decide +kernel)
set_option maxRecDepth 20000 in
theorem gX6_put_X9_isIn_n43 : GoodIn wsX6_put (wsX9_isIn) := ggX6_put_X9_isIn
theorem dX6_put_0 : decode cX6_put 0 = .ok (.aload_n 0, 1) := by decide +kernel
theorem dX6_put_1 : decode cX6_put 1 = .ok (.iload_n 1, 1) := by decide +kernel
theorem dX6_put_2 : decode cX6_put 2 = .ok (.invokevirtual 47, 3) := by decide +kernel
theorem dX6_put_5 : decode cX6_put 5 = .ok (.ifCond .eq 11, 3) := by decide +kernel
theorem dX6_put_8 : decode cX6_put 8 = .ok (.aload_n 0, 1) := by decide +kernel
theorem dX6_put_9 : decode cX6_put 9 = .ok (.iload_n 2, 1) := by decide +kernel
theorem dX6_put_10 : decode cX6_put 10 = .ok (.invokevirtual 47, 3) := by decide +kernel
theorem dX6_put_13 : decode cX6_put 13 = .ok (.ifCond .ne 4, 3) := by decide +kernel
theorem dX6_put_16 : decode cX6_put 16 = .ok (.return_, 1) := by decide +kernel
theorem dX6_put_17 : decode cX6_put 17 = .ok (.aload_n 0, 1) := by decide +kernel
theorem dX6_put_18 : decode cX6_put 18 = .ok (.getfield 15, 3) := by decide +kernel
theorem dX6_put_21 : decode cX6_put 21 = .ok (.iload_n 1, 1) := by decide +kernel
theorem dX6_put_22 : decode cX6_put 22 = .ok (.iaload, 1) := by decide +kernel
theorem dX6_put_23 : decode cX6_put 23 = .ok (.iconst 1, 1) := by decide +kernel
theorem dX6_put_24 : decode cX6_put 24 = .ok (.iload_n 1, 1) := by decide +kernel
theorem dX6_put_25 : decode cX6_put 25 = .ok (.ishl, 1) := by decide +kernel
theorem dX6_put_26 : decode cX6_put 26 = .ok (.ior, 1) := by decide +kernel
theorem dX6_put_27 : decode cX6_put 27 = .ok (.istore_n 3, 1) := by decide +kernel
theorem dX6_put_28 : decode cX6_put 28 = .ok (.aload_n 0, 1) := by decide +kernel
theorem dX6_put_29 : decode cX6_put 29 = .ok (.getfield 9, 3) := by decide +kernel
theorem dX6_put_32 : decode cX6_put 32 = .ok (.iload_n 2, 1) := by decide +kernel
theorem dX6_put_33 : decode cX6_put 33 = .ok (.iaload, 1) := by decide +kernel
theorem dX6_put_34 : decode cX6_put 34 = .ok (.iconst 1, 1) := by decide +kernel
theorem dX6_put_35 : decode cX6_put 35 = .ok (.iload_n 2, 1) := by decide +kernel
theorem dX6_put_36 : decode cX6_put 36 = .ok (.ishl, 1) := by decide +kernel
theorem dX6_put_37 : decode cX6_put 37 = .ok (.ior, 1) := by decide +kernel
theorem dX6_put_38 : decode cX6_put 38 = .ok (.istore 4, 2) := by decide +kernel
theorem dX6_put_40 : decode cX6_put 40 = .ok (.iconst 0, 1) := by decide +kernel
theorem dX6_put_41 : decode cX6_put 41 = .ok (.istore 5, 2) := by decide +kernel
theorem dX6_put_43 : decode cX6_put 43 = .ok (.iload 5, 2) := by decide +kernel
theorem dX6_put_45 : decode cX6_put 45 = .ok (.bipush 9, 2) := by decide +kernel
theorem dX6_put_47 : decode cX6_put 47 = .ok (.if_icmp .ge 51, 3) := by decide +kernel
theorem dX6_put_50 : decode cX6_put 50 = .ok (.iload_n 3, 1) := by decide +kernel
theorem dX6_put_51 : decode cX6_put 51 = .ok (.iload 5, 2) := by decide +kernel
theorem dX6_put_53 : decode cX6_put 53 = .ok (.invokestatic 43, 3) := by decide +kernel
theorem dX6_put_56 : decode cX6_put 56 = .ok (.ifCond .eq 15, 3) := by decide +kernel
theorem dX6_put_59 : decode cX6_put 59 = .ok (.aload_n 0, 1) := by decide +kernel
theorem dX6_put_60 : decode cX6_put 60 = .ok (.getfield 9, 3) := by decide +kernel
theorem dX6_put_63 : decode cX6_put 63 = .ok (.iload 5, 2) := by decide +kernel
theorem dX6_put_65 : decode cX6_put 65 = .ok (.dup2, 1) := by decide +kernel
theorem dX6_put_66 : decode cX6_put 66 = .ok (.iaload, 1) := by decide +kernel
theorem dX6_put_67 : decode cX6_put 67 = .ok (.iload 4, 2) := by decide +kernel
theorem dX6_put_69 : decode cX6_put 69 = .ok (.ior, 1) := by decide +kernel
theorem dX6_put_70 : decode cX6_put 70 = .ok (.iastore, 1) := by decide +kernel
theorem dX6_put_71 : decode cX6_put 71 = .ok (.iload 4, 2) := by decide +kernel
theorem dX6_put_73 : decode cX6_put 73 = .ok (.iload 5, 2) := by decide +kernel
theorem dX6_put_75 : decode cX6_put 75 = .ok (.invokestatic 43, 3) := by decide +kernel
theorem dX6_put_78 : decode cX6_put 78 = .ok (.ifCond .eq 14, 3) := by decide +kernel
theorem dX6_put_81 : decode cX6_put 81 = .ok (.aload_n 0, 1) := by decide +kernel
theorem dX6_put_82 : decode cX6_put 82 = .ok (.getfield 15, 3) := by decide +kernel
theorem dX6_put_85 : decode cX6_put 85 = .ok (.iload 5, 2) := by decide +kernel
theorem dX6_put_87 : decode cX6_put 87 = .ok (.dup2, 1) := by decide +kernel
theorem dX6_put_88 : decode cX6_put 88 = .ok (.iaload, 1) := by decide +kernel
theorem dX6_put_89 : decode cX6_put 89 = .ok (.iload_n 3, 1) := by decide +kernel
theorem dX6_put_90 : decode cX6_put 90 = .ok (.ior, 1) := by decide +kernel
theorem dX6_put_91 : decode cX6_put 91 = .ok (.iastore, 1) := by decide +kernel
theorem dX6_put_92 : decode cX6_put 92 = .ok (.iinc 5 1, 3) := by decide +kernel
theorem dX6_put_95 : decode cX6_put 95 = .ok (.goto (-52), 3) := by decide +kernel
theorem dX6_put_98 : decode cX6_put 98 = .ok (.return_, 1) := by decide +kernel
set_option maxRecDepth 20000 in
theorem ggX6_takeAway_X6_has : GoodIn wsX6_takeAway wsX6_has := goodIn_r _ [8, 1, 9, 10, 11, 12, 13, 14, 15, 16, 17] (by decide +kernel) (by decide +kernel)
set_option maxRecDepth 20000 in
theorem gX6_takeAway_X6_has : GoodIn wsX6_takeAway (wsV RX6 47 RX6 yX6_has wsX6_has) := goodIn_app (goodIn_of _ (by decide +kernel)) ggX6_takeAway_X6_has
theorem dX6_takeAway_0 : decode cX6_takeAway 0 = .ok (.aload_n 0, 1) := by decide +kernel
theorem dX6_takeAway_1 : decode cX6_takeAway 1 = .ok (.iload_n 1, 1) := by decide +kernel
theorem dX6_takeAway_2 : decode cX6_takeAway 2 = .ok (.invokevirtual 47, 3) := by decide +kernel
theorem dX6_takeAway_5 : decode cX6_takeAway 5 = .ok (.ifCond .ne 4, 3) := by decide +kernel
theorem dX6_takeAway_8 : decode cX6_takeAway 8 = .ok (.return_, 1) := by decide +kernel
theorem dX6_takeAway_9 : decode cX6_takeAway 9 = .ok (.iconst 1, 1) := by decide +kernel
theorem dX6_takeAway_10 : decode cX6_takeAway 10 = .ok (.iload_n 1, 1) := by decide +kernel
theorem dX6_takeAway_11 : decode cX6_takeAway 11 = .ok (.ishl, 1) := by decide +kernel
theorem dX6_takeAway_12 : decode cX6_takeAway 12 = .ok (.iconst (-1), 1) := by decide +kernel
theorem dX6_takeAway_13 : decode cX6_takeAway 13 = .ok (.ixor, 1) := by decide +kernel
theorem dX6_takeAway_14 : decode cX6_takeAway 14 = .ok (.istore_n 2, 1) := by decide +kernel
theorem dX6_takeAway_15 : decode cX6_takeAway 15 = .ok (.aload_n 0, 1) := by decide +kernel
theorem dX6_takeAway_16 : decode cX6_takeAway 16 = .ok (.dup, 1) := by decide +kernel
theorem dX6_takeAway_17 : decode cX6_takeAway 17 = .ok (.getfield 25, 3) := by decide +kernel
theorem dX6_takeAway_20 : decode cX6_takeAway 20 = .ok (.iload_n 2, 1) := by decide +kernel
theorem dX6_takeAway_21 : decode cX6_takeAway 21 = .ok (.iand, 1) := by decide +kernel
theorem dX6_takeAway_22 : decode cX6_takeAway 22 = .ok (.putfield 25, 3) := by decide +kernel
theorem dX6_takeAway_25 : decode cX6_takeAway 25 = .ok (.aload_n 0, 1) := by decide +kernel
theorem dX6_takeAway_26 : decode cX6_takeAway 26 = .ok (.getfield 9, 3) := by decide +kernel
theorem dX6_takeAway_29 : decode cX6_takeAway 29 = .ok (.iload_n 1, 1) := by decide +kernel
theorem dX6_takeAway_30 : decode cX6_takeAway 30 = .ok (.iconst 0, 1) := by decide +kernel
theorem dX6_takeAway_31 : decode cX6_takeAway 31 = .ok (.iastore, 1) := by decide +kernel
theorem dX6_takeAway_32 : decode cX6_takeAway 32 = .ok (.aload_n 0, 1) := by decide +kernel
theorem dX6_takeAway_33 : decode cX6_takeAway 33 = .ok (.getfield 15, 3) := by decide +kernel
theorem dX6_takeAway_36 : decode cX6_takeAway 36 = .ok (.iload_n 1, 1) := by decide +kernel
theorem dX6_takeAway_37 : decode cX6_takeAway 37 = .ok (.iconst 0, 1) := by decide +kernel
theorem dX6_takeAway_38 : decode cX6_takeAway 38 = .ok (.iastore, 1) := by decide +kernel
theorem dX6_takeAway_39 : decode cX6_takeAway 39 = .ok (.iconst 0, 1) := by decide +kernel
theorem dX6_takeAway_40 : decode cX6_takeAway 40 = .ok (.istore_n 3, 1) := by decide +kernel
theorem dX6_takeAway_41 : decode cX6_takeAway 41 = .ok (.iload_n 3, 1) := by decide +kernel
theorem dX6_takeAway_42 : decode cX6_takeAway 42 = .ok (.bipush 9, 2) := by decide +kernel
theorem dX6_takeAway_44 : decode cX6_takeAway 44 = .ok (.if_icmp .ge 29, 3) := by decide +kernel
theorem dX6_takeAway_47 : decode cX6_takeAway 47 = .ok (.aload_n 0, 1) := by decide +kernel
theorem dX6_takeAway_48 : decode cX6_takeAway 48 = .ok (.getfield 9, 3) := by decide +kernel
theorem dX6_takeAway_51 : decode cX6_takeAway 51 = .ok (.iload_n 3, 1) := by decide +kernel
theorem dX6_takeAway_52 : decode cX6_takeAway 52 = .ok (.dup2, 1) := by decide +kernel
theorem dX6_takeAway_53 : decode cX6_takeAway 53 = .ok (.iaload, 1) := by decide +kernel
theorem dX6_takeAway_54 : decode cX6_takeAway 54 = .ok (.iload_n 2, 1) := by decide +kernel
theorem dX6_takeAway_55 : decode cX6_takeAway 55 = .ok (.iand, 1) := by decide +kernel
theorem dX6_takeAway_56 : decode cX6_takeAway 56 = .ok (.iastore, 1) := by decide +kernel
theorem dX6_takeAway_57 : decode cX6_takeAway 57 = .ok (.aload_n 0, 1) := by decide +kernel
theorem dX6_takeAway_58 : decode cX6_takeAway 58 = .ok (.getfield 15, 3) := by decide +kernel
theorem dX6_takeAway_61 : decode cX6_takeAway 61 = .ok (.iload_n 3, 1) := by decide +kernel
theorem dX6_takeAway_62 : decode cX6_takeAway 62 = .ok (.dup2, 1) := by decide +kernel
theorem dX6_takeAway_63 : decode cX6_takeAway 63 = .ok (.iaload, 1) := by decide +kernel
theorem dX6_takeAway_64 : decode cX6_takeAway 64 = .ok (.iload_n 2, 1) := by decide +kernel
theorem dX6_takeAway_65 : decode cX6_takeAway 65 = .ok (.iand, 1) := by decide +kernel
theorem dX6_takeAway_66 : decode cX6_takeAway 66 = .ok (.iastore, 1) := by decide +kernel
theorem dX6_takeAway_67 : decode cX6_takeAway 67 = .ok (.iinc 3 1, 3) := by decide +kernel
theorem dX6_takeAway_70 : decode cX6_takeAway 70 = .ok (.goto (-29), 3) := by decide +kernel
theorem dX6_takeAway_73 : decode cX6_takeAway 73 = .ok (.return_, 1) := by decide +kernel
theorem dX6_tagOf_0 : decode cX6_tagOf 0 = .ok (.iload_n 1, 1) := by decide +kernel
theorem dX6_tagOf_1 : decode cX6_tagOf 1 = .ok (.bipush 9, 2) := by decide +kernel
theorem dX6_tagOf_3 : decode cX6_tagOf 3 = .ok (.imul, 1) := by decide +kernel
theorem dX6_tagOf_4 : decode cX6_tagOf 4 = .ok (.iload_n 2, 1) := by decide +kernel
theorem dX6_tagOf_5 : decode cX6_tagOf 5 = .ok (.iadd, 1) := by decide +kernel
theorem dX6_tagOf_6 : decode cX6_tagOf 6 = .ok (.istore_n 3, 1) := by decide +kernel
theorem dX6_tagOf_7 : decode cX6_tagOf 7 = .ok (.iload_n 3, 1) := by decide +kernel
theorem dX6_tagOf_8 : decode cX6_tagOf 8 = .ok (.ifCond .lt 21, 3) := by decide +kernel
theorem dX6_tagOf_11 : decode cX6_tagOf 11 = .ok (.iload_n 3, 1) := by decide +kernel
theorem dX6_tagOf_12 : decode cX6_tagOf 12 = .ok (.aload_n 0, 1) := by decide +kernel
theorem dX6_tagOf_13 : decode cX6_tagOf 13 = .ok (.getfield 18, 3) := by decide +kernel
theorem dX6_tagOf_16 : decode cX6_tagOf 16 = .ok (.arraylength, 1) := by decide +kernel
theorem dX6_tagOf_17 : decode cX6_tagOf 17 = .ok (.if_icmp .ge 12, 3) := by decide +kernel
theorem dX6_tagOf_20 : decode cX6_tagOf 20 = .ok (.aload_n 0, 1) := by decide +kernel
theorem dX6_tagOf_21 : decode cX6_tagOf 21 = .ok (.getfield 18, 3) := by decide +kernel
theorem dX6_tagOf_24 : decode cX6_tagOf 24 = .ok (.iload_n 3, 1) := by decide +kernel
theorem dX6_tagOf_25 : decode cX6_tagOf 25 = .ok (.iaload, 1) := by decide +kernel
theorem dX6_tagOf_26 : decode cX6_tagOf 26 = .ok (.goto 4, 3) := by decide +kernel
theorem dX6_tagOf_29 : decode cX6_tagOf 29 = .ok (.iconst 0, 1) := by decide +kernel
theorem dX6_tagOf_30 : decode cX6_tagOf 30 = .ok (.ireturn, 1) := by decide +kernel
theorem dX6_setTag_0 : decode cX6_setTag 0 = .ok (.iload_n 1, 1) := by decide +kernel
theorem dX6_setTag_1 : decode cX6_setTag 1 = .ok (.bipush 9, 2) := by decide +kernel
theorem dX6_setTag_3 : decode cX6_setTag 3 = .ok (.imul, 1) := by decide +kernel
theorem dX6_setTag_4 : decode cX6_setTag 4 = .ok (.iload_n 2, 1) := by decide +kernel
theorem dX6_setTag_5 : decode cX6_setTag 5 = .ok (.iadd, 1) := by decide +kernel
theorem dX6_setTag_6 : decode cX6_setTag 6 = .ok (.istore 4, 2) := by decide +kernel
theorem dX6_setTag_8 : decode cX6_setTag 8 = .ok (.iload 4, 2) := by decide +kernel
theorem dX6_setTag_10 : decode cX6_setTag 10 = .ok (.ifCond .lt 21, 3) := by decide +kernel
theorem dX6_setTag_13 : decode cX6_setTag 13 = .ok (.iload 4, 2) := by decide +kernel
theorem dX6_setTag_15 : decode cX6_setTag 15 = .ok (.aload_n 0, 1) := by decide +kernel
theorem dX6_setTag_16 : decode cX6_setTag 16 = .ok (.getfield 18, 3) := by decide +kernel
theorem dX6_setTag_19 : decode cX6_setTag 19 = .ok (.arraylength, 1) := by decide +kernel
theorem dX6_setTag_20 : decode cX6_setTag 20 = .ok (.if_icmp .ge 11, 3) := by decide +kernel
theorem dX6_setTag_23 : decode cX6_setTag 23 = .ok (.aload_n 0, 1) := by decide +kernel
theorem dX6_setTag_24 : decode cX6_setTag 24 = .ok (.getfield 18, 3) := by decide +kernel
theorem dX6_setTag_27 : decode cX6_setTag 27 = .ok (.iload 4, 2) := by decide +kernel
theorem dX6_setTag_29 : decode cX6_setTag 29 = .ok (.iload_n 3, 1) := by decide +kernel
theorem dX6_setTag_30 : decode cX6_setTag 30 = .ok (.iastore, 1) := by decide +kernel
theorem dX6_setTag_31 : decode cX6_setTag 31 = .ok (.return_, 1) := by decide +kernel
set_option maxRecDepth 20000 in
theorem ggX6_atLeast_X6_has : GoodIn wsX6_atLeast wsX6_has := goodIn_r _ [6, 7, 8, 9, 10, 11, 12, 13, 14, 15, 16] (by decide +kernel) (by decide +kernel)
set_option maxRecDepth 20000 in
theorem gX6_atLeast_X6_has : GoodIn wsX6_atLeast (wsV RX6 47 RX6 yX6_has wsX6_has) := goodIn_app (goodIn_of _ (by decide +kernel)) ggX6_atLeast_X6_has
theorem dX6_atLeast_0 : decode cX6_atLeast 0 = .ok (.aload_n 0, 1) := by decide +kernel
theorem dX6_atLeast_1 : decode cX6_atLeast 1 = .ok (.iload_n 1, 1) := by decide +kernel
theorem dX6_atLeast_2 : decode cX6_atLeast 2 = .ok (.invokevirtual 47, 3) := by decide +kernel
theorem dX6_atLeast_5 : decode cX6_atLeast 5 = .ok (.ifCond .eq 16, 3) := by decide +kernel
theorem dX6_atLeast_8 : decode cX6_atLeast 8 = .ok (.aload_n 0, 1) := by decide +kernel
theorem dX6_atLeast_9 : decode cX6_atLeast 9 = .ok (.getfield 9, 3) := by decide +kernel
theorem dX6_atLeast_12 : decode cX6_atLeast 12 = .ok (.iload_n 1, 1) := by decide +kernel
theorem dX6_atLeast_13 : decode cX6_atLeast 13 = .ok (.iaload, 1) := by decide +kernel
theorem dX6_atLeast_14 : decode cX6_atLeast 14 = .ok (.iconst 1, 1) := by decide +kernel
theorem dX6_atLeast_15 : decode cX6_atLeast 15 = .ok (.iload_n 1, 1) := by decide +kernel
theorem dX6_atLeast_16 : decode cX6_atLeast 16 = .ok (.ishl, 1) := by decide +kernel
theorem dX6_atLeast_17 : decode cX6_atLeast 17 = .ok (.ior, 1) := by decide +kernel
theorem dX6_atLeast_18 : decode cX6_atLeast 18 = .ok (.goto 4, 3) := by decide +kernel
theorem dX6_atLeast_21 : decode cX6_atLeast 21 = .ok (.iconst 0, 1) := by decide +kernel
theorem dX6_atLeast_22 : decode cX6_atLeast 22 = .ok (.ireturn, 1) := by decide +kernel
set_option maxRecDepth 20000 in
theorem ggX6_atMost_X6_has : GoodIn wsX6_atMost wsX6_has := goodIn_r _ [6, 7, 8, 9, 10, 11, 12, 13, 14, 15, 16] (by decide +kernel) (by decide +kernel)
set_option maxRecDepth 20000 in
theorem gX6_atMost_X6_has : GoodIn wsX6_atMost (wsV RX6 47 RX6 yX6_has wsX6_has) := goodIn_app (goodIn_of _ (by decide +kernel)) ggX6_atMost_X6_has
theorem dX6_atMost_0 : decode cX6_atMost 0 = .ok (.aload_n 0, 1) := by decide +kernel
theorem dX6_atMost_1 : decode cX6_atMost 1 = .ok (.iload_n 1, 1) := by decide +kernel
theorem dX6_atMost_2 : decode cX6_atMost 2 = .ok (.invokevirtual 47, 3) := by decide +kernel
theorem dX6_atMost_5 : decode cX6_atMost 5 = .ok (.ifCond .eq 16, 3) := by decide +kernel
theorem dX6_atMost_8 : decode cX6_atMost 8 = .ok (.aload_n 0, 1) := by decide +kernel
theorem dX6_atMost_9 : decode cX6_atMost 9 = .ok (.getfield 15, 3) := by decide +kernel
theorem dX6_atMost_12 : decode cX6_atMost 12 = .ok (.iload_n 1, 1) := by decide +kernel
theorem dX6_atMost_13 : decode cX6_atMost 13 = .ok (.iaload, 1) := by decide +kernel
theorem dX6_atMost_14 : decode cX6_atMost 14 = .ok (.iconst 1, 1) := by decide +kernel
theorem dX6_atMost_15 : decode cX6_atMost 15 = .ok (.iload_n 1, 1) := by decide +kernel
theorem dX6_atMost_16 : decode cX6_atMost 16 = .ok (.ishl, 1) := by decide +kernel
theorem dX6_atMost_17 : decode cX6_atMost 17 = .ok (.ior, 1) := by decide +kernel
theorem dX6_atMost_18 : decode cX6_atMost 18 = .ok (.goto 4, 3) := by decide +kernel
theorem dX6_atMost_21 : decode cX6_atMost 21 = .ok (.iconst 0, 1) := by decide +kernel
theorem dX6_atMost_22 : decode cX6_atMost 22 = .ok (.ireturn, 1) := by decide +kernel
set_option maxRecDepth 20000 in
theorem ggX6_between_X6_atLeast : GoodIn wsX6_between wsX6_atLeast := goodIn_r _ [5, 6, 7, 8, 9, 4, 10, 11, 12, 13, 14, 20, 21, 22, 23, 24, 25] (by decide +kernel) (by decide +kernel)
set_option maxRecDepth 20000 in
theorem gX6_between_X6_atLeast : GoodIn wsX6_between (wsV RX6 51 RX6 yX6_atLeast wsX6_atLeast) := goodIn_app (goodIn_of _ (by decide +kernel)) ggX6_between_X6_atLeast
set_option maxRecDepth 20000 in
theorem ggX6_between_X6_atMost : GoodIn wsX6_between wsX6_atMost := goodIn_r _ [18, 19, 7, 8, 9, 4, 10, 11, 12, 13, 14, 20, 21, 22, 23, 24, 25] (by decide +kernel) (by decide +kernel)
set_option maxRecDepth 20000 in
theorem gX6_between_X6_atMost : GoodIn wsX6_between (wsV RX6 55 RX6 yX6_atMost wsX6_atMost) := goodIn_app (goodIn_of _ (by decide +kernel)) ggX6_between_X6_atMost
theorem dX6_between_0 : decode cX6_between 0 = .ok (.aload_n 0, 1) := by decide +kernel
theorem dX6_between_1 : decode cX6_between 1 = .ok (.iload_n 1, 1) := by decide +kernel
theorem dX6_between_2 : decode cX6_between 2 = .ok (.invokevirtual 51, 3) := by decide +kernel
theorem dX6_between_5 : decode cX6_between 5 = .ok (.aload_n 0, 1) := by decide +kernel
theorem dX6_between_6 : decode cX6_between 6 = .ok (.iload_n 2, 1) := by decide +kernel
theorem dX6_between_7 : decode cX6_between 7 = .ok (.invokevirtual 55, 3) := by decide +kernel
theorem dX6_between_10 : decode cX6_between 10 = .ok (.iand, 1) := by decide +kernel
theorem dX6_between_11 : decode cX6_between 11 = .ok (.ireturn, 1) := by decide +kernel
set_option maxRecDepth 20000 in
theorem ggX6_innerOf_X6_has : GoodIn wsX6_innerOf wsX6_has := goodIn_r _ [7, 8, 9, 10, 11, 12, 13, 14, 15, 16, 17] (by decide +kernel) (by decide +kernel)
set_option maxRecDepth 20000 in
theorem gX6_innerOf_X6_has : GoodIn wsX6_innerOf (wsV RX6 47 RX6 yX6_has wsX6_has) := goodIn_app (goodIn_of _ (by decide +kernel)) ggX6_innerOf_X6_has
theorem dX6_innerOf_0 : decode cX6_innerOf 0 = .ok (.aload_n 0, 1) := by decide +kernel
theorem dX6_innerOf_1 : decode cX6_innerOf 1 = .ok (.iload_n 1, 1) := by decide +kernel
theorem dX6_innerOf_2 : decode cX6_innerOf 2 = .ok (.invokevirtual 47, 3) := by decide +kernel
theorem dX6_innerOf_5 : decode cX6_innerOf 5 = .ok (.ifCond .eq 27, 3) := by decide +kernel
theorem dX6_innerOf_8 : decode cX6_innerOf 8 = .ok (.aload_n 0, 1) := by decide +kernel
theorem dX6_innerOf_9 : decode cX6_innerOf 9 = .ok (.iload_n 2, 1) := by decide +kernel
theorem dX6_innerOf_10 : decode cX6_innerOf 10 = .ok (.invokevirtual 47, 3) := by decide +kernel
theorem dX6_innerOf_13 : decode cX6_innerOf 13 = .ok (.ifCond .eq 19, 3) := by decide +kernel
theorem dX6_innerOf_16 : decode cX6_innerOf 16 = .ok (.aload_n 0, 1) := by decide +kernel
theorem dX6_innerOf_17 : decode cX6_innerOf 17 = .ok (.getfield 9, 3) := by decide +kernel
theorem dX6_innerOf_20 : decode cX6_innerOf 20 = .ok (.iload_n 1, 1) := by decide +kernel
theorem dX6_innerOf_21 : decode cX6_innerOf 21 = .ok (.iaload, 1) := by decide +kernel
theorem dX6_innerOf_22 : decode cX6_innerOf 22 = .ok (.aload_n 0, 1) := by decide +kernel
theorem dX6_innerOf_23 : decode cX6_innerOf 23 = .ok (.getfield 15, 3) := by decide +kernel
theorem dX6_innerOf_26 : decode cX6_innerOf 26 = .ok (.iload_n 2, 1) := by decide +kernel
theorem dX6_innerOf_27 : decode cX6_innerOf 27 = .ok (.iaload, 1) := by decide +kernel
theorem dX6_innerOf_28 : decode cX6_innerOf 28 = .ok (.iand, 1) := by decide +kernel
theorem dX6_innerOf_29 : decode cX6_innerOf 29 = .ok (.goto 4, 3) := by decide +kernel
theorem dX6_innerOf_32 : decode cX6_innerOf 32 = .ok (.iconst 0, 1) := by decide +kernel
theorem dX6_innerOf_33 : decode cX6_innerOf 33 = .ok (.ireturn, 1) := by decide +kernel
set_option maxRecDepth 20000 in
theorem ggX6_coverers_X6_has : GoodIn wsX6_coverers wsX6_has := goodIn_r _ [7, 8, 9, 10, 11, 15, 16, 17, 18, 19, 20] (by decide +kernel) (by decide +kernel)
set_option maxRecDepth 20000 in
theorem gX6_coverers_X6_has : GoodIn wsX6_coverers (wsV RX6 47 RX6 yX6_has wsX6_has) := goodIn_app (goodIn_of _ (by decide +kernel)) ggX6_coverers_X6_has
set_option maxRecDepth 20000 in
theorem ggX6_coverers_X6_endsOf : GoodIn wsX6_coverers wsX6_endsOf := goodIn_r _ [14, 9, 10, 11] (by decide +kernel) (by decide +kernel)
set_option maxRecDepth 20000 in
theorem gX6_coverers_X6_endsOf : GoodIn wsX6_coverers (va_wsS RX6 58 yX6_endsOf wsX6_endsOf) := goodIn_app (goodIn_of _ (by decide +kernel)) ggX6_coverers_X6_endsOf
theorem dX6_coverers_0 : decode cX6_coverers 0 = .ok (.aload_n 0, 1) := by decide +kernel
theorem dX6_coverers_1 : decode cX6_coverers 1 = .ok (.iload_n 1, 1) := by decide +kernel
theorem dX6_coverers_2 : decode cX6_coverers 2 = .ok (.invokevirtual 47, 3) := by decide +kernel
theorem dX6_coverers_5 : decode cX6_coverers 5 = .ok (.ifCond .eq 21, 3) := by decide +kernel
theorem dX6_coverers_8 : decode cX6_coverers 8 = .ok (.aload_n 0, 1) := by decide +kernel
theorem dX6_coverers_9 : decode cX6_coverers 9 = .ok (.getfield 9, 3) := by decide +kernel
theorem dX6_coverers_12 : decode cX6_coverers 12 = .ok (.iload_n 1, 1) := by decide +kernel
theorem dX6_coverers_13 : decode cX6_coverers 13 = .ok (.iaload, 1) := by decide +kernel
theorem dX6_coverers_14 : decode cX6_coverers 14 = .ok (.iload_n 2, 1) := by decide +kernel
theorem dX6_coverers_15 : decode cX6_coverers 15 = .ok (.iand, 1) := by decide +kernel
theorem dX6_coverers_16 : decode cX6_coverers 16 = .ok (.aload_n 0, 1) := by decide +kernel
theorem dX6_coverers_17 : decode cX6_coverers 17 = .ok (.getfield 15, 3) := by decide +kernel
theorem dX6_coverers_20 : decode cX6_coverers 20 = .ok (.invokestatic 58, 3) := by decide +kernel
theorem dX6_coverers_23 : decode cX6_coverers 23 = .ok (.goto 4, 3) := by decide +kernel
theorem dX6_coverers_26 : decode cX6_coverers 26 = .ok (.iconst 0, 1) := by decide +kernel
theorem dX6_coverers_27 : decode cX6_coverers 27 = .ok (.ireturn, 1) := by decide +kernel
set_option maxRecDepth 20000 in
theorem ggX6_covered_X6_has : GoodIn wsX6_covered wsX6_has := goodIn_r _ [7, 8, 9, 10, 11, 15, 16, 17, 18, 19, 20] (by decide +kernel) (by decide +kernel)
set_option maxRecDepth 20000 in
theorem gX6_covered_X6_has : GoodIn wsX6_covered (wsV RX6 47 RX6 yX6_has wsX6_has) := goodIn_app (goodIn_of _ (by decide +kernel)) ggX6_covered_X6_has
set_option maxRecDepth 20000 in
theorem ggX6_covered_X6_endsOf : GoodIn wsX6_covered wsX6_endsOf := goodIn_r _ [14, 9, 10, 11] (by decide +kernel) (by decide +kernel)
set_option maxRecDepth 20000 in
theorem gX6_covered_X6_endsOf : GoodIn wsX6_covered (va_wsS RX6 58 yX6_endsOf wsX6_endsOf) := goodIn_app (goodIn_of _ (by decide +kernel)) ggX6_covered_X6_endsOf
theorem dX6_covered_0 : decode cX6_covered 0 = .ok (.aload_n 0, 1) := by decide +kernel
theorem dX6_covered_1 : decode cX6_covered 1 = .ok (.iload_n 1, 1) := by decide +kernel
theorem dX6_covered_2 : decode cX6_covered 2 = .ok (.invokevirtual 47, 3) := by decide +kernel
theorem dX6_covered_5 : decode cX6_covered 5 = .ok (.ifCond .eq 21, 3) := by decide +kernel
theorem dX6_covered_8 : decode cX6_covered 8 = .ok (.aload_n 0, 1) := by decide +kernel
theorem dX6_covered_9 : decode cX6_covered 9 = .ok (.getfield 15, 3) := by decide +kernel
theorem dX6_covered_12 : decode cX6_covered 12 = .ok (.iload_n 1, 1) := by decide +kernel
theorem dX6_covered_13 : decode cX6_covered 13 = .ok (.iaload, 1) := by decide +kernel
theorem dX6_covered_14 : decode cX6_covered 14 = .ok (.iload_n 2, 1) := by decide +kernel
theorem dX6_covered_15 : decode cX6_covered 15 = .ok (.iand, 1) := by decide +kernel
theorem dX6_covered_16 : decode cX6_covered 16 = .ok (.aload_n 0, 1) := by decide +kernel
theorem dX6_covered_17 : decode cX6_covered 17 = .ok (.getfield 9, 3) := by decide +kernel
theorem dX6_covered_20 : decode cX6_covered 20 = .ok (.invokestatic 58, 3) := by decide +kernel
theorem dX6_covered_23 : decode cX6_covered 23 = .ok (.goto 4, 3) := by decide +kernel
theorem dX6_covered_26 : decode cX6_covered 26 = .ok (.iconst 0, 1) := by decide +kernel
theorem dX6_covered_27 : decode cX6_covered 27 = .ok (.ireturn, 1) := by decide +kernel
set_option maxRecDepth 20000 in
theorem ggX6_endsOf_X9_isIn : GoodIn wsX6_endsOf wsX9_isIn := goodIn_r _ [3] (by decide +kernel) (by decide +kernel)
set_option maxRecDepth 20000 in
theorem gX6_endsOf_X9_isIn_n43 : GoodIn wsX6_endsOf (wsX9_isIn) := ggX6_endsOf_X9_isIn
theorem dX6_endsOf_0 : decode cX6_endsOf 0 = .ok (.iconst 0, 1) := by decide +kernel
theorem dX6_endsOf_1 : decode cX6_endsOf 1 = .ok (.istore_n 2, 1) := by decide +kernel
theorem dX6_endsOf_2 : decode cX6_endsOf 2 = .ok (.iconst 0, 1) := by decide +kernel
theorem dX6_endsOf_3 : decode cX6_endsOf 3 = .ok (.istore_n 3, 1) := by decide +kernel
theorem dX6_endsOf_4 : decode cX6_endsOf 4 = .ok (.iload_n 3, 1) := by decide +kernel
theorem dX6_endsOf_5 : decode cX6_endsOf 5 = .ok (.bipush 9, 2) := by decide +kernel
theorem dX6_endsOf_7 : decode cX6_endsOf 7 = .ok (.if_icmp .ge 37, 3) := by decide +kernel
theorem dX6_endsOf_10 : decode cX6_endsOf 10 = .ok (.iload_n 3, 1) := by decide +kernel
theorem dX6_endsOf_11 : decode cX6_endsOf 11 = .ok (.aload_n 1, 1) := by decide +kernel
theorem dX6_endsOf_12 : decode cX6_endsOf 12 = .ok (.arraylength, 1) := by decide +kernel
theorem dX6_endsOf_13 : decode cX6_endsOf 13 = .ok (.if_icmp .ge 31, 3) := by decide +kernel
theorem dX6_endsOf_16 : decode cX6_endsOf 16 = .ok (.iload_n 0, 1) := by decide +kernel
theorem dX6_endsOf_17 : decode cX6_endsOf 17 = .ok (.iload_n 3, 1) := by decide +kernel
theorem dX6_endsOf_18 : decode cX6_endsOf 18 = .ok (.invokestatic 43, 3) := by decide +kernel
theorem dX6_endsOf_21 : decode cX6_endsOf 21 = .ok (.ifCond .eq 17, 3) := by decide +kernel
theorem dX6_endsOf_24 : decode cX6_endsOf 24 = .ok (.iload_n 0, 1) := by decide +kernel
theorem dX6_endsOf_25 : decode cX6_endsOf 25 = .ok (.aload_n 1, 1) := by decide +kernel
theorem dX6_endsOf_26 : decode cX6_endsOf 26 = .ok (.iload_n 3, 1) := by decide +kernel
theorem dX6_endsOf_27 : decode cX6_endsOf 27 = .ok (.iaload, 1) := by decide +kernel
theorem dX6_endsOf_28 : decode cX6_endsOf 28 = .ok (.iand, 1) := by decide +kernel
theorem dX6_endsOf_29 : decode cX6_endsOf 29 = .ok (.ifCond .ne 9, 3) := by decide +kernel
theorem dX6_endsOf_32 : decode cX6_endsOf 32 = .ok (.iload_n 2, 1) := by decide +kernel
theorem dX6_endsOf_33 : decode cX6_endsOf 33 = .ok (.iconst 1, 1) := by decide +kernel
theorem dX6_endsOf_34 : decode cX6_endsOf 34 = .ok (.iload_n 3, 1) := by decide +kernel
theorem dX6_endsOf_35 : decode cX6_endsOf 35 = .ok (.ishl, 1) := by decide +kernel
theorem dX6_endsOf_36 : decode cX6_endsOf 36 = .ok (.ior, 1) := by decide +kernel
theorem dX6_endsOf_37 : decode cX6_endsOf 37 = .ok (.istore_n 2, 1) := by decide +kernel
theorem dX6_endsOf_38 : decode cX6_endsOf 38 = .ok (.iinc 3 1, 3) := by decide +kernel
theorem dX6_endsOf_41 : decode cX6_endsOf 41 = .ok (.goto (-37), 3) := by decide +kernel
theorem dX6_endsOf_44 : decode cX6_endsOf 44 = .ok (.iload_n 2, 1) := by decide +kernel
theorem dX6_endsOf_45 : decode cX6_endsOf 45 = .ok (.ireturn, 1) := by decide +kernel
set_option maxRecDepth 20000 in
theorem ggX6_isEdge_X6_isUnder : GoodIn wsX6_isEdge wsX6_isUnder := goodIn_r _ [5, 6, 7, 8, 9, 4, 10, 11, 12, 13, 14, 20, 21, 22, 23, 24, 25] (by decide +kernel) (by decide +kernel)
set_option maxRecDepth 20000 in
theorem gX6_isEdge_X6_isUnder : GoodIn wsX6_isEdge (wsV RX6 62 RX6 yX6_isUnder wsX6_isUnder) := goodIn_app (goodIn_of _ (by decide +kernel)) ggX6_isEdge_X6_isUnder
set_option maxRecDepth 20000 in
theorem ggX6_isEdge_X6_innerOf : GoodIn wsX6_isEdge wsX6_innerOf := goodIn_r _ [18, 6, 19, 7, 8, 9, 4, 10, 11, 12, 13, 14, 20, 21, 22, 23, 24, 25] (by decide +kernel) (by decide +kernel)
set_option maxRecDepth 20000 in
theorem gX6_isEdge_X6_innerOf : GoodIn wsX6_isEdge (wsV RX6 65 RX6 yX6_innerOf wsX6_innerOf) := goodIn_app (goodIn_of _ (by decide +kernel)) ggX6_isEdge_X6_innerOf
theorem dX6_isEdge_0 : decode cX6_isEdge 0 = .ok (.aload_n 0, 1) := by decide +kernel
theorem dX6_isEdge_1 : decode cX6_isEdge 1 = .ok (.iload_n 1, 1) := by decide +kernel
theorem dX6_isEdge_2 : decode cX6_isEdge 2 = .ok (.iload_n 2, 1) := by decide +kernel
theorem dX6_isEdge_3 : decode cX6_isEdge 3 = .ok (.invokevirtual 62, 3) := by decide +kernel
theorem dX6_isEdge_6 : decode cX6_isEdge 6 = .ok (.ifCond .eq 16, 3) := by decide +kernel
theorem dX6_isEdge_9 : decode cX6_isEdge 9 = .ok (.aload_n 0, 1) := by decide +kernel
theorem dX6_isEdge_10 : decode cX6_isEdge 10 = .ok (.iload_n 1, 1) := by decide +kernel
theorem dX6_isEdge_11 : decode cX6_isEdge 11 = .ok (.iload_n 2, 1) := by decide +kernel
theorem dX6_isEdge_12 : decode cX6_isEdge 12 = .ok (.invokevirtual 65, 3) := by decide +kernel
theorem dX6_isEdge_15 : decode cX6_isEdge 15 = .ok (.ifCond .ne 7, 3) := by decide +kernel
theorem dX6_isEdge_18 : decode cX6_isEdge 18 = .ok (.iconst 1, 1) := by decide +kernel
theorem dX6_isEdge_19 : decode cX6_isEdge 19 = .ok (.goto 4, 3) := by decide +kernel
theorem dX6_isEdge_22 : decode cX6_isEdge 22 = .ok (.iconst 0, 1) := by decide +kernel
theorem dX6_isEdge_23 : decode cX6_isEdge 23 = .ok (.ireturn, 1) := by decide +kernel
set_option maxRecDepth 20000 in
theorem ggX6_edgeLabel_X6_tagOf : GoodIn wsX6_edgeLabel wsX6_tagOf := goodIn_r _ [13, 14, 15, 16, 17, 18, 19, 20] (by decide +kernel) (by decide +kernel)
set_option maxRecDepth 20000 in
theorem gX6_edgeLabel_X6_tagOf : GoodIn wsX6_edgeLabel (wsV RX6 77 RX6 yX6_tagOf wsX6_tagOf) := goodIn_app (goodIn_of _ (by decide +kernel)) ggX6_edgeLabel_X6_tagOf
theorem dX6_edgeLabel_0 : decode cX6_edgeLabel 0 = .ok (.aload_n 0, 1) := by decide +kernel
theorem dX6_edgeLabel_1 : decode cX6_edgeLabel 1 = .ok (.getfield 28, 3) := by decide +kernel
theorem dX6_edgeLabel_4 : decode cX6_edgeLabel 4 = .ok (.tableswitch 43 1 3 #[28, 30, 36], 28) := by decide +kernel
theorem dX6_edgeLabel_32 : decode cX6_edgeLabel 32 = .ok (.iload_n 2, 1) := by decide +kernel
theorem dX6_edgeLabel_33 : decode cX6_edgeLabel 33 = .ok (.ireturn, 1) := by decide +kernel
theorem dX6_edgeLabel_34 : decode cX6_edgeLabel 34 = .ok (.iload_n 1, 1) := by decide +kernel
theorem dX6_edgeLabel_35 : decode cX6_edgeLabel 35 = .ok (.iload_n 2, 1) := by decide +kernel
theorem dX6_edgeLabel_36 : decode cX6_edgeLabel 36 = .ok (.invokestatic 69, 3) := by decide +kernel
theorem dX6_edgeLabel_39 : decode cX6_edgeLabel 39 = .ok (.ireturn, 1) := by decide +kernel
theorem dX6_edgeLabel_40 : decode cX6_edgeLabel 40 = .ok (.iload_n 1, 1) := by decide +kernel
theorem dX6_edgeLabel_41 : decode cX6_edgeLabel 41 = .ok (.iload_n 2, 1) := by decide +kernel
theorem dX6_edgeLabel_42 : decode cX6_edgeLabel 42 = .ok (.isub, 1) := by decide +kernel
theorem dX6_edgeLabel_43 : decode cX6_edgeLabel 43 = .ok (.invokestatic 74, 3) := by decide +kernel
theorem dX6_edgeLabel_46 : decode cX6_edgeLabel 46 = .ok (.ireturn, 1) := by decide +kernel
theorem dX6_edgeLabel_47 : decode cX6_edgeLabel 47 = .ok (.aload_n 0, 1) := by decide +kernel
theorem dX6_edgeLabel_48 : decode cX6_edgeLabel 48 = .ok (.iload_n 1, 1) := by decide +kernel
theorem dX6_edgeLabel_49 : decode cX6_edgeLabel 49 = .ok (.iload_n 2, 1) := by decide +kernel
theorem dX6_edgeLabel_50 : decode cX6_edgeLabel 50 = .ok (.invokevirtual 77, 3) := by decide +kernel
theorem dX6_edgeLabel_53 : decode cX6_edgeLabel 53 = .ok (.ireturn, 1) := by decide +kernel
set_option maxRecDepth 20000 in
theorem ggX6_pairs_J6_bitCount_0f7a4 : GoodIn wsX6_pairs wsJ6_bitCount_0f7a4 := goodIn_r _ [5, 6, 7, 8] (by decide +kernel) (by decide +kernel)
set_option maxRecDepth 20000 in
theorem gX6_pairs_J6_bitCount_0f7a4 : GoodIn wsX6_pairs (va_wsS RX6 80 yJ6_bitCount_0f7a4 wsJ6_bitCount_0f7a4) := goodIn_app (goodIn_of _ (by decide +kernel)) ggX6_pairs_J6_bitCount_0f7a4
theorem dX6_pairs_0 : decode cX6_pairs 0 = .ok (.iconst 0, 1) := by decide +kernel
theorem dX6_pairs_1 : decode cX6_pairs 1 = .ok (.istore_n 1, 1) := by decide +kernel
theorem dX6_pairs_2 : decode cX6_pairs 2 = .ok (.iconst 0, 1) := by decide +kernel
theorem dX6_pairs_3 : decode cX6_pairs 3 = .ok (.istore_n 2, 1) := by decide +kernel
theorem dX6_pairs_4 : decode cX6_pairs 4 = .ok (.iload_n 2, 1) := by decide +kernel
theorem dX6_pairs_5 : decode cX6_pairs 5 = .ok (.bipush 9, 2) := by decide +kernel
theorem dX6_pairs_7 : decode cX6_pairs 7 = .ok (.if_icmp .ge 21, 3) := by decide +kernel
theorem dX6_pairs_10 : decode cX6_pairs 10 = .ok (.iload_n 1, 1) := by decide +kernel
theorem dX6_pairs_11 : decode cX6_pairs 11 = .ok (.aload_n 0, 1) := by decide +kernel
theorem dX6_pairs_12 : decode cX6_pairs 12 = .ok (.getfield 9, 3) := by decide +kernel
theorem dX6_pairs_15 : decode cX6_pairs 15 = .ok (.iload_n 2, 1) := by decide +kernel
theorem dX6_pairs_16 : decode cX6_pairs 16 = .ok (.iaload, 1) := by decide +kernel
theorem dX6_pairs_17 : decode cX6_pairs 17 = .ok (.invokestatic 80, 3) := by decide +kernel
theorem dX6_pairs_20 : decode cX6_pairs 20 = .ok (.iadd, 1) := by decide +kernel
theorem dX6_pairs_21 : decode cX6_pairs 21 = .ok (.istore_n 1, 1) := by decide +kernel
theorem dX6_pairs_22 : decode cX6_pairs 22 = .ok (.iinc 2 1, 3) := by decide +kernel
theorem dX6_pairs_25 : decode cX6_pairs 25 = .ok (.goto (-21), 3) := by decide +kernel
theorem dX6_pairs_28 : decode cX6_pairs 28 = .ok (.iload_n 1, 1) := by decide +kernel
theorem dX6_pairs_29 : decode cX6_pairs 29 = .ok (.ireturn, 1) := by decide +kernel
set_option maxRecDepth 20000 in
theorem ggX6_edges_X6_coverers : GoodIn wsX6_edges wsX6_coverers := goodIn_r _ [6, 7, 8, 9, 10, 11, 5, 12, 1, 13, 14, 15, 16, 17, 18, 26, 27, 28, 29, 30, 31] (by decide +kernel) (by decide +kernel)
set_option maxRecDepth 20000 in
theorem gX6_edges_X6_coverers : GoodIn wsX6_edges (wsV RX6 85 RX6 yX6_coverers wsX6_coverers) := goodIn_app (goodIn_of _ (by decide +kernel)) ggX6_edges_X6_coverers
set_option maxRecDepth 20000 in
theorem ggX6_edges_J6_bitCount_0f7a4 : GoodIn wsX6_edges wsJ6_bitCount_0f7a4 := goodIn_r _ [22, 23, 24, 25] (by decide +kernel) (by decide +kernel)
set_option maxRecDepth 20000 in
theorem gX6_edges_J6_bitCount_0f7a4 : GoodIn wsX6_edges (va_wsS RX6 80 yJ6_bitCount_0f7a4 wsJ6_bitCount_0f7a4) := goodIn_app (goodIn_of _ (by decide +kernel)) ggX6_edges_J6_bitCount_0f7a4
theorem dX6_edges_0 : decode cX6_edges 0 = .ok (.iconst 0, 1) := by decide +kernel
theorem dX6_edges_1 : decode cX6_edges 1 = .ok (.istore_n 1, 1) := by decide +kernel
theorem dX6_edges_2 : decode cX6_edges 2 = .ok (.iconst 0, 1) := by decide +kernel
theorem dX6_edges_3 : decode cX6_edges 3 = .ok (.istore_n 2, 1) := by decide +kernel
theorem dX6_edges_4 : decode cX6_edges 4 = .ok (.iload_n 2, 1) := by decide +kernel
theorem dX6_edges_5 : decode cX6_edges 5 = .ok (.bipush 9, 2) := by decide +kernel
theorem dX6_edges_7 : decode cX6_edges 7 = .ok (.if_icmp .ge 24, 3) := by decide +kernel
theorem dX6_edges_10 : decode cX6_edges 10 = .ok (.iload_n 1, 1) := by decide +kernel
theorem dX6_edges_11 : decode cX6_edges 11 = .ok (.aload_n 0, 1) := by decide +kernel
theorem dX6_edges_12 : decode cX6_edges 12 = .ok (.iload_n 2, 1) := by decide +kernel
theorem dX6_edges_13 : decode cX6_edges 13 = .ok (.aload_n 0, 1) := by decide +kernel
theorem dX6_edges_14 : decode cX6_edges 14 = .ok (.getfield 25, 3) := by decide +kernel
theorem dX6_edges_17 : decode cX6_edges 17 = .ok (.invokevirtual 85, 3) := by decide +kernel
theorem dX6_edges_20 : decode cX6_edges 20 = .ok (.invokestatic 80, 3) := by decide +kernel
theorem dX6_edges_23 : decode cX6_edges 23 = .ok (.iadd, 1) := by decide +kernel
theorem dX6_edges_24 : decode cX6_edges 24 = .ok (.istore_n 1, 1) := by decide +kernel
theorem dX6_edges_25 : decode cX6_edges 25 = .ok (.iinc 2 1, 3) := by decide +kernel
theorem dX6_edges_28 : decode cX6_edges 28 = .ok (.goto (-24), 3) := by decide +kernel
theorem dX6_edges_31 : decode cX6_edges 31 = .ok (.iload_n 1, 1) := by decide +kernel
theorem dX6_edges_32 : decode cX6_edges 32 = .ok (.ireturn, 1) := by decide +kernel
set_option maxRecDepth 20000 in
theorem ggX6_leastOf_X9_isIn : GoodIn wsX6_leastOf wsX9_isIn := goodIn_r _ [3] (by decide +kernel) (by decide +kernel)
set_option maxRecDepth 20000 in
theorem gX6_leastOf_X9_isIn_n43 : GoodIn wsX6_leastOf (wsX9_isIn) := ggX6_leastOf_X9_isIn
set_option maxRecDepth 20000 in
theorem ggX6_leastOf_X6_atLeast : GoodIn wsX6_leastOf wsX6_atLeast := goodIn_r _ [8, 9, 10, 11, 12, 7, 13, 14, 1, 2, 3, 15, 16, 17, 18, 19, 20] (by decide +kernel) (by decide +kernel)
set_option maxRecDepth 20000 in
theorem gX6_leastOf_X6_atLeast : GoodIn wsX6_leastOf (wsV RX6 51 RX6 yX6_atLeast wsX6_atLeast) := goodIn_app (goodIn_of _ (by decide +kernel)) ggX6_leastOf_X6_atLeast
theorem dX6_leastOf_0 : decode cX6_leastOf 0 = .ok (.iconst 0, 1) := by decide +kernel
theorem dX6_leastOf_1 : decode cX6_leastOf 1 = .ok (.istore_n 2, 1) := by decide +kernel
theorem dX6_leastOf_2 : decode cX6_leastOf 2 = .ok (.iload_n 2, 1) := by decide +kernel
theorem dX6_leastOf_3 : decode cX6_leastOf 3 = .ok (.bipush 9, 2) := by decide +kernel
theorem dX6_leastOf_5 : decode cX6_leastOf 5 = .ok (.if_icmp .ge 31, 3) := by decide +kernel
theorem dX6_leastOf_8 : decode cX6_leastOf 8 = .ok (.iload_n 1, 1) := by decide +kernel
theorem dX6_leastOf_9 : decode cX6_leastOf 9 = .ok (.iload_n 2, 1) := by decide +kernel
theorem dX6_leastOf_10 : decode cX6_leastOf 10 = .ok (.invokestatic 43, 3) := by decide +kernel
theorem dX6_leastOf_13 : decode cX6_leastOf 13 = .ok (.ifCond .eq 17, 3) := by decide +kernel
theorem dX6_leastOf_16 : decode cX6_leastOf 16 = .ok (.iload_n 1, 1) := by decide +kernel
theorem dX6_leastOf_17 : decode cX6_leastOf 17 = .ok (.aload_n 0, 1) := by decide +kernel
theorem dX6_leastOf_18 : decode cX6_leastOf 18 = .ok (.iload_n 2, 1) := by decide +kernel
theorem dX6_leastOf_19 : decode cX6_leastOf 19 = .ok (.invokevirtual 51, 3) := by decide +kernel
theorem dX6_leastOf_22 : decode cX6_leastOf 22 = .ok (.iconst (-1), 1) := by decide +kernel
theorem dX6_leastOf_23 : decode cX6_leastOf 23 = .ok (.ixor, 1) := by decide +kernel
theorem dX6_leastOf_24 : decode cX6_leastOf 24 = .ok (.iand, 1) := by decide +kernel
theorem dX6_leastOf_25 : decode cX6_leastOf 25 = .ok (.ifCond .ne 5, 3) := by decide +kernel
theorem dX6_leastOf_28 : decode cX6_leastOf 28 = .ok (.iload_n 2, 1) := by decide +kernel
theorem dX6_leastOf_29 : decode cX6_leastOf 29 = .ok (.ireturn, 1) := by decide +kernel
theorem dX6_leastOf_30 : decode cX6_leastOf 30 = .ok (.iinc 2 1, 3) := by decide +kernel
theorem dX6_leastOf_33 : decode cX6_leastOf 33 = .ok (.goto (-31), 3) := by decide +kernel
theorem dX6_leastOf_36 : decode cX6_leastOf 36 = .ok (.bipush (-2), 2) := by decide +kernel
theorem dX6_leastOf_38 : decode cX6_leastOf 38 = .ok (.ireturn, 1) := by decide +kernel
set_option maxRecDepth 20000 in
theorem ggX6_greatestOf_X9_isIn : GoodIn wsX6_greatestOf wsX9_isIn := goodIn_r _ [3] (by decide +kernel) (by decide +kernel)
set_option maxRecDepth 20000 in
theorem gX6_greatestOf_X9_isIn_n43 : GoodIn wsX6_greatestOf (wsX9_isIn) := ggX6_greatestOf_X9_isIn
set_option maxRecDepth 20000 in
theorem ggX6_greatestOf_X6_atMost : GoodIn wsX6_greatestOf wsX6_atMost := goodIn_r _ [8, 9, 10, 11, 12, 7, 13, 14, 1, 2, 3, 15, 16, 17, 18, 19, 20] (by decide +kernel) (by decide +kernel)
set_option maxRecDepth 20000 in
theorem gX6_greatestOf_X6_atMost : GoodIn wsX6_greatestOf (wsV RX6 55 RX6 yX6_atMost wsX6_atMost) := goodIn_app (goodIn_of _ (by decide +kernel)) ggX6_greatestOf_X6_atMost
theorem dX6_greatestOf_0 : decode cX6_greatestOf 0 = .ok (.iconst 0, 1) := by decide +kernel
theorem dX6_greatestOf_1 : decode cX6_greatestOf 1 = .ok (.istore_n 2, 1) := by decide +kernel
theorem dX6_greatestOf_2 : decode cX6_greatestOf 2 = .ok (.iload_n 2, 1) := by decide +kernel
theorem dX6_greatestOf_3 : decode cX6_greatestOf 3 = .ok (.bipush 9, 2) := by decide +kernel
theorem dX6_greatestOf_5 : decode cX6_greatestOf 5 = .ok (.if_icmp .ge 31, 3) := by decide +kernel
theorem dX6_greatestOf_8 : decode cX6_greatestOf 8 = .ok (.iload_n 1, 1) := by decide +kernel
theorem dX6_greatestOf_9 : decode cX6_greatestOf 9 = .ok (.iload_n 2, 1) := by decide +kernel
theorem dX6_greatestOf_10 : decode cX6_greatestOf 10 = .ok (.invokestatic 43, 3) := by decide +kernel
theorem dX6_greatestOf_13 : decode cX6_greatestOf 13 = .ok (.ifCond .eq 17, 3) := by decide +kernel
theorem dX6_greatestOf_16 : decode cX6_greatestOf 16 = .ok (.iload_n 1, 1) := by decide +kernel
theorem dX6_greatestOf_17 : decode cX6_greatestOf 17 = .ok (.aload_n 0, 1) := by decide +kernel
theorem dX6_greatestOf_18 : decode cX6_greatestOf 18 = .ok (.iload_n 2, 1) := by decide +kernel
theorem dX6_greatestOf_19 : decode cX6_greatestOf 19 = .ok (.invokevirtual 55, 3) := by decide +kernel
theorem dX6_greatestOf_22 : decode cX6_greatestOf 22 = .ok (.iconst (-1), 1) := by decide +kernel
theorem dX6_greatestOf_23 : decode cX6_greatestOf 23 = .ok (.ixor, 1) := by decide +kernel
theorem dX6_greatestOf_24 : decode cX6_greatestOf 24 = .ok (.iand, 1) := by decide +kernel
theorem dX6_greatestOf_25 : decode cX6_greatestOf 25 = .ok (.ifCond .ne 5, 3) := by decide +kernel
theorem dX6_greatestOf_28 : decode cX6_greatestOf 28 = .ok (.iload_n 2, 1) := by decide +kernel
theorem dX6_greatestOf_29 : decode cX6_greatestOf 29 = .ok (.ireturn, 1) := by decide +kernel
theorem dX6_greatestOf_30 : decode cX6_greatestOf 30 = .ok (.iinc 2 1, 3) := by decide +kernel
theorem dX6_greatestOf_33 : decode cX6_greatestOf 33 = .ok (.goto (-31), 3) := by decide +kernel
theorem dX6_greatestOf_36 : decode cX6_greatestOf 36 = .ok (.bipush (-2), 2) := by decide +kernel
theorem dX6_greatestOf_38 : decode cX6_greatestOf 38 = .ok (.ireturn, 1) := by decide +kernel
set_option maxRecDepth 20000 in
theorem ggX6_isRow_X9_isIn : GoodIn wsX6_isRow wsX9_isIn := goodIn_r _ [5] (by decide +kernel) (by decide +kernel)
set_option maxRecDepth 20000 in
theorem gX6_isRow_X9_isIn_n43 : GoodIn wsX6_isRow (wsX9_isIn) := ggX6_isRow_X9_isIn
theorem dX6_isRow_0 : decode cX6_isRow 0 = .ok (.iconst 0, 1) := by decide +kernel
theorem dX6_isRow_1 : decode cX6_isRow 1 = .ok (.istore_n 2, 1) := by decide +kernel
theorem dX6_isRow_2 : decode cX6_isRow 2 = .ok (.iload_n 2, 1) := by decide +kernel
theorem dX6_isRow_3 : decode cX6_isRow 3 = .ok (.bipush 9, 2) := by decide +kernel
theorem dX6_isRow_5 : decode cX6_isRow 5 = .ok (.if_icmp .ge 43, 3) := by decide +kernel
theorem dX6_isRow_8 : decode cX6_isRow 8 = .ok (.iload_n 1, 1) := by decide +kernel
theorem dX6_isRow_9 : decode cX6_isRow 9 = .ok (.iload_n 2, 1) := by decide +kernel
theorem dX6_isRow_10 : decode cX6_isRow 10 = .ok (.invokestatic 43, 3) := by decide +kernel
theorem dX6_isRow_13 : decode cX6_isRow 13 = .ok (.ifCond .eq 29, 3) := by decide +kernel
theorem dX6_isRow_16 : decode cX6_isRow 16 = .ok (.iload_n 1, 1) := by decide +kernel
theorem dX6_isRow_17 : decode cX6_isRow 17 = .ok (.aload_n 0, 1) := by decide +kernel
theorem dX6_isRow_18 : decode cX6_isRow 18 = .ok (.getfield 9, 3) := by decide +kernel
theorem dX6_isRow_21 : decode cX6_isRow 21 = .ok (.iload_n 2, 1) := by decide +kernel
theorem dX6_isRow_22 : decode cX6_isRow 22 = .ok (.iaload, 1) := by decide +kernel
theorem dX6_isRow_23 : decode cX6_isRow 23 = .ok (.aload_n 0, 1) := by decide +kernel
theorem dX6_isRow_24 : decode cX6_isRow 24 = .ok (.getfield 15, 3) := by decide +kernel
theorem dX6_isRow_27 : decode cX6_isRow 27 = .ok (.iload_n 2, 1) := by decide +kernel
theorem dX6_isRow_28 : decode cX6_isRow 28 = .ok (.iaload, 1) := by decide +kernel
theorem dX6_isRow_29 : decode cX6_isRow 29 = .ok (.ior, 1) := by decide +kernel
theorem dX6_isRow_30 : decode cX6_isRow 30 = .ok (.iconst 1, 1) := by decide +kernel
theorem dX6_isRow_31 : decode cX6_isRow 31 = .ok (.iload_n 2, 1) := by decide +kernel
theorem dX6_isRow_32 : decode cX6_isRow 32 = .ok (.ishl, 1) := by decide +kernel
theorem dX6_isRow_33 : decode cX6_isRow 33 = .ok (.ior, 1) := by decide +kernel
theorem dX6_isRow_34 : decode cX6_isRow 34 = .ok (.iconst (-1), 1) := by decide +kernel
theorem dX6_isRow_35 : decode cX6_isRow 35 = .ok (.ixor, 1) := by decide +kernel
theorem dX6_isRow_36 : decode cX6_isRow 36 = .ok (.iand, 1) := by decide +kernel
theorem dX6_isRow_37 : decode cX6_isRow 37 = .ok (.ifCond .eq 5, 3) := by decide +kernel
theorem dX6_isRow_40 : decode cX6_isRow 40 = .ok (.iconst 0, 1) := by decide +kernel
theorem dX6_isRow_41 : decode cX6_isRow 41 = .ok (.ireturn, 1) := by decide +kernel
theorem dX6_isRow_42 : decode cX6_isRow 42 = .ok (.iinc 2 1, 3) := by decide +kernel
theorem dX6_isRow_45 : decode cX6_isRow 45 = .ok (.goto (-43), 3) := by decide +kernel
theorem dX6_isRow_48 : decode cX6_isRow 48 = .ok (.iconst 1, 1) := by decide +kernel
theorem dX6_isRow_49 : decode cX6_isRow 49 = .ok (.ireturn, 1) := by decide +kernel
set_option maxRecDepth 20000 in
theorem ggX6_leastRow_X6_leastFree : GoodIn wsX6_leastRow wsX6_leastFree := goodIn_r _ [6, 7, 8, 9, 10, 11, 12, 13, 14, 15, 16] (by decide +kernel) (by decide +kernel)
set_option maxRecDepth 20000 in
theorem gX6_leastRow_X6_leastFree : GoodIn wsX6_leastRow (wsV RX6 88 RX6 yX6_leastFree wsX6_leastFree) := goodIn_app (goodIn_of _ (by decide +kernel)) ggX6_leastRow_X6_leastFree
theorem dX6_leastRow_0 : decode cX6_leastRow 0 = .ok (.aload_n 0, 1) := by decide +kernel
theorem dX6_leastRow_1 : decode cX6_leastRow 1 = .ok (.getfield 25, 3) := by decide +kernel
theorem dX6_leastRow_4 : decode cX6_leastRow 4 = .ok (.istore_n 2, 1) := by decide +kernel
theorem dX6_leastRow_5 : decode cX6_leastRow 5 = .ok (.iconst 0, 1) := by decide +kernel
theorem dX6_leastRow_6 : decode cX6_leastRow 6 = .ok (.istore_n 3, 1) := by decide +kernel
theorem dX6_leastRow_7 : decode cX6_leastRow 7 = .ok (.iconst 0, 1) := by decide +kernel
theorem dX6_leastRow_8 : decode cX6_leastRow 8 = .ok (.istore 4, 2) := by decide +kernel
theorem dX6_leastRow_10 : decode cX6_leastRow 10 = .ok (.iload 4, 2) := by decide +kernel
theorem dX6_leastRow_12 : decode cX6_leastRow 12 = .ok (.bipush 9, 2) := by decide +kernel
theorem dX6_leastRow_14 : decode cX6_leastRow 14 = .ok (.if_icmp .ge 45, 3) := by decide +kernel
theorem dX6_leastRow_17 : decode cX6_leastRow 17 = .ok (.iload_n 3, 1) := by decide +kernel
theorem dX6_leastRow_18 : decode cX6_leastRow 18 = .ok (.aload_n 1, 1) := by decide +kernel
theorem dX6_leastRow_19 : decode cX6_leastRow 19 = .ok (.arraylength, 1) := by decide +kernel
theorem dX6_leastRow_20 : decode cX6_leastRow 20 = .ok (.if_icmp .ge 39, 3) := by decide +kernel
theorem dX6_leastRow_23 : decode cX6_leastRow 23 = .ok (.aload_n 0, 1) := by decide +kernel
theorem dX6_leastRow_24 : decode cX6_leastRow 24 = .ok (.iload_n 2, 1) := by decide +kernel
theorem dX6_leastRow_25 : decode cX6_leastRow 25 = .ok (.invokevirtual 88, 3) := by decide +kernel
theorem dX6_leastRow_28 : decode cX6_leastRow 28 = .ok (.istore 5, 2) := by decide +kernel
theorem dX6_leastRow_30 : decode cX6_leastRow 30 = .ok (.iload 5, 2) := by decide +kernel
theorem dX6_leastRow_32 : decode cX6_leastRow 32 = .ok (.iconst (-1), 1) := by decide +kernel
theorem dX6_leastRow_33 : decode cX6_leastRow 33 = .ok (.if_icmp .eq 20, 3) := by decide +kernel
theorem dX6_leastRow_36 : decode cX6_leastRow 36 = .ok (.aload_n 1, 1) := by decide +kernel
theorem dX6_leastRow_37 : decode cX6_leastRow 37 = .ok (.iload_n 3, 1) := by decide +kernel
theorem dX6_leastRow_38 : decode cX6_leastRow 38 = .ok (.iload 5, 2) := by decide +kernel
theorem dX6_leastRow_40 : decode cX6_leastRow 40 = .ok (.iastore, 1) := by decide +kernel
theorem dX6_leastRow_41 : decode cX6_leastRow 41 = .ok (.iinc 3 1, 3) := by decide +kernel
theorem dX6_leastRow_44 : decode cX6_leastRow 44 = .ok (.iload_n 2, 1) := by decide +kernel
theorem dX6_leastRow_45 : decode cX6_leastRow 45 = .ok (.iconst 1, 1) := by decide +kernel
theorem dX6_leastRow_46 : decode cX6_leastRow 46 = .ok (.iload 5, 2) := by decide +kernel
theorem dX6_leastRow_48 : decode cX6_leastRow 48 = .ok (.ishl, 1) := by decide +kernel
theorem dX6_leastRow_49 : decode cX6_leastRow 49 = .ok (.iconst (-1), 1) := by decide +kernel
theorem dX6_leastRow_50 : decode cX6_leastRow 50 = .ok (.ixor, 1) := by decide +kernel
theorem dX6_leastRow_51 : decode cX6_leastRow 51 = .ok (.iand, 1) := by decide +kernel
theorem dX6_leastRow_52 : decode cX6_leastRow 52 = .ok (.istore_n 2, 1) := by decide +kernel
theorem dX6_leastRow_53 : decode cX6_leastRow 53 = .ok (.iinc 4 1, 3) := by decide +kernel
theorem dX6_leastRow_56 : decode cX6_leastRow 56 = .ok (.goto (-46), 3) := by decide +kernel
theorem dX6_leastRow_59 : decode cX6_leastRow 59 = .ok (.iload_n 3, 1) := by decide +kernel
theorem dX6_leastRow_60 : decode cX6_leastRow 60 = .ok (.ireturn, 1) := by decide +kernel
set_option maxRecDepth 20000 in
theorem ggX6_leastFree_X9_isIn : GoodIn wsX6_leastFree wsX9_isIn := goodIn_r _ [4] (by decide +kernel) (by decide +kernel)
set_option maxRecDepth 20000 in
theorem gX6_leastFree_X9_isIn_n43 : GoodIn wsX6_leastFree (wsX9_isIn) := ggX6_leastFree_X9_isIn
theorem dX6_leastFree_0 : decode cX6_leastFree 0 = .ok (.iconst 0, 1) := by decide +kernel
theorem dX6_leastFree_1 : decode cX6_leastFree 1 = .ok (.istore_n 2, 1) := by decide +kernel
theorem dX6_leastFree_2 : decode cX6_leastFree 2 = .ok (.iload_n 2, 1) := by decide +kernel
theorem dX6_leastFree_3 : decode cX6_leastFree 3 = .ok (.bipush 9, 2) := by decide +kernel
theorem dX6_leastFree_5 : decode cX6_leastFree 5 = .ok (.if_icmp .ge 30, 3) := by decide +kernel
theorem dX6_leastFree_8 : decode cX6_leastFree 8 = .ok (.iload_n 1, 1) := by decide +kernel
theorem dX6_leastFree_9 : decode cX6_leastFree 9 = .ok (.iload_n 2, 1) := by decide +kernel
theorem dX6_leastFree_10 : decode cX6_leastFree 10 = .ok (.invokestatic 43, 3) := by decide +kernel
theorem dX6_leastFree_13 : decode cX6_leastFree 13 = .ok (.ifCond .eq 16, 3) := by decide +kernel
theorem dX6_leastFree_16 : decode cX6_leastFree 16 = .ok (.aload_n 0, 1) := by decide +kernel
theorem dX6_leastFree_17 : decode cX6_leastFree 17 = .ok (.getfield 15, 3) := by decide +kernel
theorem dX6_leastFree_20 : decode cX6_leastFree 20 = .ok (.iload_n 2, 1) := by decide +kernel
theorem dX6_leastFree_21 : decode cX6_leastFree 21 = .ok (.iaload, 1) := by decide +kernel
theorem dX6_leastFree_22 : decode cX6_leastFree 22 = .ok (.iload_n 1, 1) := by decide +kernel
theorem dX6_leastFree_23 : decode cX6_leastFree 23 = .ok (.iand, 1) := by decide +kernel
theorem dX6_leastFree_24 : decode cX6_leastFree 24 = .ok (.ifCond .ne 5, 3) := by decide +kernel
theorem dX6_leastFree_27 : decode cX6_leastFree 27 = .ok (.iload_n 2, 1) := by decide +kernel
theorem dX6_leastFree_28 : decode cX6_leastFree 28 = .ok (.ireturn, 1) := by decide +kernel
theorem dX6_leastFree_29 : decode cX6_leastFree 29 = .ok (.iinc 2 1, 3) := by decide +kernel
theorem dX6_leastFree_32 : decode cX6_leastFree 32 = .ok (.goto (-30), 3) := by decide +kernel
theorem dX6_leastFree_35 : decode cX6_leastFree 35 = .ok (.iconst (-1), 1) := by decide +kernel
theorem dX6_leastFree_36 : decode cX6_leastFree 36 = .ok (.ireturn, 1) := by decide +kernel
set_option maxRecDepth 20000 in
theorem ggX6_isSpread_X9_isIn : GoodIn wsX6_isSpread wsX9_isIn := goodIn_r _ [5] (by decide +kernel) (by decide +kernel)
set_option maxRecDepth 20000 in
theorem gX6_isSpread_X9_isIn_n43 : GoodIn wsX6_isSpread (wsX9_isIn) := ggX6_isSpread_X9_isIn
theorem dX6_isSpread_0 : decode cX6_isSpread 0 = .ok (.iload_n 1, 1) := by decide +kernel
theorem dX6_isSpread_1 : decode cX6_isSpread 1 = .ok (.aload_n 0, 1) := by decide +kernel
theorem dX6_isSpread_2 : decode cX6_isSpread 2 = .ok (.getfield 25, 3) := by decide +kernel
theorem dX6_isSpread_5 : decode cX6_isSpread 5 = .ok (.iconst (-1), 1) := by decide +kernel
theorem dX6_isSpread_6 : decode cX6_isSpread 6 = .ok (.ixor, 1) := by decide +kernel
theorem dX6_isSpread_7 : decode cX6_isSpread 7 = .ok (.iand, 1) := by decide +kernel
theorem dX6_isSpread_8 : decode cX6_isSpread 8 = .ok (.ifCond .eq 5, 3) := by decide +kernel
theorem dX6_isSpread_11 : decode cX6_isSpread 11 = .ok (.iconst 0, 1) := by decide +kernel
theorem dX6_isSpread_12 : decode cX6_isSpread 12 = .ok (.ireturn, 1) := by decide +kernel
theorem dX6_isSpread_13 : decode cX6_isSpread 13 = .ok (.iconst 0, 1) := by decide +kernel
theorem dX6_isSpread_14 : decode cX6_isSpread 14 = .ok (.istore_n 2, 1) := by decide +kernel
theorem dX6_isSpread_15 : decode cX6_isSpread 15 = .ok (.iload_n 2, 1) := by decide +kernel
theorem dX6_isSpread_16 : decode cX6_isSpread 16 = .ok (.bipush 9, 2) := by decide +kernel
theorem dX6_isSpread_18 : decode cX6_isSpread 18 = .ok (.if_icmp .ge 30, 3) := by decide +kernel
theorem dX6_isSpread_21 : decode cX6_isSpread 21 = .ok (.iload_n 1, 1) := by decide +kernel
theorem dX6_isSpread_22 : decode cX6_isSpread 22 = .ok (.iload_n 2, 1) := by decide +kernel
theorem dX6_isSpread_23 : decode cX6_isSpread 23 = .ok (.invokestatic 43, 3) := by decide +kernel
theorem dX6_isSpread_26 : decode cX6_isSpread 26 = .ok (.ifCond .eq 16, 3) := by decide +kernel
theorem dX6_isSpread_29 : decode cX6_isSpread 29 = .ok (.iload_n 1, 1) := by decide +kernel
theorem dX6_isSpread_30 : decode cX6_isSpread 30 = .ok (.aload_n 0, 1) := by decide +kernel
theorem dX6_isSpread_31 : decode cX6_isSpread 31 = .ok (.getfield 9, 3) := by decide +kernel
theorem dX6_isSpread_34 : decode cX6_isSpread 34 = .ok (.iload_n 2, 1) := by decide +kernel
theorem dX6_isSpread_35 : decode cX6_isSpread 35 = .ok (.iaload, 1) := by decide +kernel
theorem dX6_isSpread_36 : decode cX6_isSpread 36 = .ok (.iand, 1) := by decide +kernel
theorem dX6_isSpread_37 : decode cX6_isSpread 37 = .ok (.ifCond .eq 5, 3) := by decide +kernel
theorem dX6_isSpread_40 : decode cX6_isSpread 40 = .ok (.iconst 0, 1) := by decide +kernel
theorem dX6_isSpread_41 : decode cX6_isSpread 41 = .ok (.ireturn, 1) := by decide +kernel
theorem dX6_isSpread_42 : decode cX6_isSpread 42 = .ok (.iinc 2 1, 3) := by decide +kernel
theorem dX6_isSpread_45 : decode cX6_isSpread 45 = .ok (.goto (-30), 3) := by decide +kernel
theorem dX6_isSpread_48 : decode cX6_isSpread 48 = .ok (.iconst 1, 1) := by decide +kernel
theorem dX6_isSpread_49 : decode cX6_isSpread 49 = .ok (.ireturn, 1) := by decide +kernel
set_option maxRecDepth 20000 in
theorem ggX6_widest_X6_isSpread : GoodIn wsX6_widest wsX6_isSpread := goodIn_r _ [9, 10, 11, 12, 13, 14, 22, 23, 24, 25, 26, 27] (by decide +kernel) (by decide +kernel)
set_option maxRecDepth 20000 in
theorem gX6_widest_X6_isSpread : GoodIn wsX6_widest (wsV RX6 91 RX6 yX6_isSpread wsX6_isSpread) := goodIn_app (goodIn_of _ (by decide +kernel)) ggX6_widest_X6_isSpread
set_option maxRecDepth 20000 in
theorem ggX6_widest_J6_bitCount_0f7a4 : GoodIn wsX6_widest wsJ6_bitCount_0f7a4 := goodIn_r _ [18, 19, 20, 21] (by decide +kernel) (by decide +kernel)
set_option maxRecDepth 20000 in
theorem gX6_widest_J6_bitCount_0f7a4 : GoodIn wsX6_widest (va_wsS RX6 80 yJ6_bitCount_0f7a4 wsJ6_bitCount_0f7a4) := goodIn_app (goodIn_of _ (by decide +kernel)) ggX6_widest_J6_bitCount_0f7a4
theorem dX6_widest_0 : decode cX6_widest 0 = .ok (.iconst 0, 1) := by decide +kernel
theorem dX6_widest_1 : decode cX6_widest 1 = .ok (.istore_n 1, 1) := by decide +kernel
theorem dX6_widest_2 : decode cX6_widest 2 = .ok (.iconst 0, 1) := by decide +kernel
theorem dX6_widest_3 : decode cX6_widest 3 = .ok (.istore_n 2, 1) := by decide +kernel
theorem dX6_widest_4 : decode cX6_widest 4 = .ok (.iload_n 2, 1) := by decide +kernel
theorem dX6_widest_5 : decode cX6_widest 5 = .ok (.sipush 512, 3) := by decide +kernel
theorem dX6_widest_8 : decode cX6_widest 8 = .ok (.if_icmp .ge 26, 3) := by decide +kernel
theorem dX6_widest_11 : decode cX6_widest 11 = .ok (.aload_n 0, 1) := by decide +kernel
theorem dX6_widest_12 : decode cX6_widest 12 = .ok (.iload_n 2, 1) := by decide +kernel
theorem dX6_widest_13 : decode cX6_widest 13 = .ok (.invokevirtual 91, 3) := by decide +kernel
theorem dX6_widest_16 : decode cX6_widest 16 = .ok (.ifCond .eq 12, 3) := by decide +kernel
theorem dX6_widest_19 : decode cX6_widest 19 = .ok (.iload_n 1, 1) := by decide +kernel
theorem dX6_widest_20 : decode cX6_widest 20 = .ok (.iload_n 2, 1) := by decide +kernel
theorem dX6_widest_21 : decode cX6_widest 21 = .ok (.invokestatic 80, 3) := by decide +kernel
theorem dX6_widest_24 : decode cX6_widest 24 = .ok (.invokestatic 69, 3) := by decide +kernel
theorem dX6_widest_27 : decode cX6_widest 27 = .ok (.istore_n 1, 1) := by decide +kernel
theorem dX6_widest_28 : decode cX6_widest 28 = .ok (.iinc 2 1, 3) := by decide +kernel
theorem dX6_widest_31 : decode cX6_widest 31 = .ok (.goto (-27), 3) := by decide +kernel
theorem dX6_widest_34 : decode cX6_widest 34 = .ok (.iload_n 1, 1) := by decide +kernel
theorem dX6_widest_35 : decode cX6_widest 35 = .ok (.ireturn, 1) := by decide +kernel
set_option maxRecDepth 20000 in
theorem ggX6_spreadSets_X6_isSpread : GoodIn wsX6_spreadSets wsX6_isSpread := goodIn_r _ [5, 6, 7, 8, 9, 10, 11, 12, 13, 14, 15, 16] (by decide +kernel) (by decide +kernel)
set_option maxRecDepth 20000 in
theorem gX6_spreadSets_X6_isSpread : GoodIn wsX6_spreadSets (wsV RX6 91 RX6 yX6_isSpread wsX6_isSpread) := goodIn_app (goodIn_of _ (by decide +kernel)) ggX6_spreadSets_X6_isSpread
theorem dX6_spreadSets_0 : decode cX6_spreadSets 0 = .ok (.iconst 0, 1) := by decide +kernel
theorem dX6_spreadSets_1 : decode cX6_spreadSets 1 = .ok (.istore_n 1, 1) := by decide +kernel
theorem dX6_spreadSets_2 : decode cX6_spreadSets 2 = .ok (.iconst 0, 1) := by decide +kernel
theorem dX6_spreadSets_3 : decode cX6_spreadSets 3 = .ok (.istore_n 2, 1) := by decide +kernel
theorem dX6_spreadSets_4 : decode cX6_spreadSets 4 = .ok (.iload_n 2, 1) := by decide +kernel
theorem dX6_spreadSets_5 : decode cX6_spreadSets 5 = .ok (.sipush 512, 3) := by decide +kernel
theorem dX6_spreadSets_8 : decode cX6_spreadSets 8 = .ok (.if_icmp .ge 20, 3) := by decide +kernel
theorem dX6_spreadSets_11 : decode cX6_spreadSets 11 = .ok (.aload_n 0, 1) := by decide +kernel
theorem dX6_spreadSets_12 : decode cX6_spreadSets 12 = .ok (.iload_n 2, 1) := by decide +kernel
theorem dX6_spreadSets_13 : decode cX6_spreadSets 13 = .ok (.invokevirtual 91, 3) := by decide +kernel
theorem dX6_spreadSets_16 : decode cX6_spreadSets 16 = .ok (.ifCond .eq 6, 3) := by decide +kernel
theorem dX6_spreadSets_19 : decode cX6_spreadSets 19 = .ok (.iinc 1 1, 3) := by decide +kernel
theorem dX6_spreadSets_22 : decode cX6_spreadSets 22 = .ok (.iinc 2 1, 3) := by decide +kernel
theorem dX6_spreadSets_25 : decode cX6_spreadSets 25 = .ok (.goto (-21), 3) := by decide +kernel
theorem dX6_spreadSets_28 : decode cX6_spreadSets 28 = .ok (.iload_n 1, 1) := by decide +kernel
theorem dX6_spreadSets_29 : decode cX6_spreadSets 29 = .ok (.ireturn, 1) := by decide +kernel
set_option maxRecDepth 20000 in
theorem ggX6_leastIrreducible_X9_isIn : GoodIn wsX6_leastIrreducible wsX9_isIn := goodIn_r _ [3] (by decide +kernel) (by decide +kernel)
set_option maxRecDepth 20000 in
theorem gX6_leastIrreducible_X9_isIn_n43 : GoodIn wsX6_leastIrreducible (wsX9_isIn) := ggX6_leastIrreducible_X9_isIn
set_option maxRecDepth 20000 in
theorem ggX6_leastIrreducible_X6_covered : GoodIn wsX6_leastIrreducible wsX6_covered := goodIn_r _ [8, 9, 10, 11, 12, 13, 7, 14, 15, 1, 2, 3, 16, 17, 18, 30, 31, 32, 33, 34, 35] (by decide +kernel) (by decide +kernel)
set_option maxRecDepth 20000 in
theorem gX6_leastIrreducible_X6_covered : GoodIn wsX6_leastIrreducible (wsV RX6 94 RX6 yX6_covered wsX6_covered) := goodIn_app (goodIn_of _ (by decide +kernel)) ggX6_leastIrreducible_X6_covered
set_option maxRecDepth 20000 in
theorem ggX6_leastIrreducible_J6_bitCount_0f7a4 : GoodIn wsX6_leastIrreducible wsJ6_bitCount_0f7a4 := goodIn_r _ [22, 23, 24, 25] (by decide +kernel) (by decide +kernel)
set_option maxRecDepth 20000 in
theorem gX6_leastIrreducible_J6_bitCount_0f7a4 : GoodIn wsX6_leastIrreducible (va_wsS RX6 80 yJ6_bitCount_0f7a4 wsJ6_bitCount_0f7a4) := goodIn_app (goodIn_of _ (by decide +kernel)) ggX6_leastIrreducible_J6_bitCount_0f7a4
set_option maxRecDepth 20000 in
theorem ggX6_leastIrreducible_X6_coverers : GoodIn wsX6_leastIrreducible wsX6_coverers := goodIn_r _ [29, 10, 9, 11, 12, 13, 7, 14, 15, 1, 2, 3, 16, 17, 18, 30, 31, 32, 33, 34, 35] (by decide +kernel) (by decide +kernel)
set_option maxRecDepth 20000 in
theorem gX6_leastIrreducible_X6_coverers : GoodIn wsX6_leastIrreducible (wsV RX6 85 RX6 yX6_coverers wsX6_coverers) := goodIn_app (goodIn_of _ (by decide +kernel)) ggX6_leastIrreducible_X6_coverers
theorem dX6_leastIrreducible_0 : decode cX6_leastIrreducible 0 = .ok (.iconst 0, 1) := by decide +kernel
theorem dX6_leastIrreducible_1 : decode cX6_leastIrreducible 1 = .ok (.istore_n 2, 1) := by decide +kernel
theorem dX6_leastIrreducible_2 : decode cX6_leastIrreducible 2 = .ok (.iload_n 2, 1) := by decide +kernel
theorem dX6_leastIrreducible_3 : decode cX6_leastIrreducible 3 = .ok (.bipush 9, 2) := by decide +kernel
theorem dX6_leastIrreducible_5 : decode cX6_leastIrreducible 5 = .ok (.if_icmp .ge 45, 3) := by decide +kernel
theorem dX6_leastIrreducible_8 : decode cX6_leastIrreducible 8 = .ok (.iload_n 1, 1) := by decide +kernel
theorem dX6_leastIrreducible_9 : decode cX6_leastIrreducible 9 = .ok (.iload_n 2, 1) := by decide +kernel
theorem dX6_leastIrreducible_10 : decode cX6_leastIrreducible 10 = .ok (.invokestatic 43, 3) := by decide +kernel
theorem dX6_leastIrreducible_13 : decode cX6_leastIrreducible 13 = .ok (.ifCond .eq 31, 3) := by decide +kernel
theorem dX6_leastIrreducible_16 : decode cX6_leastIrreducible 16 = .ok (.aload_n 0, 1) := by decide +kernel
theorem dX6_leastIrreducible_17 : decode cX6_leastIrreducible 17 = .ok (.iload_n 2, 1) := by decide +kernel
theorem dX6_leastIrreducible_18 : decode cX6_leastIrreducible 18 = .ok (.iload_n 1, 1) := by decide +kernel
theorem dX6_leastIrreducible_19 : decode cX6_leastIrreducible 19 = .ok (.invokevirtual 94, 3) := by decide +kernel
theorem dX6_leastIrreducible_22 : decode cX6_leastIrreducible 22 = .ok (.invokestatic 80, 3) := by decide +kernel
theorem dX6_leastIrreducible_25 : decode cX6_leastIrreducible 25 = .ok (.iconst 1, 1) := by decide +kernel
theorem dX6_leastIrreducible_26 : decode cX6_leastIrreducible 26 = .ok (.if_icmp .eq 16, 3) := by decide +kernel
theorem dX6_leastIrreducible_29 : decode cX6_leastIrreducible 29 = .ok (.aload_n 0, 1) := by decide +kernel
theorem dX6_leastIrreducible_30 : decode cX6_leastIrreducible 30 = .ok (.iload_n 2, 1) := by decide +kernel
theorem dX6_leastIrreducible_31 : decode cX6_leastIrreducible 31 = .ok (.iload_n 1, 1) := by decide +kernel
theorem dX6_leastIrreducible_32 : decode cX6_leastIrreducible 32 = .ok (.invokevirtual 85, 3) := by decide +kernel
theorem dX6_leastIrreducible_35 : decode cX6_leastIrreducible 35 = .ok (.invokestatic 80, 3) := by decide +kernel
theorem dX6_leastIrreducible_38 : decode cX6_leastIrreducible 38 = .ok (.iconst 1, 1) := by decide +kernel
theorem dX6_leastIrreducible_39 : decode cX6_leastIrreducible 39 = .ok (.if_icmp .ne 5, 3) := by decide +kernel
theorem dX6_leastIrreducible_42 : decode cX6_leastIrreducible 42 = .ok (.iload_n 2, 1) := by decide +kernel
theorem dX6_leastIrreducible_43 : decode cX6_leastIrreducible 43 = .ok (.ireturn, 1) := by decide +kernel
theorem dX6_leastIrreducible_44 : decode cX6_leastIrreducible 44 = .ok (.iinc 2 1, 3) := by decide +kernel
theorem dX6_leastIrreducible_47 : decode cX6_leastIrreducible 47 = .ok (.goto (-45), 3) := by decide +kernel
theorem dX6_leastIrreducible_50 : decode cX6_leastIrreducible 50 = .ok (.iconst (-1), 1) := by decide +kernel
theorem dX6_leastIrreducible_51 : decode cX6_leastIrreducible 51 = .ok (.ireturn, 1) := by decide +kernel
set_option maxRecDepth 20000 in
theorem ggX7_init_X6_init : GoodIn wsX7_init wsX6_init := goodIn_r _ [12, 13, 2, 3, 14, 15, 16, 17, 29, 30, 31, 32, 33, 34] (by decide +kernel) (by decide +kernel)
set_option maxRecDepth 20000 in
theorem gX7_init_X6_init_n17 : GoodIn wsX7_init (wsX6_init) := ggX7_init_X6_init
theorem dX7_init_0 : decode cX7_init 0 = .ok (.aload_n 0, 1) := by decide +kernel
theorem dX7_init_1 : decode cX7_init 1 = .ok (.invokespecial 3, 3) := by decide +kernel
theorem dX7_init_4 : decode cX7_init 4 = .ok (.aload_n 0, 1) := by decide +kernel
theorem dX7_init_5 : decode cX7_init 5 = .ok (.sipush 400, 3) := by decide +kernel
theorem dX7_init_8 : decode cX7_init 8 = .ok (.newarray .char, 2) := by decide +kernel
theorem dX7_init_10 : decode cX7_init 10 = .ok (.putfield 9, 3) := by decide +kernel
theorem dX7_init_13 : decode cX7_init 13 = .ok (.aload_n 0, 1) := by decide +kernel
theorem dX7_init_14 : decode cX7_init 14 = .ok (.new 15, 3) := by decide +kernel
theorem dX7_init_17 : decode cX7_init 17 = .ok (.dup, 1) := by decide +kernel
theorem dX7_init_18 : decode cX7_init 18 = .ok (.invokespecial 17, 3) := by decide +kernel
theorem dX7_init_21 : decode cX7_init 21 = .ok (.putfield 18, 3) := by decide +kernel
theorem dX7_init_24 : decode cX7_init 24 = .ok (.aload_n 0, 1) := by decide +kernel
theorem dX7_init_25 : decode cX7_init 25 = .ok (.iconst (-1), 1) := by decide +kernel
theorem dX7_init_26 : decode cX7_init 26 = .ok (.putfield 22, 3) := by decide +kernel
theorem dX7_init_29 : decode cX7_init 29 = .ok (.return_, 1) := by decide +kernel
theorem dX7_append_0 : decode cX7_append 0 = .ok (.aload_n 0, 1) := by decide +kernel
theorem dX7_append_1 : decode cX7_append 1 = .ok (.getfield 26, 3) := by decide +kernel
theorem dX7_append_4 : decode cX7_append 4 = .ok (.iconst 4, 1) := by decide +kernel
theorem dX7_append_5 : decode cX7_append 5 = .ok (.iadd, 1) := by decide +kernel
theorem dX7_append_6 : decode cX7_append 6 = .ok (.sipush 400, 3) := by decide +kernel
theorem dX7_append_9 : decode cX7_append 9 = .ok (.if_icmp .le 5, 3) := by decide +kernel
theorem dX7_append_12 : decode cX7_append 12 = .ok (.iconst (-1), 1) := by decide +kernel
theorem dX7_append_13 : decode cX7_append 13 = .ok (.ireturn, 1) := by decide +kernel
theorem dX7_append_14 : decode cX7_append 14 = .ok (.bipush 24, 2) := by decide +kernel
theorem dX7_append_16 : decode cX7_append 16 = .ok (.istore_n 2, 1) := by decide +kernel
theorem dX7_append_17 : decode cX7_append 17 = .ok (.iload_n 2, 1) := by decide +kernel
theorem dX7_append_18 : decode cX7_append 18 = .ok (.ifCond .lt 36, 3) := by decide +kernel
theorem dX7_append_21 : decode cX7_append 21 = .ok (.aload_n 0, 1) := by decide +kernel
theorem dX7_append_22 : decode cX7_append 22 = .ok (.getfield 9, 3) := by decide +kernel
theorem dX7_append_25 : decode cX7_append 25 = .ok (.aload_n 0, 1) := by decide +kernel
theorem dX7_append_26 : decode cX7_append 26 = .ok (.getfield 26, 3) := by decide +kernel
theorem dX7_append_29 : decode cX7_append 29 = .ok (.iload_n 1, 1) := by decide +kernel
theorem dX7_append_30 : decode cX7_append 30 = .ok (.iload_n 2, 1) := by decide +kernel
theorem dX7_append_31 : decode cX7_append 31 = .ok (.iushr, 1) := by decide +kernel
theorem dX7_append_32 : decode cX7_append 32 = .ok (.sipush 255, 3) := by decide +kernel
theorem dX7_append_35 : decode cX7_append 35 = .ok (.iand, 1) := by decide +kernel
theorem dX7_append_36 : decode cX7_append 36 = .ok (.i2c, 1) := by decide +kernel
theorem dX7_append_37 : decode cX7_append 37 = .ok (.castore, 1) := by decide +kernel
theorem dX7_append_38 : decode cX7_append 38 = .ok (.aload_n 0, 1) := by decide +kernel
theorem dX7_append_39 : decode cX7_append 39 = .ok (.dup, 1) := by decide +kernel
theorem dX7_append_40 : decode cX7_append 40 = .ok (.getfield 26, 3) := by decide +kernel
theorem dX7_append_43 : decode cX7_append 43 = .ok (.iconst 1, 1) := by decide +kernel
theorem dX7_append_44 : decode cX7_append 44 = .ok (.iadd, 1) := by decide +kernel
theorem dX7_append_45 : decode cX7_append 45 = .ok (.putfield 26, 3) := by decide +kernel
theorem dX7_append_48 : decode cX7_append 48 = .ok (.iinc 2 (-8), 3) := by decide +kernel
theorem dX7_append_51 : decode cX7_append 51 = .ok (.goto (-34), 3) := by decide +kernel
theorem dX7_append_54 : decode cX7_append 54 = .ok (.aload_n 0, 1) := by decide +kernel
theorem dX7_append_55 : decode cX7_append 55 = .ok (.getfield 26, 3) := by decide +kernel
theorem dX7_append_58 : decode cX7_append 58 = .ok (.ireturn, 1) := by decide +kernel
theorem dX7_cut_0 : decode cX7_cut 0 = .ok (.iload_n 1, 1) := by decide +kernel
theorem dX7_cut_1 : decode cX7_cut 1 = .ok (.ifCond .lt 11, 3) := by decide +kernel
theorem dX7_cut_4 : decode cX7_cut 4 = .ok (.iload_n 1, 1) := by decide +kernel
theorem dX7_cut_5 : decode cX7_cut 5 = .ok (.aload_n 0, 1) := by decide +kernel
theorem dX7_cut_6 : decode cX7_cut 6 = .ok (.getfield 26, 3) := by decide +kernel
theorem dX7_cut_9 : decode cX7_cut 9 = .ok (.if_icmp .le 5, 3) := by decide +kernel
theorem dX7_cut_12 : decode cX7_cut 12 = .ok (.iconst 0, 1) := by decide +kernel
theorem dX7_cut_13 : decode cX7_cut 13 = .ok (.ireturn, 1) := by decide +kernel
theorem dX7_cut_14 : decode cX7_cut 14 = .ok (.aload_n 0, 1) := by decide +kernel
theorem dX7_cut_15 : decode cX7_cut 15 = .ok (.iload_n 1, 1) := by decide +kernel
theorem dX7_cut_16 : decode cX7_cut 16 = .ok (.putfield 26, 3) := by decide +kernel
theorem dX7_cut_19 : decode cX7_cut 19 = .ok (.iconst 1, 1) := by decide +kernel
theorem dX7_cut_20 : decode cX7_cut 20 = .ok (.ireturn, 1) := by decide +kernel
set_option maxRecDepth 20000 in
theorem ggX7_readLines_X6_begin : GoodIn wsX7_readLines wsX6_begin := goodIn_r _ [11, 12, 13, 14, 15, 16, 17, 18, 19, 20, 21, 159, 160, 161, 162, 163, 164] (by decide +kernel) (by decide +kernel)
set_option maxRecDepth 20000 in
theorem gX7_readLines_X6_begin : GoodIn wsX7_readLines (wsV RX7 39 RX6 yX6_begin wsX6_begin) := goodIn_app (goodIn_of _ (by decide +kernel)) ggX7_readLines_X6_begin
set_option maxRecDepth 20000 in
theorem ggX7_readLines_X7_nextToken : GoodIn wsX7_readLines wsX7_nextToken := goodIn_r _ [26, 1, 27, 28, 29, 6, 30, 31, 25, 32, 33, 34, 35, 36, 37, 38, 39, 40, 41, 42, 43, 44, 45, 46, 47, 48, 49, 50, 51, 52, 53, 54, 55, 56, 57, 58, 59, 60, 61, 62, 63, 64, 65, 66, 67, 68, 69, 70, 71, 72, 73, 74, 75, 76, 77, 78, 79, 80, 81, 82, 83, 84, 85, 86, 87, 88, 89, 90, 91, 92, 93, 94, 95, 96, 97, 98, 148, 149, 150, 151, 152, 153, 154, 155, 156, 157, 158] (by decide +kernel) (by decide +kernel)
set_option maxRecDepth 20000 in
theorem gX7_readLines_X7_nextToken : GoodIn wsX7_readLines (wsV RX7 43 RX7 yX7_nextToken wsX7_nextToken) := goodIn_app (goodIn_of _ (by decide +kernel)) ggX7_readLines_X7_nextToken
set_option maxRecDepth 20000 in
theorem ggX7_readLines_X7_readLine : GoodIn wsX7_readLines wsX7_readLine := goodIn_r _ [102, 6, 4, 103, 104, 105, 25, 106, 2, 29, 3, 107, 108, 109, 110, 5, 98, 22, 23, 24, 26, 1, 27, 28, 30, 31, 32, 33, 34, 35, 36, 37, 38, 39, 40, 41, 42, 43, 44, 45, 46, 47, 48, 49, 50, 51, 52, 53, 54, 55, 56, 57, 58, 59, 60, 61, 62, 63, 64, 65, 66, 67, 68, 69, 70, 71, 72, 73, 74, 75, 76, 77, 78, 79, 80, 81, 82, 83, 84, 85, 86, 87, 88, 89, 90, 91, 92, 93, 94, 95, 96, 97, 111, 112, 113, 114, 7, 8, 9, 10, 11, 12, 13, 14, 15, 16, 17, 18, 19, 20, 21, 115, 116, 117, 118, 119, 120, 121, 122, 123, 124, 125, 126, 127, 128, 129, 130, 131, 132, 133, 134, 135, 136, 137, 138, 139, 140, 141, 142, 143, 144, 145, 146, 147, 148, 149, 150, 151, 152, 153, 154, 155, 156, 157, 158, 159, 160, 161, 162, 163, 164] (by decide +kernel) (by decide +kernel)
set_option maxRecDepth 20000 in
theorem gX7_readLines_X7_readLine : GoodIn wsX7_readLines (wsV RX7 46 RX7 yX7_readLine wsX7_readLine) := goodIn_app (goodIn_of _ (by decide +kernel)) ggX7_readLines_X7_readLine
set_option maxRecDepth 20000 in
theorem ggX7_readLines_X7_refuse : GoodIn wsX7_readLines wsX7_refuse := goodIn_r _ [106, 2, 29, 3, 148, 149, 150, 151, 152, 153, 154, 155, 156, 157, 158] (by decide +kernel) (by decide +kernel)
set_option maxRecDepth 20000 in
theorem gX7_readLines_X7_refuse : GoodIn wsX7_readLines (wsV RX7 53 RX7 yX7_refuse wsX7_refuse) := goodIn_app (goodIn_of _ (by decide +kernel)) ggX7_readLines_X7_refuse
theorem dX7_readLines_0 : decode cX7_readLines 0 = .ok (.aload_n 0, 1) := by decide +kernel
theorem dX7_readLines_1 : decode cX7_readLines 1 = .ok (.iconst 0, 1) := by decide +kernel
theorem dX7_readLines_2 : decode cX7_readLines 2 = .ok (.putfield 29, 3) := by decide +kernel
theorem dX7_readLines_5 : decode cX7_readLines 5 = .ok (.aload_n 0, 1) := by decide +kernel
theorem dX7_readLines_6 : decode cX7_readLines 6 = .ok (.iconst 0, 1) := by decide +kernel
theorem dX7_readLines_7 : decode cX7_readLines 7 = .ok (.putfield 32, 3) := by decide +kernel
theorem dX7_readLines_10 : decode cX7_readLines 10 = .ok (.aload_n 0, 1) := by decide +kernel
theorem dX7_readLines_11 : decode cX7_readLines 11 = .ok (.iconst (-1), 1) := by decide +kernel
theorem dX7_readLines_12 : decode cX7_readLines 12 = .ok (.putfield 22, 3) := by decide +kernel
theorem dX7_readLines_15 : decode cX7_readLines 15 = .ok (.aload_n 0, 1) := by decide +kernel
theorem dX7_readLines_16 : decode cX7_readLines 16 = .ok (.iconst 0, 1) := by decide +kernel
theorem dX7_readLines_17 : decode cX7_readLines 17 = .ok (.putfield 35, 3) := by decide +kernel
theorem dX7_readLines_20 : decode cX7_readLines 20 = .ok (.aload_n 0, 1) := by decide +kernel
theorem dX7_readLines_21 : decode cX7_readLines 21 = .ok (.getfield 18, 3) := by decide +kernel
theorem dX7_readLines_24 : decode cX7_readLines 24 = .ok (.iconst 0, 1) := by decide +kernel
theorem dX7_readLines_25 : decode cX7_readLines 25 = .ok (.invokevirtual 39, 3) := by decide +kernel
theorem dX7_readLines_28 : decode cX7_readLines 28 = .ok (.iconst 1, 1) := by decide +kernel
theorem dX7_readLines_29 : decode cX7_readLines 29 = .ok (.istore_n 1, 1) := by decide +kernel
theorem dX7_readLines_30 : decode cX7_readLines 30 = .ok (.iload_n 1, 1) := by decide +kernel
theorem dX7_readLines_31 : decode cX7_readLines 31 = .ok (.sipush 400, 3) := by decide +kernel
theorem dX7_readLines_34 : decode cX7_readLines 34 = .ok (.if_icmp .gt 57, 3) := by decide +kernel
theorem dX7_readLines_37 : decode cX7_readLines 37 = .ok (.aload_n 0, 1) := by decide +kernel
theorem dX7_readLines_38 : decode cX7_readLines 38 = .ok (.invokevirtual 43, 3) := by decide +kernel
theorem dX7_readLines_41 : decode cX7_readLines 41 = .ok (.aload_n 0, 1) := by decide +kernel
theorem dX7_readLines_42 : decode cX7_readLines 42 = .ok (.iload_n 1, 1) := by decide +kernel
theorem dX7_readLines_43 : decode cX7_readLines 43 = .ok (.iconst 1, 1) := by decide +kernel
theorem dX7_readLines_44 : decode cX7_readLines 44 = .ok (.if_icmp .ne 7, 3) := by decide +kernel
theorem dX7_readLines_47 : decode cX7_readLines 47 = .ok (.iconst 1, 1) := by decide +kernel
theorem dX7_readLines_48 : decode cX7_readLines 48 = .ok (.goto 4, 3) := by decide +kernel
theorem dX7_readLines_51 : decode cX7_readLines 51 = .ok (.iconst 0, 1) := by decide +kernel
theorem dX7_readLines_52 : decode cX7_readLines 52 = .ok (.invokevirtual 46, 3) := by decide +kernel
theorem dX7_readLines_55 : decode cX7_readLines 55 = .ok (.ifCond .ne 5, 3) := by decide +kernel
theorem dX7_readLines_58 : decode cX7_readLines 58 = .ok (.iconst (-1), 1) := by decide +kernel
theorem dX7_readLines_59 : decode cX7_readLines 59 = .ok (.ireturn, 1) := by decide +kernel
theorem dX7_readLines_60 : decode cX7_readLines 60 = .ok (.aload_n 0, 1) := by decide +kernel
theorem dX7_readLines_61 : decode cX7_readLines 61 = .ok (.getfield 50, 3) := by decide +kernel
theorem dX7_readLines_64 : decode cX7_readLines 64 = .ok (.ifCond .ne 5, 3) := by decide +kernel
theorem dX7_readLines_67 : decode cX7_readLines 67 = .ok (.iload_n 1, 1) := by decide +kernel
theorem dX7_readLines_68 : decode cX7_readLines 68 = .ok (.ireturn, 1) := by decide +kernel
theorem dX7_readLines_69 : decode cX7_readLines 69 = .ok (.aload_n 0, 1) := by decide +kernel
theorem dX7_readLines_70 : decode cX7_readLines 70 = .ok (.getfield 50, 3) := by decide +kernel
theorem dX7_readLines_73 : decode cX7_readLines 73 = .ok (.iconst 5, 1) := by decide +kernel
theorem dX7_readLines_74 : decode cX7_readLines 74 = .ok (.if_icmp .eq 11, 3) := by decide +kernel
theorem dX7_readLines_77 : decode cX7_readLines 77 = .ok (.aload_n 0, 1) := by decide +kernel
theorem dX7_readLines_78 : decode cX7_readLines 78 = .ok (.iconst 1, 1) := by decide +kernel
theorem dX7_readLines_79 : decode cX7_readLines 79 = .ok (.invokevirtual 53, 3) := by decide +kernel
theorem dX7_readLines_82 : decode cX7_readLines 82 = .ok (.pop, 1) := by decide +kernel
theorem dX7_readLines_83 : decode cX7_readLines 83 = .ok (.iconst (-1), 1) := by decide +kernel
theorem dX7_readLines_84 : decode cX7_readLines 84 = .ok (.ireturn, 1) := by decide +kernel
theorem dX7_readLines_85 : decode cX7_readLines 85 = .ok (.iinc 1 1, 3) := by decide +kernel
theorem dX7_readLines_88 : decode cX7_readLines 88 = .ok (.goto (-58), 3) := by decide +kernel
theorem dX7_readLines_91 : decode cX7_readLines 91 = .ok (.iconst (-1), 1) := by decide +kernel
theorem dX7_readLines_92 : decode cX7_readLines 92 = .ok (.ireturn, 1) := by decide +kernel
set_option maxRecDepth 20000 in
theorem ggX7_readLine_X7_refuse : GoodIn wsX7_readLine wsX7_refuse := goodIn_r _ [7, 8, 9, 10, 144, 145, 146, 147, 148, 149, 150, 151, 152, 153, 154] (by decide +kernel) (by decide +kernel)
set_option maxRecDepth 20000 in
theorem gX7_readLine_X7_refuse : GoodIn wsX7_readLine (wsV RX7 53 RX7 yX7_refuse wsX7_refuse) := goodIn_app (goodIn_of _ (by decide +kernel)) ggX7_readLine_X7_refuse
set_option maxRecDepth 20000 in
theorem ggX7_readLine_X7_readPoints : GoodIn wsX7_readLine wsX7_readPoints := goodIn_r _ [14, 15, 16, 17, 18, 19, 6, 20, 21, 22, 23, 9, 1, 24, 25, 26, 27, 28, 29, 30, 31, 32, 33, 34, 35, 36, 37, 38, 39, 40, 41, 42, 43, 44, 45, 46, 47, 48, 49, 50, 51, 52, 53, 54, 55, 56, 57, 58, 59, 60, 61, 62, 63, 64, 65, 66, 67, 68, 69, 70, 71, 72, 73, 74, 75, 76, 77, 78, 79, 80, 81, 82, 83, 84, 85, 86, 87, 88, 89, 90, 91, 92, 93, 94, 95, 3, 4, 5, 7, 8, 10, 96, 97, 98, 99, 100, 101, 102, 103, 104, 105, 106, 107, 108, 109, 110, 144, 145, 146, 147, 148, 149, 150, 151, 152, 153, 154, 155, 156, 157, 158, 159, 160] (by decide +kernel) (by decide +kernel)
set_option maxRecDepth 20000 in
theorem gX7_readLine_X7_readPoints : GoodIn wsX7_readLine (wsV RX7 57 RX7 yX7_readPoints wsX7_readPoints) := goodIn_app (goodIn_of _ (by decide +kernel)) ggX7_readLine_X7_readPoints
set_option maxRecDepth 20000 in
theorem ggX7_readLine_X7_readRule : GoodIn wsX7_readLine wsX7_readRule := goodIn_r _ [114, 15, 16, 115, 2, 17, 18, 19, 6, 20, 21, 22, 23, 9, 1, 24, 25, 26, 27, 28, 29, 30, 31, 32, 33, 34, 35, 36, 37, 38, 39, 40, 41, 42, 43, 44, 45, 46, 47, 48, 49, 50, 51, 52, 53, 54, 55, 56, 57, 58, 59, 60, 61, 62, 63, 64, 65, 66, 67, 68, 69, 70, 71, 72, 73, 74, 75, 76, 77, 78, 79, 80, 81, 82, 83, 84, 85, 86, 87, 88, 89, 90, 91, 92, 93, 94, 95, 3, 4, 5, 7, 8, 10, 144, 145, 146, 147, 148, 149, 150, 151, 152, 153, 154, 155, 156, 157, 158, 159, 160] (by decide +kernel) (by decide +kernel)
set_option maxRecDepth 20000 in
theorem gX7_readLine_X7_readRule : GoodIn wsX7_readLine (wsV RX7 61 RX7 yX7_readRule wsX7_readRule) := goodIn_app (goodIn_of _ (by decide +kernel)) ggX7_readLine_X7_readRule
set_option maxRecDepth 20000 in
theorem ggX7_readLine_X7_readLabel : GoodIn wsX7_readLine wsX7_readLabel := goodIn_r _ [119, 15, 120, 16, 17, 18, 19, 6, 20, 21, 22, 23, 9, 1, 24, 25, 26, 27, 28, 29, 30, 31, 32, 33, 34, 35, 36, 37, 38, 39, 40, 41, 42, 43, 44, 45, 46, 47, 48, 49, 50, 51, 52, 53, 54, 55, 56, 57, 58, 59, 60, 61, 62, 63, 64, 65, 66, 67, 68, 69, 70, 71, 72, 73, 74, 75, 76, 77, 78, 79, 80, 81, 82, 83, 84, 85, 86, 87, 88, 89, 90, 91, 92, 93, 94, 95, 3, 4, 5, 7, 8, 10, 121, 122, 123, 99, 124, 106, 144, 145, 146, 147, 148, 149, 150, 151, 152, 153, 154, 155, 156, 157, 158, 159, 160] (by decide +kernel) (by decide +kernel)
set_option maxRecDepth 20000 in
theorem gX7_readLine_X7_readLabel : GoodIn wsX7_readLine (wsV RX7 64 RX7 yX7_readLabel wsX7_readLabel) := goodIn_app (goodIn_of _ (by decide +kernel)) ggX7_readLine_X7_readLabel
set_option maxRecDepth 20000 in
theorem ggX7_readLine_X7_readRelations : GoodIn wsX7_readLine wsX7_readRelations := goodIn_r _ [128, 15, 120, 16, 1, 92, 93, 94, 6, 95, 91, 3, 4, 5, 7, 8, 9, 10, 17, 18, 19, 20, 21, 22, 23, 24, 25, 26, 27, 28, 29, 30, 31, 32, 33, 34, 35, 36, 37, 38, 39, 40, 41, 42, 43, 44, 45, 46, 47, 48, 49, 50, 51, 52, 53, 54, 55, 56, 57, 58, 59, 60, 61, 62, 63, 64, 65, 66, 67, 68, 69, 70, 71, 72, 73, 74, 75, 76, 77, 78, 79, 80, 81, 82, 83, 84, 85, 86, 87, 88, 89, 90, 129, 130, 131, 99, 132, 104, 133, 134, 135, 136, 102, 137, 138, 139, 140, 141, 142, 143, 105, 144, 145, 146, 147, 148, 149, 150, 151, 152, 153, 154, 155, 156, 157, 158, 159, 160] (by decide +kernel) (by decide +kernel)
set_option maxRecDepth 20000 in
theorem gX7_readLine_X7_readRelations : GoodIn wsX7_readLine (wsV RX7 67 RX7 yX7_readRelations wsX7_readRelations) := goodIn_app (goodIn_of _ (by decide +kernel)) ggX7_readLine_X7_readRelations
theorem dX7_readLine_0 : decode cX7_readLine 0 = .ok (.aload_n 0, 1) := by decide +kernel
theorem dX7_readLine_1 : decode cX7_readLine 1 = .ok (.getfield 50, 3) := by decide +kernel
theorem dX7_readLine_4 : decode cX7_readLine 4 = .ok (.istore_n 2, 1) := by decide +kernel
theorem dX7_readLine_5 : decode cX7_readLine 5 = .ok (.iload_n 2, 1) := by decide +kernel
theorem dX7_readLine_6 : decode cX7_readLine 6 = .ok (.iconst 1, 1) := by decide +kernel
theorem dX7_readLine_7 : decode cX7_readLine 7 = .ok (.if_icmp .eq 24, 3) := by decide +kernel
theorem dX7_readLine_10 : decode cX7_readLine 10 = .ok (.iload_n 2, 1) := by decide +kernel
theorem dX7_readLine_11 : decode cX7_readLine 11 = .ok (.iconst 2, 1) := by decide +kernel
theorem dX7_readLine_12 : decode cX7_readLine 12 = .ok (.if_icmp .eq 19, 3) := by decide +kernel
theorem dX7_readLine_15 : decode cX7_readLine 15 = .ok (.iload_n 2, 1) := by decide +kernel
theorem dX7_readLine_16 : decode cX7_readLine 16 = .ok (.iconst 3, 1) := by decide +kernel
theorem dX7_readLine_17 : decode cX7_readLine 17 = .ok (.if_icmp .eq 14, 3) := by decide +kernel
theorem dX7_readLine_20 : decode cX7_readLine 20 = .ok (.iload_n 2, 1) := by decide +kernel
theorem dX7_readLine_21 : decode cX7_readLine 21 = .ok (.iconst 4, 1) := by decide +kernel
theorem dX7_readLine_22 : decode cX7_readLine 22 = .ok (.if_icmp .eq 9, 3) := by decide +kernel
theorem dX7_readLine_25 : decode cX7_readLine 25 = .ok (.aload_n 0, 1) := by decide +kernel
theorem dX7_readLine_26 : decode cX7_readLine 26 = .ok (.iconst 1, 1) := by decide +kernel
theorem dX7_readLine_27 : decode cX7_readLine 27 = .ok (.invokevirtual 53, 3) := by decide +kernel
theorem dX7_readLine_30 : decode cX7_readLine 30 = .ok (.ireturn, 1) := by decide +kernel
theorem dX7_readLine_31 : decode cX7_readLine 31 = .ok (.iload_n 1, 1) := by decide +kernel
theorem dX7_readLine_32 : decode cX7_readLine 32 = .ok (.iload_n 2, 1) := by decide +kernel
theorem dX7_readLine_33 : decode cX7_readLine 33 = .ok (.iconst 1, 1) := by decide +kernel
theorem dX7_readLine_34 : decode cX7_readLine 34 = .ok (.if_icmp .ne 7, 3) := by decide +kernel
theorem dX7_readLine_37 : decode cX7_readLine 37 = .ok (.iconst 1, 1) := by decide +kernel
theorem dX7_readLine_38 : decode cX7_readLine 38 = .ok (.goto 4, 3) := by decide +kernel
theorem dX7_readLine_41 : decode cX7_readLine 41 = .ok (.iconst 0, 1) := by decide +kernel
theorem dX7_readLine_42 : decode cX7_readLine 42 = .ok (.if_icmp .ne 15, 3) := by decide +kernel
theorem dX7_readLine_45 : decode cX7_readLine 45 = .ok (.iload_n 2, 1) := by decide +kernel
theorem dX7_readLine_46 : decode cX7_readLine 46 = .ok (.iconst 2, 1) := by decide +kernel
theorem dX7_readLine_47 : decode cX7_readLine 47 = .ok (.if_icmp .ne 16, 3) := by decide +kernel
theorem dX7_readLine_50 : decode cX7_readLine 50 = .ok (.aload_n 0, 1) := by decide +kernel
theorem dX7_readLine_51 : decode cX7_readLine 51 = .ok (.getfield 35, 3) := by decide +kernel
theorem dX7_readLine_54 : decode cX7_readLine 54 = .ok (.ifCond .eq 9, 3) := by decide +kernel
theorem dX7_readLine_57 : decode cX7_readLine 57 = .ok (.aload_n 0, 1) := by decide +kernel
theorem dX7_readLine_58 : decode cX7_readLine 58 = .ok (.iconst 3, 1) := by decide +kernel
theorem dX7_readLine_59 : decode cX7_readLine 59 = .ok (.invokevirtual 53, 3) := by decide +kernel
theorem dX7_readLine_62 : decode cX7_readLine 62 = .ok (.ireturn, 1) := by decide +kernel
theorem dX7_readLine_63 : decode cX7_readLine 63 = .ok (.iload_n 2, 1) := by decide +kernel
theorem dX7_readLine_64 : decode cX7_readLine 64 = .ok (.tableswitch 43 1 3 #[28, 33, 38], 28) := by decide +kernel
theorem dX7_readLine_92 : decode cX7_readLine 92 = .ok (.aload_n 0, 1) := by decide +kernel
theorem dX7_readLine_93 : decode cX7_readLine 93 = .ok (.invokevirtual 57, 3) := by decide +kernel
theorem dX7_readLine_96 : decode cX7_readLine 96 = .ok (.ireturn, 1) := by decide +kernel
theorem dX7_readLine_97 : decode cX7_readLine 97 = .ok (.aload_n 0, 1) := by decide +kernel
theorem dX7_readLine_98 : decode cX7_readLine 98 = .ok (.invokevirtual 61, 3) := by decide +kernel
theorem dX7_readLine_101 : decode cX7_readLine 101 = .ok (.ireturn, 1) := by decide +kernel
theorem dX7_readLine_102 : decode cX7_readLine 102 = .ok (.aload_n 0, 1) := by decide +kernel
theorem dX7_readLine_103 : decode cX7_readLine 103 = .ok (.invokevirtual 64, 3) := by decide +kernel
theorem dX7_readLine_106 : decode cX7_readLine 106 = .ok (.ireturn, 1) := by decide +kernel
theorem dX7_readLine_107 : decode cX7_readLine 107 = .ok (.aload_n 0, 1) := by decide +kernel
theorem dX7_readLine_108 : decode cX7_readLine 108 = .ok (.invokevirtual 67, 3) := by decide +kernel
theorem dX7_readLine_111 : decode cX7_readLine 111 = .ok (.ireturn, 1) := by decide +kernel
set_option maxRecDepth 20000 in
theorem ggX7_readPoints_X7_nextToken : GoodIn wsX7_readPoints wsX7_nextToken := goodIn_r _ [7, 8, 9, 10, 11, 12, 13, 14, 6, 15, 16, 17, 18, 19, 20, 21, 22, 23, 24, 25, 26, 27, 28, 29, 30, 31, 32, 33, 34, 35, 36, 37, 38, 39, 40, 41, 42, 43, 44, 45, 46, 47, 48, 49, 50, 51, 52, 53, 54, 55, 56, 57, 58, 59, 60, 61, 62, 63, 64, 65, 66, 67, 68, 69, 70, 71, 72, 73, 74, 75, 76, 77, 78, 79, 80, 2, 106, 107, 108, 109, 110, 111, 112, 113, 114, 115, 116] (by decide +kernel) (by decide +kernel)
set_option maxRecDepth 20000 in
theorem gX7_readPoints_X7_nextToken : GoodIn wsX7_readPoints (wsV RX7 43 RX7 yX7_nextToken wsX7_nextToken) := goodIn_app (goodIn_of _ (by decide +kernel)) ggX7_readPoints_X7_nextToken
set_option maxRecDepth 20000 in
theorem ggX7_readPoints_X7_isNumber : GoodIn wsX7_readPoints wsX7_isNumber := goodIn_r _ [84, 12, 80, 2, 85, 86, 87, 6, 88, 89, 11, 90, 106, 107, 108, 109, 110, 111, 112, 113, 114, 115, 116] (by decide +kernel) (by decide +kernel)
set_option maxRecDepth 20000 in
theorem gX7_readPoints_X7_isNumber : GoodIn wsX7_readPoints (wsV RX7 70 RX7 yX7_isNumber wsX7_isNumber) := goodIn_app (goodIn_of _ (by decide +kernel)) ggX7_readPoints_X7_isNumber
set_option maxRecDepth 20000 in
theorem ggX7_readPoints_X6_begin : GoodIn wsX7_readPoints wsX6_begin := goodIn_r _ [95, 96, 97, 98, 99, 100, 101, 102, 103, 104, 105, 117, 118, 119, 120, 121, 122] (by decide +kernel) (by decide +kernel)
set_option maxRecDepth 20000 in
theorem gX7_readPoints_X6_begin : GoodIn wsX7_readPoints (wsV RX7 39 RX6 yX6_begin wsX6_begin) := goodIn_app (goodIn_of _ (by decide +kernel)) ggX7_readPoints_X6_begin
theorem dX7_readPoints_0 : decode cX7_readPoints 0 = .ok (.aload_n 0, 1) := by decide +kernel
theorem dX7_readPoints_1 : decode cX7_readPoints 1 = .ok (.invokevirtual 43, 3) := by decide +kernel
theorem dX7_readPoints_4 : decode cX7_readPoints 4 = .ok (.aload_n 0, 1) := by decide +kernel
theorem dX7_readPoints_5 : decode cX7_readPoints 5 = .ok (.iconst 1, 1) := by decide +kernel
theorem dX7_readPoints_6 : decode cX7_readPoints 6 = .ok (.bipush 9, 2) := by decide +kernel
theorem dX7_readPoints_8 : decode cX7_readPoints 8 = .ok (.invokevirtual 70, 3) := by decide +kernel
theorem dX7_readPoints_11 : decode cX7_readPoints 11 = .ok (.ifCond .ne 5, 3) := by decide +kernel
theorem dX7_readPoints_14 : decode cX7_readPoints 14 = .ok (.iconst 0, 1) := by decide +kernel
theorem dX7_readPoints_15 : decode cX7_readPoints 15 = .ok (.ireturn, 1) := by decide +kernel
theorem dX7_readPoints_16 : decode cX7_readPoints 16 = .ok (.aload_n 0, 1) := by decide +kernel
theorem dX7_readPoints_17 : decode cX7_readPoints 17 = .ok (.getfield 18, 3) := by decide +kernel
theorem dX7_readPoints_20 : decode cX7_readPoints 20 = .ok (.aload_n 0, 1) := by decide +kernel
theorem dX7_readPoints_21 : decode cX7_readPoints 21 = .ok (.getfield 74, 3) := by decide +kernel
theorem dX7_readPoints_24 : decode cX7_readPoints 24 = .ok (.invokevirtual 39, 3) := by decide +kernel
theorem dX7_readPoints_27 : decode cX7_readPoints 27 = .ok (.aload_n 0, 1) := by decide +kernel
theorem dX7_readPoints_28 : decode cX7_readPoints 28 = .ok (.invokevirtual 43, 3) := by decide +kernel
theorem dX7_readPoints_31 : decode cX7_readPoints 31 = .ok (.iconst 1, 1) := by decide +kernel
theorem dX7_readPoints_32 : decode cX7_readPoints 32 = .ok (.ireturn, 1) := by decide +kernel
set_option maxRecDepth 20000 in
theorem ggX7_readRule_X7_nextToken : GoodIn wsX7_readRule wsX7_nextToken := goodIn_r _ [9, 10, 11, 12, 13, 14, 15, 16, 8, 17, 18, 19, 20, 21, 22, 23, 24, 25, 26, 27, 28, 29, 30, 31, 32, 33, 34, 35, 36, 37, 38, 39, 40, 41, 42, 43, 44, 45, 46, 47, 48, 49, 50, 51, 52, 53, 54, 55, 56, 57, 58, 59, 60, 61, 62, 63, 64, 65, 66, 67, 68, 69, 70, 71, 72, 73, 74, 75, 76, 77, 78, 79, 80, 81, 82, 2, 93, 94, 95, 96, 97, 98, 99, 100, 101, 102, 103] (by decide +kernel) (by decide +kernel)
set_option maxRecDepth 20000 in
theorem gX7_readRule_X7_nextToken : GoodIn wsX7_readRule (wsV RX7 43 RX7 yX7_nextToken wsX7_nextToken) := goodIn_app (goodIn_of _ (by decide +kernel)) ggX7_readRule_X7_nextToken
set_option maxRecDepth 20000 in
theorem ggX7_readRule_X7_isNumber : GoodIn wsX7_readRule wsX7_isNumber := goodIn_r _ [86, 14, 82, 2, 87, 88, 89, 8, 90, 91, 13, 92, 93, 94, 95, 96, 97, 98, 99, 100, 101, 102, 103] (by decide +kernel) (by decide +kernel)
set_option maxRecDepth 20000 in
theorem gX7_readRule_X7_isNumber : GoodIn wsX7_readRule (wsV RX7 70 RX7 yX7_isNumber wsX7_isNumber) := goodIn_app (goodIn_of _ (by decide +kernel)) ggX7_readRule_X7_isNumber
theorem dX7_readRule_0 : decode cX7_readRule 0 = .ok (.aload_n 0, 1) := by decide +kernel
theorem dX7_readRule_1 : decode cX7_readRule 1 = .ok (.invokevirtual 43, 3) := by decide +kernel
theorem dX7_readRule_4 : decode cX7_readRule 4 = .ok (.aload_n 0, 1) := by decide +kernel
theorem dX7_readRule_5 : decode cX7_readRule 5 = .ok (.iconst 0, 1) := by decide +kernel
theorem dX7_readRule_6 : decode cX7_readRule 6 = .ok (.iconst 3, 1) := by decide +kernel
theorem dX7_readRule_7 : decode cX7_readRule 7 = .ok (.invokevirtual 70, 3) := by decide +kernel
theorem dX7_readRule_10 : decode cX7_readRule 10 = .ok (.ifCond .ne 5, 3) := by decide +kernel
theorem dX7_readRule_13 : decode cX7_readRule 13 = .ok (.iconst 0, 1) := by decide +kernel
theorem dX7_readRule_14 : decode cX7_readRule 14 = .ok (.ireturn, 1) := by decide +kernel
theorem dX7_readRule_15 : decode cX7_readRule 15 = .ok (.aload_n 0, 1) := by decide +kernel
theorem dX7_readRule_16 : decode cX7_readRule 16 = .ok (.getfield 18, 3) := by decide +kernel
theorem dX7_readRule_19 : decode cX7_readRule 19 = .ok (.aload_n 0, 1) := by decide +kernel
theorem dX7_readRule_20 : decode cX7_readRule 20 = .ok (.getfield 74, 3) := by decide +kernel
theorem dX7_readRule_23 : decode cX7_readRule 23 = .ok (.putfield 77, 3) := by decide +kernel
theorem dX7_readRule_26 : decode cX7_readRule 26 = .ok (.aload_n 0, 1) := by decide +kernel
theorem dX7_readRule_27 : decode cX7_readRule 27 = .ok (.iconst 1, 1) := by decide +kernel
theorem dX7_readRule_28 : decode cX7_readRule 28 = .ok (.putfield 35, 3) := by decide +kernel
theorem dX7_readRule_31 : decode cX7_readRule 31 = .ok (.aload_n 0, 1) := by decide +kernel
theorem dX7_readRule_32 : decode cX7_readRule 32 = .ok (.invokevirtual 43, 3) := by decide +kernel
theorem dX7_readRule_35 : decode cX7_readRule 35 = .ok (.iconst 1, 1) := by decide +kernel
theorem dX7_readRule_36 : decode cX7_readRule 36 = .ok (.ireturn, 1) := by decide +kernel
set_option maxRecDepth 20000 in
theorem ggX7_readLabel_X7_nextToken : GoodIn wsX7_readLabel wsX7_nextToken := goodIn_r _ [8, 9, 10, 11, 12, 13, 14, 15, 7, 16, 17, 18, 19, 20, 21, 22, 23, 24, 25, 26, 27, 28, 29, 30, 31, 32, 33, 34, 35, 36, 37, 38, 39, 40, 41, 42, 43, 44, 45, 46, 47, 48, 49, 50, 51, 52, 53, 54, 55, 56, 57, 58, 59, 60, 61, 62, 63, 64, 65, 66, 67, 68, 69, 70, 71, 72, 73, 74, 75, 76, 77, 78, 79, 80, 81, 3, 98, 99, 100, 101, 102, 103, 104, 105, 106, 107, 108] (by decide +kernel) (by decide +kernel)
set_option maxRecDepth 20000 in
theorem gX7_readLabel_X7_nextToken : GoodIn wsX7_readLabel (wsV RX7 43 RX7 yX7_nextToken wsX7_nextToken) := goodIn_app (goodIn_of _ (by decide +kernel)) ggX7_readLabel_X7_nextToken
set_option maxRecDepth 20000 in
theorem ggX7_readLabel_X7_isNumber : GoodIn wsX7_readLabel wsX7_isNumber := goodIn_r _ [85, 13, 81, 3, 86, 87, 88, 7, 89, 90, 12, 91, 98, 99, 100, 101, 102, 103, 104, 105, 106, 107, 108] (by decide +kernel) (by decide +kernel)
set_option maxRecDepth 20000 in
theorem gX7_readLabel_X7_isNumber : GoodIn wsX7_readLabel (wsV RX7 70 RX7 yX7_isNumber wsX7_isNumber) := goodIn_app (goodIn_of _ (by decide +kernel)) ggX7_readLabel_X7_isNumber
set_option maxRecDepth 20000 in
theorem ggX7_readLabel_X7_refuse : GoodIn wsX7_readLabel wsX7_refuse := goodIn_r _ [89, 90, 12, 91, 98, 99, 100, 101, 102, 103, 104, 105, 106, 107, 108] (by decide +kernel) (by decide +kernel)
set_option maxRecDepth 20000 in
theorem gX7_readLabel_X7_refuse : GoodIn wsX7_readLabel (wsV RX7 53 RX7 yX7_refuse wsX7_refuse) := goodIn_app (goodIn_of _ (by decide +kernel)) ggX7_readLabel_X7_refuse
set_option maxRecDepth 20000 in
theorem ggX7_readLabel_X6_setTag : GoodIn wsX7_readLabel wsX6_setTag := goodIn_r _ [96, 97, 109, 110, 111, 112, 113, 114] (by decide +kernel) (by decide +kernel)
set_option maxRecDepth 20000 in
theorem gX7_readLabel_X6_setTag : GoodIn wsX7_readLabel (wsV RX7 83 RX6 yX6_setTag wsX6_setTag) := goodIn_app (goodIn_of _ (by decide +kernel)) ggX7_readLabel_X6_setTag
theorem dX7_readLabel_0 : decode cX7_readLabel 0 = .ok (.aload_n 0, 1) := by decide +kernel
theorem dX7_readLabel_1 : decode cX7_readLabel 1 = .ok (.invokevirtual 43, 3) := by decide +kernel
theorem dX7_readLabel_4 : decode cX7_readLabel 4 = .ok (.aload_n 0, 1) := by decide +kernel
theorem dX7_readLabel_5 : decode cX7_readLabel 5 = .ok (.iconst 0, 1) := by decide +kernel
theorem dX7_readLabel_6 : decode cX7_readLabel 6 = .ok (.aload_n 0, 1) := by decide +kernel
theorem dX7_readLabel_7 : decode cX7_readLabel 7 = .ok (.getfield 18, 3) := by decide +kernel
theorem dX7_readLabel_10 : decode cX7_readLabel 10 = .ok (.getfield 80, 3) := by decide +kernel
theorem dX7_readLabel_13 : decode cX7_readLabel 13 = .ok (.iconst 1, 1) := by decide +kernel
theorem dX7_readLabel_14 : decode cX7_readLabel 14 = .ok (.isub, 1) := by decide +kernel
theorem dX7_readLabel_15 : decode cX7_readLabel 15 = .ok (.invokevirtual 70, 3) := by decide +kernel
theorem dX7_readLabel_18 : decode cX7_readLabel 18 = .ok (.ifCond .ne 5, 3) := by decide +kernel
theorem dX7_readLabel_21 : decode cX7_readLabel 21 = .ok (.iconst 0, 1) := by decide +kernel
theorem dX7_readLabel_22 : decode cX7_readLabel 22 = .ok (.ireturn, 1) := by decide +kernel
theorem dX7_readLabel_23 : decode cX7_readLabel 23 = .ok (.aload_n 0, 1) := by decide +kernel
theorem dX7_readLabel_24 : decode cX7_readLabel 24 = .ok (.getfield 74, 3) := by decide +kernel
theorem dX7_readLabel_27 : decode cX7_readLabel 27 = .ok (.istore_n 1, 1) := by decide +kernel
theorem dX7_readLabel_28 : decode cX7_readLabel 28 = .ok (.aload_n 0, 1) := by decide +kernel
theorem dX7_readLabel_29 : decode cX7_readLabel 29 = .ok (.invokevirtual 43, 3) := by decide +kernel
theorem dX7_readLabel_32 : decode cX7_readLabel 32 = .ok (.aload_n 0, 1) := by decide +kernel
theorem dX7_readLabel_33 : decode cX7_readLabel 33 = .ok (.iconst 0, 1) := by decide +kernel
theorem dX7_readLabel_34 : decode cX7_readLabel 34 = .ok (.aload_n 0, 1) := by decide +kernel
theorem dX7_readLabel_35 : decode cX7_readLabel 35 = .ok (.getfield 18, 3) := by decide +kernel
theorem dX7_readLabel_38 : decode cX7_readLabel 38 = .ok (.getfield 80, 3) := by decide +kernel
theorem dX7_readLabel_41 : decode cX7_readLabel 41 = .ok (.iconst 1, 1) := by decide +kernel
theorem dX7_readLabel_42 : decode cX7_readLabel 42 = .ok (.isub, 1) := by decide +kernel
theorem dX7_readLabel_43 : decode cX7_readLabel 43 = .ok (.invokevirtual 70, 3) := by decide +kernel
theorem dX7_readLabel_46 : decode cX7_readLabel 46 = .ok (.ifCond .ne 5, 3) := by decide +kernel
theorem dX7_readLabel_49 : decode cX7_readLabel 49 = .ok (.iconst 0, 1) := by decide +kernel
theorem dX7_readLabel_50 : decode cX7_readLabel 50 = .ok (.ireturn, 1) := by decide +kernel
theorem dX7_readLabel_51 : decode cX7_readLabel 51 = .ok (.aload_n 0, 1) := by decide +kernel
theorem dX7_readLabel_52 : decode cX7_readLabel 52 = .ok (.getfield 74, 3) := by decide +kernel
theorem dX7_readLabel_55 : decode cX7_readLabel 55 = .ok (.istore_n 2, 1) := by decide +kernel
theorem dX7_readLabel_56 : decode cX7_readLabel 56 = .ok (.iload_n 1, 1) := by decide +kernel
theorem dX7_readLabel_57 : decode cX7_readLabel 57 = .ok (.iload_n 2, 1) := by decide +kernel
theorem dX7_readLabel_58 : decode cX7_readLabel 58 = .ok (.if_icmp .ne 9, 3) := by decide +kernel
theorem dX7_readLabel_61 : decode cX7_readLabel 61 = .ok (.aload_n 0, 1) := by decide +kernel
theorem dX7_readLabel_62 : decode cX7_readLabel 62 = .ok (.iconst 2, 1) := by decide +kernel
theorem dX7_readLabel_63 : decode cX7_readLabel 63 = .ok (.invokevirtual 53, 3) := by decide +kernel
theorem dX7_readLabel_66 : decode cX7_readLabel 66 = .ok (.ireturn, 1) := by decide +kernel
theorem dX7_readLabel_67 : decode cX7_readLabel 67 = .ok (.aload_n 0, 1) := by decide +kernel
theorem dX7_readLabel_68 : decode cX7_readLabel 68 = .ok (.invokevirtual 43, 3) := by decide +kernel
theorem dX7_readLabel_71 : decode cX7_readLabel 71 = .ok (.aload_n 0, 1) := by decide +kernel
theorem dX7_readLabel_72 : decode cX7_readLabel 72 = .ok (.iconst 0, 1) := by decide +kernel
theorem dX7_readLabel_73 : decode cX7_readLabel 73 = .ok (.bipush 99, 2) := by decide +kernel
theorem dX7_readLabel_75 : decode cX7_readLabel 75 = .ok (.invokevirtual 70, 3) := by decide +kernel
theorem dX7_readLabel_78 : decode cX7_readLabel 78 = .ok (.ifCond .ne 5, 3) := by decide +kernel
theorem dX7_readLabel_81 : decode cX7_readLabel 81 = .ok (.iconst 0, 1) := by decide +kernel
theorem dX7_readLabel_82 : decode cX7_readLabel 82 = .ok (.ireturn, 1) := by decide +kernel
theorem dX7_readLabel_83 : decode cX7_readLabel 83 = .ok (.aload_n 0, 1) := by decide +kernel
theorem dX7_readLabel_84 : decode cX7_readLabel 84 = .ok (.getfield 18, 3) := by decide +kernel
theorem dX7_readLabel_87 : decode cX7_readLabel 87 = .ok (.iload_n 1, 1) := by decide +kernel
theorem dX7_readLabel_88 : decode cX7_readLabel 88 = .ok (.iload_n 2, 1) := by decide +kernel
theorem dX7_readLabel_89 : decode cX7_readLabel 89 = .ok (.aload_n 0, 1) := by decide +kernel
theorem dX7_readLabel_90 : decode cX7_readLabel 90 = .ok (.getfield 74, 3) := by decide +kernel
theorem dX7_readLabel_93 : decode cX7_readLabel 93 = .ok (.invokevirtual 83, 3) := by decide +kernel
theorem dX7_readLabel_96 : decode cX7_readLabel 96 = .ok (.aload_n 0, 1) := by decide +kernel
theorem dX7_readLabel_97 : decode cX7_readLabel 97 = .ok (.invokevirtual 43, 3) := by decide +kernel
theorem dX7_readLabel_100 : decode cX7_readLabel 100 = .ok (.iconst 1, 1) := by decide +kernel
theorem dX7_readLabel_101 : decode cX7_readLabel 101 = .ok (.ireturn, 1) := by decide +kernel
set_option maxRecDepth 20000 in
theorem ggX7_readRelations_X7_isNumber : GoodIn wsX7_readRelations wsX7_isNumber := goodIn_r _ [9, 4, 10, 3, 11, 12, 13, 8, 14, 15, 16, 17, 111, 112, 113, 114, 115, 116, 117, 118, 119, 120, 121] (by decide +kernel) (by decide +kernel)
set_option maxRecDepth 20000 in
theorem gX7_readRelations_X7_isNumber : GoodIn wsX7_readRelations (wsV RX7 70 RX7 yX7_isNumber wsX7_isNumber) := goodIn_app (goodIn_of _ (by decide +kernel)) ggX7_readRelations_X7_isNumber
set_option maxRecDepth 20000 in
theorem ggX7_readRelations_X7_nextToken : GoodIn wsX7_readRelations wsX7_nextToken := goodIn_r _ [21, 22, 23, 24, 16, 4, 25, 26, 8, 27, 28, 29, 30, 31, 32, 33, 34, 35, 36, 37, 38, 39, 40, 41, 42, 43, 44, 45, 46, 47, 48, 49, 50, 51, 52, 53, 54, 55, 56, 57, 58, 59, 60, 61, 62, 63, 64, 65, 66, 67, 68, 69, 70, 71, 72, 73, 74, 75, 76, 77, 78, 79, 80, 81, 82, 83, 84, 85, 86, 87, 88, 89, 90, 91, 10, 3, 111, 112, 113, 114, 115, 116, 117, 118, 119, 120, 121] (by decide +kernel) (by decide +kernel)
set_option maxRecDepth 20000 in
theorem gX7_readRelations_X7_nextToken : GoodIn wsX7_readRelations (wsV RX7 43 RX7 yX7_nextToken wsX7_nextToken) := goodIn_app (goodIn_of _ (by decide +kernel)) ggX7_readRelations_X7_nextToken
set_option maxRecDepth 20000 in
theorem ggX7_readRelations_X7_refuse : GoodIn wsX7_readRelations wsX7_refuse := goodIn_r _ [14, 15, 16, 17, 111, 112, 113, 114, 115, 116, 117, 118, 119, 120, 121] (by decide +kernel) (by decide +kernel)
set_option maxRecDepth 20000 in
theorem gX7_readRelations_X7_refuse : GoodIn wsX7_readRelations (wsV RX7 53 RX7 yX7_refuse wsX7_refuse) := goodIn_app (goodIn_of _ (by decide +kernel)) ggX7_readRelations_X7_refuse
set_option maxRecDepth 20000 in
theorem ggX7_readRelations_X6_isUnder : GoodIn wsX7_readRelations wsX6_isUnder := goodIn_r _ [96, 97, 98, 99, 100, 95, 101, 102, 103, 104, 105, 122, 123, 124, 125, 126, 127] (by decide +kernel) (by decide +kernel)
set_option maxRecDepth 20000 in
theorem gX7_readRelations_X6_isUnder : GoodIn wsX7_readRelations (wsV RX7 87 RX6 yX6_isUnder wsX6_isUnder) := goodIn_app (goodIn_of _ (by decide +kernel)) ggX7_readRelations_X6_isUnder
set_option maxRecDepth 20000 in
theorem ggX7_readRelations_X6_put : GoodIn wsX7_readRelations wsX6_put := goodIn_r _ [109, 110, 97, 98, 99, 100, 95, 101, 102, 103, 104, 105, 122, 123, 124, 125, 126, 127] (by decide +kernel) (by decide +kernel)
set_option maxRecDepth 20000 in
theorem gX7_readRelations_X6_put : GoodIn wsX7_readRelations (wsV RX7 90 RX6 yX6_put wsX6_put) := goodIn_app (goodIn_of _ (by decide +kernel)) ggX7_readRelations_X6_put
theorem dX7_readRelations_0 : decode cX7_readRelations 0 = .ok (.aload_n 0, 1) := by decide +kernel
theorem dX7_readRelations_1 : decode cX7_readRelations 1 = .ok (.iconst 0, 1) := by decide +kernel
theorem dX7_readRelations_2 : decode cX7_readRelations 2 = .ok (.aload_n 0, 1) := by decide +kernel
theorem dX7_readRelations_3 : decode cX7_readRelations 3 = .ok (.getfield 18, 3) := by decide +kernel
theorem dX7_readRelations_6 : decode cX7_readRelations 6 = .ok (.getfield 80, 3) := by decide +kernel
theorem dX7_readRelations_9 : decode cX7_readRelations 9 = .ok (.iconst 1, 1) := by decide +kernel
theorem dX7_readRelations_10 : decode cX7_readRelations 10 = .ok (.isub, 1) := by decide +kernel
theorem dX7_readRelations_11 : decode cX7_readRelations 11 = .ok (.invokevirtual 70, 3) := by decide +kernel
theorem dX7_readRelations_14 : decode cX7_readRelations 14 = .ok (.ifCond .ne 5, 3) := by decide +kernel
theorem dX7_readRelations_17 : decode cX7_readRelations 17 = .ok (.iconst 0, 1) := by decide +kernel
theorem dX7_readRelations_18 : decode cX7_readRelations 18 = .ok (.ireturn, 1) := by decide +kernel
theorem dX7_readRelations_19 : decode cX7_readRelations 19 = .ok (.aload_n 0, 1) := by decide +kernel
theorem dX7_readRelations_20 : decode cX7_readRelations 20 = .ok (.getfield 74, 3) := by decide +kernel
theorem dX7_readRelations_23 : decode cX7_readRelations 23 = .ok (.istore_n 1, 1) := by decide +kernel
theorem dX7_readRelations_24 : decode cX7_readRelations 24 = .ok (.aload_n 0, 1) := by decide +kernel
theorem dX7_readRelations_25 : decode cX7_readRelations 25 = .ok (.invokevirtual 43, 3) := by decide +kernel
theorem dX7_readRelations_28 : decode cX7_readRelations 28 = .ok (.aload_n 0, 1) := by decide +kernel
theorem dX7_readRelations_29 : decode cX7_readRelations 29 = .ok (.getfield 50, 3) := by decide +kernel
theorem dX7_readRelations_32 : decode cX7_readRelations 32 = .ok (.bipush 6, 2) := by decide +kernel
theorem dX7_readRelations_34 : decode cX7_readRelations 34 = .ok (.if_icmp .eq 9, 3) := by decide +kernel
theorem dX7_readRelations_37 : decode cX7_readRelations 37 = .ok (.aload_n 0, 1) := by decide +kernel
theorem dX7_readRelations_38 : decode cX7_readRelations 38 = .ok (.iconst 1, 1) := by decide +kernel
theorem dX7_readRelations_39 : decode cX7_readRelations 39 = .ok (.invokevirtual 53, 3) := by decide +kernel
theorem dX7_readRelations_42 : decode cX7_readRelations 42 = .ok (.ireturn, 1) := by decide +kernel
theorem dX7_readRelations_43 : decode cX7_readRelations 43 = .ok (.iconst 0, 1) := by decide +kernel
theorem dX7_readRelations_44 : decode cX7_readRelations 44 = .ok (.istore_n 2, 1) := by decide +kernel
theorem dX7_readRelations_45 : decode cX7_readRelations 45 = .ok (.iload_n 2, 1) := by decide +kernel
theorem dX7_readRelations_46 : decode cX7_readRelations 46 = .ok (.sipush 400, 3) := by decide +kernel
theorem dX7_readRelations_49 : decode cX7_readRelations 49 = .ok (.if_icmp .ge 84, 3) := by decide +kernel
theorem dX7_readRelations_52 : decode cX7_readRelations 52 = .ok (.aload_n 0, 1) := by decide +kernel
theorem dX7_readRelations_53 : decode cX7_readRelations 53 = .ok (.getfield 50, 3) := by decide +kernel
theorem dX7_readRelations_56 : decode cX7_readRelations 56 = .ok (.bipush 6, 2) := by decide +kernel
theorem dX7_readRelations_58 : decode cX7_readRelations 58 = .ok (.if_icmp .ne 75, 3) := by decide +kernel
theorem dX7_readRelations_61 : decode cX7_readRelations 61 = .ok (.aload_n 0, 1) := by decide +kernel
theorem dX7_readRelations_62 : decode cX7_readRelations 62 = .ok (.invokevirtual 43, 3) := by decide +kernel
theorem dX7_readRelations_65 : decode cX7_readRelations 65 = .ok (.aload_n 0, 1) := by decide +kernel
theorem dX7_readRelations_66 : decode cX7_readRelations 66 = .ok (.iconst 0, 1) := by decide +kernel
theorem dX7_readRelations_67 : decode cX7_readRelations 67 = .ok (.aload_n 0, 1) := by decide +kernel
theorem dX7_readRelations_68 : decode cX7_readRelations 68 = .ok (.getfield 18, 3) := by decide +kernel
theorem dX7_readRelations_71 : decode cX7_readRelations 71 = .ok (.getfield 80, 3) := by decide +kernel
theorem dX7_readRelations_74 : decode cX7_readRelations 74 = .ok (.iconst 1, 1) := by decide +kernel
theorem dX7_readRelations_75 : decode cX7_readRelations 75 = .ok (.isub, 1) := by decide +kernel
theorem dX7_readRelations_76 : decode cX7_readRelations 76 = .ok (.invokevirtual 70, 3) := by decide +kernel
theorem dX7_readRelations_79 : decode cX7_readRelations 79 = .ok (.ifCond .ne 5, 3) := by decide +kernel
theorem dX7_readRelations_82 : decode cX7_readRelations 82 = .ok (.iconst 0, 1) := by decide +kernel
theorem dX7_readRelations_83 : decode cX7_readRelations 83 = .ok (.ireturn, 1) := by decide +kernel
theorem dX7_readRelations_84 : decode cX7_readRelations 84 = .ok (.aload_n 0, 1) := by decide +kernel
theorem dX7_readRelations_85 : decode cX7_readRelations 85 = .ok (.getfield 74, 3) := by decide +kernel
theorem dX7_readRelations_88 : decode cX7_readRelations 88 = .ok (.istore_n 3, 1) := by decide +kernel
theorem dX7_readRelations_89 : decode cX7_readRelations 89 = .ok (.iload_n 1, 1) := by decide +kernel
theorem dX7_readRelations_90 : decode cX7_readRelations 90 = .ok (.iload_n 3, 1) := by decide +kernel
theorem dX7_readRelations_91 : decode cX7_readRelations 91 = .ok (.if_icmp .eq 15, 3) := by decide +kernel
theorem dX7_readRelations_94 : decode cX7_readRelations 94 = .ok (.aload_n 0, 1) := by decide +kernel
theorem dX7_readRelations_95 : decode cX7_readRelations 95 = .ok (.getfield 18, 3) := by decide +kernel
theorem dX7_readRelations_98 : decode cX7_readRelations 98 = .ok (.iload_n 3, 1) := by decide +kernel
theorem dX7_readRelations_99 : decode cX7_readRelations 99 = .ok (.iload_n 1, 1) := by decide +kernel
theorem dX7_readRelations_100 : decode cX7_readRelations 100 = .ok (.invokevirtual 87, 3) := by decide +kernel
theorem dX7_readRelations_103 : decode cX7_readRelations 103 = .ok (.ifCond .eq 9, 3) := by decide +kernel
theorem dX7_readRelations_106 : decode cX7_readRelations 106 = .ok (.aload_n 0, 1) := by decide +kernel
theorem dX7_readRelations_107 : decode cX7_readRelations 107 = .ok (.iconst 4, 1) := by decide +kernel
theorem dX7_readRelations_108 : decode cX7_readRelations 108 = .ok (.invokevirtual 53, 3) := by decide +kernel
theorem dX7_readRelations_111 : decode cX7_readRelations 111 = .ok (.ireturn, 1) := by decide +kernel
theorem dX7_readRelations_112 : decode cX7_readRelations 112 = .ok (.aload_n 0, 1) := by decide +kernel
theorem dX7_readRelations_113 : decode cX7_readRelations 113 = .ok (.getfield 18, 3) := by decide +kernel
theorem dX7_readRelations_116 : decode cX7_readRelations 116 = .ok (.iload_n 1, 1) := by decide +kernel
theorem dX7_readRelations_117 : decode cX7_readRelations 117 = .ok (.iload_n 3, 1) := by decide +kernel
theorem dX7_readRelations_118 : decode cX7_readRelations 118 = .ok (.invokevirtual 90, 3) := by decide +kernel
theorem dX7_readRelations_121 : decode cX7_readRelations 121 = .ok (.iload_n 3, 1) := by decide +kernel
theorem dX7_readRelations_122 : decode cX7_readRelations 122 = .ok (.istore_n 1, 1) := by decide +kernel
theorem dX7_readRelations_123 : decode cX7_readRelations 123 = .ok (.aload_n 0, 1) := by decide +kernel
theorem dX7_readRelations_124 : decode cX7_readRelations 124 = .ok (.invokevirtual 43, 3) := by decide +kernel
theorem dX7_readRelations_127 : decode cX7_readRelations 127 = .ok (.iinc 2 1, 3) := by decide +kernel
theorem dX7_readRelations_130 : decode cX7_readRelations 130 = .ok (.goto (-85), 3) := by decide +kernel
theorem dX7_readRelations_133 : decode cX7_readRelations 133 = .ok (.iconst 1, 1) := by decide +kernel
theorem dX7_readRelations_134 : decode cX7_readRelations 134 = .ok (.ireturn, 1) := by decide +kernel
set_option maxRecDepth 20000 in
theorem ggX7_isNumber_X7_refuse : GoodIn wsX7_isNumber wsX7_refuse := goodIn_r _ [8, 9, 10, 11, 12, 13, 14, 15, 16, 17, 18, 19, 20, 21, 22] (by decide +kernel) (by decide +kernel)
set_option maxRecDepth 20000 in
theorem gX7_isNumber_X7_refuse : GoodIn wsX7_isNumber (wsV RX7 53 RX7 yX7_refuse wsX7_refuse) := goodIn_app (goodIn_of _ (by decide +kernel)) ggX7_isNumber_X7_refuse
theorem dX7_isNumber_0 : decode cX7_isNumber 0 = .ok (.aload_n 0, 1) := by decide +kernel
theorem dX7_isNumber_1 : decode cX7_isNumber 1 = .ok (.getfield 50, 3) := by decide +kernel
theorem dX7_isNumber_4 : decode cX7_isNumber 4 = .ok (.iconst 4, 1) := by decide +kernel
theorem dX7_isNumber_5 : decode cX7_isNumber 5 = .ok (.if_icmp .eq 9, 3) := by decide +kernel
theorem dX7_isNumber_8 : decode cX7_isNumber 8 = .ok (.aload_n 0, 1) := by decide +kernel
theorem dX7_isNumber_9 : decode cX7_isNumber 9 = .ok (.iconst 1, 1) := by decide +kernel
theorem dX7_isNumber_10 : decode cX7_isNumber 10 = .ok (.invokevirtual 53, 3) := by decide +kernel
theorem dX7_isNumber_13 : decode cX7_isNumber 13 = .ok (.ireturn, 1) := by decide +kernel
theorem dX7_isNumber_14 : decode cX7_isNumber 14 = .ok (.aload_n 0, 1) := by decide +kernel
theorem dX7_isNumber_15 : decode cX7_isNumber 15 = .ok (.getfield 94, 3) := by decide +kernel
theorem dX7_isNumber_18 : decode cX7_isNumber 18 = .ok (.iconst 2, 1) := by decide +kernel
theorem dX7_isNumber_19 : decode cX7_isNumber 19 = .ok (.if_icmp .gt 19, 3) := by decide +kernel
theorem dX7_isNumber_22 : decode cX7_isNumber 22 = .ok (.aload_n 0, 1) := by decide +kernel
theorem dX7_isNumber_23 : decode cX7_isNumber 23 = .ok (.getfield 74, 3) := by decide +kernel
theorem dX7_isNumber_26 : decode cX7_isNumber 26 = .ok (.iload_n 1, 1) := by decide +kernel
theorem dX7_isNumber_27 : decode cX7_isNumber 27 = .ok (.if_icmp .lt 11, 3) := by decide +kernel
theorem dX7_isNumber_30 : decode cX7_isNumber 30 = .ok (.aload_n 0, 1) := by decide +kernel
theorem dX7_isNumber_31 : decode cX7_isNumber 31 = .ok (.getfield 74, 3) := by decide +kernel
theorem dX7_isNumber_34 : decode cX7_isNumber 34 = .ok (.iload_n 2, 1) := by decide +kernel
theorem dX7_isNumber_35 : decode cX7_isNumber 35 = .ok (.if_icmp .le 9, 3) := by decide +kernel
theorem dX7_isNumber_38 : decode cX7_isNumber 38 = .ok (.aload_n 0, 1) := by decide +kernel
theorem dX7_isNumber_39 : decode cX7_isNumber 39 = .ok (.iconst 2, 1) := by decide +kernel
theorem dX7_isNumber_40 : decode cX7_isNumber 40 = .ok (.invokevirtual 53, 3) := by decide +kernel
theorem dX7_isNumber_43 : decode cX7_isNumber 43 = .ok (.ireturn, 1) := by decide +kernel
theorem dX7_isNumber_44 : decode cX7_isNumber 44 = .ok (.iconst 1, 1) := by decide +kernel
theorem dX7_isNumber_45 : decode cX7_isNumber 45 = .ok (.ireturn, 1) := by decide +kernel
theorem dX7_refuse_0 : decode cX7_refuse 0 = .ok (.aload_n 0, 1) := by decide +kernel
theorem dX7_refuse_1 : decode cX7_refuse 1 = .ok (.iload_n 1, 1) := by decide +kernel
theorem dX7_refuse_2 : decode cX7_refuse 2 = .ok (.putfield 32, 3) := by decide +kernel
theorem dX7_refuse_5 : decode cX7_refuse 5 = .ok (.aload_n 0, 1) := by decide +kernel
theorem dX7_refuse_6 : decode cX7_refuse 6 = .ok (.aload_n 0, 1) := by decide +kernel
theorem dX7_refuse_7 : decode cX7_refuse 7 = .ok (.getfield 97, 3) := by decide +kernel
theorem dX7_refuse_10 : decode cX7_refuse 10 = .ok (.putfield 22, 3) := by decide +kernel
theorem dX7_refuse_13 : decode cX7_refuse 13 = .ok (.iconst 0, 1) := by decide +kernel
theorem dX7_refuse_14 : decode cX7_refuse 14 = .ok (.ireturn, 1) := by decide +kernel
set_option maxRecDepth 20000 in
theorem ggX7_nextToken_X7_isLetter : GoodIn wsX7_nextToken wsX7_isLetter := goodIn_r _ [9] (by decide +kernel) (by decide +kernel)
set_option maxRecDepth 20000 in
theorem gX7_nextToken_X7_isLetter : GoodIn wsX7_nextToken (va_wsS RX7 100 yX7_isLetter wsX7_isLetter) := goodIn_app (goodIn_of _ (by decide +kernel)) ggX7_nextToken_X7_isLetter
set_option maxRecDepth 20000 in
theorem ggX7_nextToken_X7_takeWord : GoodIn wsX7_nextToken wsX7_takeWord := goodIn_r _ [13, 1, 2, 3, 5, 6, 7, 8, 9, 14, 15, 16, 17, 4, 18, 19, 20, 21, 22, 23, 24, 25, 26, 27, 28, 29, 30, 31, 32, 33, 34, 35, 36, 37, 38, 39, 40, 41, 42, 43, 44, 45, 46, 47, 48, 49, 50, 51, 52, 53, 54, 55, 56, 57, 58, 59, 60, 61, 62, 63, 64, 65, 66, 76, 77, 78, 79, 80, 81, 82, 83, 84, 85, 86] (by decide +kernel) (by decide +kernel)
set_option maxRecDepth 20000 in
theorem gX7_nextToken_X7_takeWord : GoodIn wsX7_nextToken (wsV RX7 104 RX7 yX7_takeWord wsX7_takeWord) := goodIn_app (goodIn_of _ (by decide +kernel)) ggX7_nextToken_X7_takeWord
set_option maxRecDepth 20000 in
theorem ggX7_nextToken_X7_isDigit : GoodIn wsX7_nextToken wsX7_isDigit := goodIn_r _ [69] (by decide +kernel) (by decide +kernel)
set_option maxRecDepth 20000 in
theorem gX7_nextToken_X7_isDigit : GoodIn wsX7_nextToken (va_wsS RX7 107 yX7_isDigit wsX7_isDigit) := goodIn_app (goodIn_of _ (by decide +kernel)) ggX7_nextToken_X7_isDigit
set_option maxRecDepth 20000 in
theorem ggX7_nextToken_X7_takeNumber : GoodIn wsX7_nextToken wsX7_takeNumber := goodIn_r _ [73, 5, 74, 75, 1, 2, 3, 67, 68, 8, 69, 76, 77, 78, 79, 80, 81, 82, 83, 84, 85, 86] (by decide +kernel) (by decide +kernel)
set_option maxRecDepth 20000 in
theorem gX7_nextToken_X7_takeNumber : GoodIn wsX7_nextToken (wsV RX7 110 RX7 yX7_takeNumber wsX7_takeNumber) := goodIn_app (goodIn_of _ (by decide +kernel)) ggX7_nextToken_X7_takeNumber
theorem dX7_nextToken_0 : decode cX7_nextToken 0 = .ok (.aload_n 0, 1) := by decide +kernel
theorem dX7_nextToken_1 : decode cX7_nextToken 1 = .ok (.getfield 29, 3) := by decide +kernel
theorem dX7_nextToken_4 : decode cX7_nextToken 4 = .ok (.aload_n 0, 1) := by decide +kernel
theorem dX7_nextToken_5 : decode cX7_nextToken 5 = .ok (.getfield 26, 3) := by decide +kernel
theorem dX7_nextToken_8 : decode cX7_nextToken 8 = .ok (.if_icmp .ge 44, 3) := by decide +kernel
theorem dX7_nextToken_11 : decode cX7_nextToken 11 = .ok (.aload_n 0, 1) := by decide +kernel
theorem dX7_nextToken_12 : decode cX7_nextToken 12 = .ok (.getfield 9, 3) := by decide +kernel
theorem dX7_nextToken_15 : decode cX7_nextToken 15 = .ok (.aload_n 0, 1) := by decide +kernel
theorem dX7_nextToken_16 : decode cX7_nextToken 16 = .ok (.getfield 29, 3) := by decide +kernel
theorem dX7_nextToken_19 : decode cX7_nextToken 19 = .ok (.caload, 1) := by decide +kernel
theorem dX7_nextToken_20 : decode cX7_nextToken 20 = .ok (.bipush 32, 2) := by decide +kernel
theorem dX7_nextToken_22 : decode cX7_nextToken 22 = .ok (.if_icmp .eq 17, 3) := by decide +kernel
theorem dX7_nextToken_25 : decode cX7_nextToken 25 = .ok (.aload_n 0, 1) := by decide +kernel
theorem dX7_nextToken_26 : decode cX7_nextToken 26 = .ok (.getfield 9, 3) := by decide +kernel
theorem dX7_nextToken_29 : decode cX7_nextToken 29 = .ok (.aload_n 0, 1) := by decide +kernel
theorem dX7_nextToken_30 : decode cX7_nextToken 30 = .ok (.getfield 29, 3) := by decide +kernel
theorem dX7_nextToken_33 : decode cX7_nextToken 33 = .ok (.caload, 1) := by decide +kernel
theorem dX7_nextToken_34 : decode cX7_nextToken 34 = .ok (.bipush 10, 2) := by decide +kernel
theorem dX7_nextToken_36 : decode cX7_nextToken 36 = .ok (.if_icmp .ne 16, 3) := by decide +kernel
theorem dX7_nextToken_39 : decode cX7_nextToken 39 = .ok (.aload_n 0, 1) := by decide +kernel
theorem dX7_nextToken_40 : decode cX7_nextToken 40 = .ok (.dup, 1) := by decide +kernel
theorem dX7_nextToken_41 : decode cX7_nextToken 41 = .ok (.getfield 29, 3) := by decide +kernel
theorem dX7_nextToken_44 : decode cX7_nextToken 44 = .ok (.iconst 1, 1) := by decide +kernel
theorem dX7_nextToken_45 : decode cX7_nextToken 45 = .ok (.iadd, 1) := by decide +kernel
theorem dX7_nextToken_46 : decode cX7_nextToken 46 = .ok (.putfield 29, 3) := by decide +kernel
theorem dX7_nextToken_49 : decode cX7_nextToken 49 = .ok (.goto (-49), 3) := by decide +kernel
theorem dX7_nextToken_52 : decode cX7_nextToken 52 = .ok (.aload_n 0, 1) := by decide +kernel
theorem dX7_nextToken_53 : decode cX7_nextToken 53 = .ok (.aload_n 0, 1) := by decide +kernel
theorem dX7_nextToken_54 : decode cX7_nextToken 54 = .ok (.getfield 29, 3) := by decide +kernel
theorem dX7_nextToken_57 : decode cX7_nextToken 57 = .ok (.putfield 97, 3) := by decide +kernel
theorem dX7_nextToken_60 : decode cX7_nextToken 60 = .ok (.aload_n 0, 1) := by decide +kernel
theorem dX7_nextToken_61 : decode cX7_nextToken 61 = .ok (.getfield 29, 3) := by decide +kernel
theorem dX7_nextToken_64 : decode cX7_nextToken 64 = .ok (.aload_n 0, 1) := by decide +kernel
theorem dX7_nextToken_65 : decode cX7_nextToken 65 = .ok (.getfield 26, 3) := by decide +kernel
theorem dX7_nextToken_68 : decode cX7_nextToken 68 = .ok (.if_icmp .lt 11, 3) := by decide +kernel
theorem dX7_nextToken_71 : decode cX7_nextToken 71 = .ok (.aload_n 0, 1) := by decide +kernel
theorem dX7_nextToken_72 : decode cX7_nextToken 72 = .ok (.iconst 0, 1) := by decide +kernel
theorem dX7_nextToken_73 : decode cX7_nextToken 73 = .ok (.putfield 50, 3) := by decide +kernel
theorem dX7_nextToken_76 : decode cX7_nextToken 76 = .ok (.goto 100, 3) := by decide +kernel
theorem dX7_nextToken_79 : decode cX7_nextToken 79 = .ok (.aload_n 0, 1) := by decide +kernel
theorem dX7_nextToken_80 : decode cX7_nextToken 80 = .ok (.getfield 9, 3) := by decide +kernel
theorem dX7_nextToken_83 : decode cX7_nextToken 83 = .ok (.aload_n 0, 1) := by decide +kernel
theorem dX7_nextToken_84 : decode cX7_nextToken 84 = .ok (.getfield 29, 3) := by decide +kernel
theorem dX7_nextToken_87 : decode cX7_nextToken 87 = .ok (.caload, 1) := by decide +kernel
theorem dX7_nextToken_88 : decode cX7_nextToken 88 = .ok (.invokestatic 100, 3) := by decide +kernel
theorem dX7_nextToken_91 : decode cX7_nextToken 91 = .ok (.ifCond .eq 10, 3) := by decide +kernel
theorem dX7_nextToken_94 : decode cX7_nextToken 94 = .ok (.aload_n 0, 1) := by decide +kernel
theorem dX7_nextToken_95 : decode cX7_nextToken 95 = .ok (.invokevirtual 104, 3) := by decide +kernel
theorem dX7_nextToken_98 : decode cX7_nextToken 98 = .ok (.goto 78, 3) := by decide +kernel
theorem dX7_nextToken_101 : decode cX7_nextToken 101 = .ok (.aload_n 0, 1) := by decide +kernel
theorem dX7_nextToken_102 : decode cX7_nextToken 102 = .ok (.getfield 9, 3) := by decide +kernel
theorem dX7_nextToken_105 : decode cX7_nextToken 105 = .ok (.aload_n 0, 1) := by decide +kernel
theorem dX7_nextToken_106 : decode cX7_nextToken 106 = .ok (.getfield 29, 3) := by decide +kernel
theorem dX7_nextToken_109 : decode cX7_nextToken 109 = .ok (.caload, 1) := by decide +kernel
theorem dX7_nextToken_110 : decode cX7_nextToken 110 = .ok (.invokestatic 107, 3) := by decide +kernel
theorem dX7_nextToken_113 : decode cX7_nextToken 113 = .ok (.ifCond .eq 10, 3) := by decide +kernel
theorem dX7_nextToken_116 : decode cX7_nextToken 116 = .ok (.aload_n 0, 1) := by decide +kernel
theorem dX7_nextToken_117 : decode cX7_nextToken 117 = .ok (.invokevirtual 110, 3) := by decide +kernel
theorem dX7_nextToken_120 : decode cX7_nextToken 120 = .ok (.goto 56, 3) := by decide +kernel
theorem dX7_nextToken_123 : decode cX7_nextToken 123 = .ok (.aload_n 0, 1) := by decide +kernel
theorem dX7_nextToken_124 : decode cX7_nextToken 124 = .ok (.aload_n 0, 1) := by decide +kernel
theorem dX7_nextToken_125 : decode cX7_nextToken 125 = .ok (.getfield 9, 3) := by decide +kernel
theorem dX7_nextToken_128 : decode cX7_nextToken 128 = .ok (.aload_n 0, 1) := by decide +kernel
theorem dX7_nextToken_129 : decode cX7_nextToken 129 = .ok (.getfield 29, 3) := by decide +kernel
theorem dX7_nextToken_132 : decode cX7_nextToken 132 = .ok (.caload, 1) := by decide +kernel
theorem dX7_nextToken_133 : decode cX7_nextToken 133 = .ok (.bipush 59, 2) := by decide +kernel
theorem dX7_nextToken_135 : decode cX7_nextToken 135 = .ok (.if_icmp .ne 7, 3) := by decide +kernel
theorem dX7_nextToken_138 : decode cX7_nextToken 138 = .ok (.iconst 5, 1) := by decide +kernel
theorem dX7_nextToken_139 : decode cX7_nextToken 139 = .ok (.goto 24, 3) := by decide +kernel
theorem dX7_nextToken_142 : decode cX7_nextToken 142 = .ok (.aload_n 0, 1) := by decide +kernel
theorem dX7_nextToken_143 : decode cX7_nextToken 143 = .ok (.getfield 9, 3) := by decide +kernel
theorem dX7_nextToken_146 : decode cX7_nextToken 146 = .ok (.aload_n 0, 1) := by decide +kernel
theorem dX7_nextToken_147 : decode cX7_nextToken 147 = .ok (.getfield 29, 3) := by decide +kernel
theorem dX7_nextToken_150 : decode cX7_nextToken 150 = .ok (.caload, 1) := by decide +kernel
theorem dX7_nextToken_151 : decode cX7_nextToken 151 = .ok (.bipush 60, 2) := by decide +kernel
theorem dX7_nextToken_153 : decode cX7_nextToken 153 = .ok (.if_icmp .ne 8, 3) := by decide +kernel
theorem dX7_nextToken_156 : decode cX7_nextToken 156 = .ok (.bipush 6, 2) := by decide +kernel
theorem dX7_nextToken_158 : decode cX7_nextToken 158 = .ok (.goto 5, 3) := by decide +kernel
theorem dX7_nextToken_161 : decode cX7_nextToken 161 = .ok (.bipush 7, 2) := by decide +kernel
theorem dX7_nextToken_163 : decode cX7_nextToken 163 = .ok (.putfield 50, 3) := by decide +kernel
theorem dX7_nextToken_166 : decode cX7_nextToken 166 = .ok (.aload_n 0, 1) := by decide +kernel
theorem dX7_nextToken_167 : decode cX7_nextToken 167 = .ok (.dup, 1) := by decide +kernel
theorem dX7_nextToken_168 : decode cX7_nextToken 168 = .ok (.getfield 29, 3) := by decide +kernel
theorem dX7_nextToken_171 : decode cX7_nextToken 171 = .ok (.iconst 1, 1) := by decide +kernel
theorem dX7_nextToken_172 : decode cX7_nextToken 172 = .ok (.iadd, 1) := by decide +kernel
theorem dX7_nextToken_173 : decode cX7_nextToken 173 = .ok (.putfield 29, 3) := by decide +kernel
theorem dX7_nextToken_176 : decode cX7_nextToken 176 = .ok (.return_, 1) := by decide +kernel
set_option maxRecDepth 20000 in
theorem ggX7_takeWord_X7_isLetter : GoodIn wsX7_takeWord wsX7_isLetter := goodIn_r _ [8] (by decide +kernel) (by decide +kernel)
set_option maxRecDepth 20000 in
theorem gX7_takeWord_X7_isLetter : GoodIn wsX7_takeWord (va_wsS RX7 100 yX7_isLetter wsX7_isLetter) := goodIn_app (goodIn_of _ (by decide +kernel)) ggX7_takeWord_X7_isLetter
set_option maxRecDepth 20000 in
theorem ggX7_takeWord_X7_isWord : GoodIn wsX7_takeWord wsX7_isWord := goodIn_r _ [12, 1, 13, 3, 14, 15, 16, 17, 18, 19, 20, 21, 22, 23, 24, 25, 26, 27, 28, 29, 30, 31, 32, 33, 34, 35, 36, 37, 38, 39, 40, 41, 42, 43, 44, 45, 46, 47, 48, 49, 50, 51, 52, 53, 54, 55, 56, 57, 58, 59, 60, 61, 62, 63, 64, 65, 66, 67, 68, 69, 70, 71, 72, 73] (by decide +kernel) (by decide +kernel)
set_option maxRecDepth 20000 in
theorem gX7_takeWord_X7_isWord : GoodIn wsX7_takeWord (wsV RX7 115 RX7 yX7_isWord wsX7_isWord) := goodIn_app (goodIn_of _ (by decide +kernel)) ggX7_takeWord_X7_isWord
theorem dX7_takeWord_0 : decode cX7_takeWord 0 = .ok (.aload_n 0, 1) := by decide +kernel
theorem dX7_takeWord_1 : decode cX7_takeWord 1 = .ok (.getfield 29, 3) := by decide +kernel
theorem dX7_takeWord_4 : decode cX7_takeWord 4 = .ok (.aload_n 0, 1) := by decide +kernel
theorem dX7_takeWord_5 : decode cX7_takeWord 5 = .ok (.getfield 26, 3) := by decide +kernel
theorem dX7_takeWord_8 : decode cX7_takeWord 8 = .ok (.if_icmp .ge 31, 3) := by decide +kernel
theorem dX7_takeWord_11 : decode cX7_takeWord 11 = .ok (.aload_n 0, 1) := by decide +kernel
theorem dX7_takeWord_12 : decode cX7_takeWord 12 = .ok (.getfield 9, 3) := by decide +kernel
theorem dX7_takeWord_15 : decode cX7_takeWord 15 = .ok (.aload_n 0, 1) := by decide +kernel
theorem dX7_takeWord_16 : decode cX7_takeWord 16 = .ok (.getfield 29, 3) := by decide +kernel
theorem dX7_takeWord_19 : decode cX7_takeWord 19 = .ok (.caload, 1) := by decide +kernel
theorem dX7_takeWord_20 : decode cX7_takeWord 20 = .ok (.invokestatic 100, 3) := by decide +kernel
theorem dX7_takeWord_23 : decode cX7_takeWord 23 = .ok (.ifCond .eq 16, 3) := by decide +kernel
theorem dX7_takeWord_26 : decode cX7_takeWord 26 = .ok (.aload_n 0, 1) := by decide +kernel
theorem dX7_takeWord_27 : decode cX7_takeWord 27 = .ok (.dup, 1) := by decide +kernel
theorem dX7_takeWord_28 : decode cX7_takeWord 28 = .ok (.getfield 29, 3) := by decide +kernel
theorem dX7_takeWord_31 : decode cX7_takeWord 31 = .ok (.iconst 1, 1) := by decide +kernel
theorem dX7_takeWord_32 : decode cX7_takeWord 32 = .ok (.iadd, 1) := by decide +kernel
theorem dX7_takeWord_33 : decode cX7_takeWord 33 = .ok (.putfield 29, 3) := by decide +kernel
theorem dX7_takeWord_36 : decode cX7_takeWord 36 = .ok (.goto (-36), 3) := by decide +kernel
theorem dX7_takeWord_39 : decode cX7_takeWord 39 = .ok (.aload_n 0, 1) := by decide +kernel
