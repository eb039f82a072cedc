theorem dX7_takeWord_40 : decode cX7_takeWord 40 = .ok (.aload_n 0, 1) := by decide +kernel
theorem dX7_takeWord_41 : decode cX7_takeWord 41 = .ok (.ldc 113, 2) := by decide +kernel
theorem dX7_takeWord_43 : decode cX7_takeWord 43 = .ok (.invokevirtual 115, 3) := by decide +kernel
theorem dX7_takeWord_46 : decode cX7_takeWord 46 = .ok (.ifCond .eq 7, 3) := by decide +kernel
theorem dX7_takeWord_49 : decode cX7_takeWord 49 = .ok (.iconst 1, 1) := by decide +kernel
theorem dX7_takeWord_50 : decode cX7_takeWord 50 = .ok (.goto 31, 3) := by decide +kernel
theorem dX7_takeWord_53 : decode cX7_takeWord 53 = .ok (.aload_n 0, 1) := by decide +kernel
theorem dX7_takeWord_54 : decode cX7_takeWord 54 = .ok (.ldc 119, 2) := by decide +kernel
theorem dX7_takeWord_56 : decode cX7_takeWord 56 = .ok (.invokevirtual 115, 3) := by decide +kernel
theorem dX7_takeWord_59 : decode cX7_takeWord 59 = .ok (.ifCond .eq 7, 3) := by decide +kernel
theorem dX7_takeWord_62 : decode cX7_takeWord 62 = .ok (.iconst 2, 1) := by decide +kernel
theorem dX7_takeWord_63 : decode cX7_takeWord 63 = .ok (.goto 18, 3) := by decide +kernel
theorem dX7_takeWord_66 : decode cX7_takeWord 66 = .ok (.aload_n 0, 1) := by decide +kernel
theorem dX7_takeWord_67 : decode cX7_takeWord 67 = .ok (.ldc 121, 2) := by decide +kernel
theorem dX7_takeWord_69 : decode cX7_takeWord 69 = .ok (.invokevirtual 115, 3) := by decide +kernel
theorem dX7_takeWord_72 : decode cX7_takeWord 72 = .ok (.ifCond .eq 7, 3) := by decide +kernel
theorem dX7_takeWord_75 : decode cX7_takeWord 75 = .ok (.iconst 3, 1) := by decide +kernel
theorem dX7_takeWord_76 : decode cX7_takeWord 76 = .ok (.goto 5, 3) := by decide +kernel
theorem dX7_takeWord_79 : decode cX7_takeWord 79 = .ok (.bipush 7, 2) := by decide +kernel
theorem dX7_takeWord_81 : decode cX7_takeWord 81 = .ok (.putfield 50, 3) := by decide +kernel
theorem dX7_takeWord_84 : decode cX7_takeWord 84 = .ok (.return_, 1) := by decide +kernel
set_option maxRecDepth 20000 in
theorem ggX7_takeNumber_X7_isDigit : GoodIn wsX7_takeNumber wsX7_isDigit := goodIn_r _ [10] (by decide +kernel) (by decide +kernel)
set_option maxRecDepth 20000 in
theorem gX7_takeNumber_X7_isDigit : GoodIn wsX7_takeNumber (va_wsS RX7 107 yX7_isDigit wsX7_isDigit) := goodIn_app (goodIn_of _ (by decide +kernel)) ggX7_takeNumber_X7_isDigit
theorem dX7_takeNumber_0 : decode cX7_takeNumber 0 = .ok (.aload_n 0, 1) := by decide +kernel
theorem dX7_takeNumber_1 : decode cX7_takeNumber 1 = .ok (.iconst 4, 1) := by decide +kernel
theorem dX7_takeNumber_2 : decode cX7_takeNumber 2 = .ok (.putfield 50, 3) := by decide +kernel
theorem dX7_takeNumber_5 : decode cX7_takeNumber 5 = .ok (.aload_n 0, 1) := by decide +kernel
theorem dX7_takeNumber_6 : decode cX7_takeNumber 6 = .ok (.iconst 0, 1) := by decide +kernel
theorem dX7_takeNumber_7 : decode cX7_takeNumber 7 = .ok (.putfield 94, 3) := by decide +kernel
theorem dX7_takeNumber_10 : decode cX7_takeNumber 10 = .ok (.aload_n 0, 1) := by decide +kernel
theorem dX7_takeNumber_11 : decode cX7_takeNumber 11 = .ok (.iconst 0, 1) := by decide +kernel
theorem dX7_takeNumber_12 : decode cX7_takeNumber 12 = .ok (.putfield 74, 3) := by decide +kernel
theorem dX7_takeNumber_15 : decode cX7_takeNumber 15 = .ok (.aload_n 0, 1) := by decide +kernel
theorem dX7_takeNumber_16 : decode cX7_takeNumber 16 = .ok (.getfield 29, 3) := by decide +kernel
theorem dX7_takeNumber_19 : decode cX7_takeNumber 19 = .ok (.aload_n 0, 1) := by decide +kernel
theorem dX7_takeNumber_20 : decode cX7_takeNumber 20 = .ok (.getfield 26, 3) := by decide +kernel
theorem dX7_takeNumber_23 : decode cX7_takeNumber 23 = .ok (.if_icmp .ge 73, 3) := by decide +kernel
theorem dX7_takeNumber_26 : decode cX7_takeNumber 26 = .ok (.aload_n 0, 1) := by decide +kernel
theorem dX7_takeNumber_27 : decode cX7_takeNumber 27 = .ok (.getfield 9, 3) := by decide +kernel
theorem dX7_takeNumber_30 : decode cX7_takeNumber 30 = .ok (.aload_n 0, 1) := by decide +kernel
theorem dX7_takeNumber_31 : decode cX7_takeNumber 31 = .ok (.getfield 29, 3) := by decide +kernel
theorem dX7_takeNumber_34 : decode cX7_takeNumber 34 = .ok (.caload, 1) := by decide +kernel
theorem dX7_takeNumber_35 : decode cX7_takeNumber 35 = .ok (.invokestatic 107, 3) := by decide +kernel
theorem dX7_takeNumber_38 : decode cX7_takeNumber 38 = .ok (.ifCond .eq 58, 3) := by decide +kernel
theorem dX7_takeNumber_41 : decode cX7_takeNumber 41 = .ok (.aload_n 0, 1) := by decide +kernel
theorem dX7_takeNumber_42 : decode cX7_takeNumber 42 = .ok (.getfield 94, 3) := by decide +kernel
theorem dX7_takeNumber_45 : decode cX7_takeNumber 45 = .ok (.iconst 2, 1) := by decide +kernel
theorem dX7_takeNumber_46 : decode cX7_takeNumber 46 = .ok (.if_icmp .ge 27, 3) := by decide +kernel
theorem dX7_takeNumber_49 : decode cX7_takeNumber 49 = .ok (.aload_n 0, 1) := by decide +kernel
theorem dX7_takeNumber_50 : decode cX7_takeNumber 50 = .ok (.bipush 10, 2) := by decide +kernel
theorem dX7_takeNumber_52 : decode cX7_takeNumber 52 = .ok (.aload_n 0, 1) := by decide +kernel
theorem dX7_takeNumber_53 : decode cX7_takeNumber 53 = .ok (.getfield 74, 3) := by decide +kernel
theorem dX7_takeNumber_56 : decode cX7_takeNumber 56 = .ok (.imul, 1) := by decide +kernel
theorem dX7_takeNumber_57 : decode cX7_takeNumber 57 = .ok (.aload_n 0, 1) := by decide +kernel
theorem dX7_takeNumber_58 : decode cX7_takeNumber 58 = .ok (.getfield 9, 3) := by decide +kernel
theorem dX7_takeNumber_61 : decode cX7_takeNumber 61 = .ok (.aload_n 0, 1) := by decide +kernel
theorem dX7_takeNumber_62 : decode cX7_takeNumber 62 = .ok (.getfield 29, 3) := by decide +kernel
theorem dX7_takeNumber_65 : decode cX7_takeNumber 65 = .ok (.caload, 1) := by decide +kernel
theorem dX7_takeNumber_66 : decode cX7_takeNumber 66 = .ok (.bipush 48, 2) := by decide +kernel
theorem dX7_takeNumber_68 : decode cX7_takeNumber 68 = .ok (.isub, 1) := by decide +kernel
theorem dX7_takeNumber_69 : decode cX7_takeNumber 69 = .ok (.iadd, 1) := by decide +kernel
theorem dX7_takeNumber_70 : decode cX7_takeNumber 70 = .ok (.putfield 74, 3) := by decide +kernel
theorem dX7_takeNumber_73 : decode cX7_takeNumber 73 = .ok (.aload_n 0, 1) := by decide +kernel
theorem dX7_takeNumber_74 : decode cX7_takeNumber 74 = .ok (.dup, 1) := by decide +kernel
theorem dX7_takeNumber_75 : decode cX7_takeNumber 75 = .ok (.getfield 94, 3) := by decide +kernel
theorem dX7_takeNumber_78 : decode cX7_takeNumber 78 = .ok (.iconst 1, 1) := by decide +kernel
theorem dX7_takeNumber_79 : decode cX7_takeNumber 79 = .ok (.iadd, 1) := by decide +kernel
theorem dX7_takeNumber_80 : decode cX7_takeNumber 80 = .ok (.putfield 94, 3) := by decide +kernel
theorem dX7_takeNumber_83 : decode cX7_takeNumber 83 = .ok (.aload_n 0, 1) := by decide +kernel
theorem dX7_takeNumber_84 : decode cX7_takeNumber 84 = .ok (.dup, 1) := by decide +kernel
theorem dX7_takeNumber_85 : decode cX7_takeNumber 85 = .ok (.getfield 29, 3) := by decide +kernel
theorem dX7_takeNumber_88 : decode cX7_takeNumber 88 = .ok (.iconst 1, 1) := by decide +kernel
theorem dX7_takeNumber_89 : decode cX7_takeNumber 89 = .ok (.iadd, 1) := by decide +kernel
theorem dX7_takeNumber_90 : decode cX7_takeNumber 90 = .ok (.putfield 29, 3) := by decide +kernel
theorem dX7_takeNumber_93 : decode cX7_takeNumber 93 = .ok (.goto (-78), 3) := by decide +kernel
theorem dX7_takeNumber_96 : decode cX7_takeNumber 96 = .ok (.return_, 1) := by decide +kernel
set_option maxRecDepth 20000 in
theorem ggX7_isWord_J0_length_8abf5 : GoodIn wsX7_isWord wsJ0_length_8abf5 := goodIn_r _ [8, 9, 10, 11, 12, 7, 13, 14, 15] (by decide +kernel) (by decide +kernel)
set_option maxRecDepth 20000 in
theorem gX7_isWord_J0_length_8abf5 : GoodIn wsX7_isWord (wsV RX7 123 RJ0 yJ0_length_8abf5 wsJ0_length_8abf5) := goodIn_app (goodIn_of _ (by decide +kernel)) ggX7_isWord_J0_length_8abf5
set_option maxRecDepth 20000 in
theorem ggX7_isWord_J0_charAt_5068e : GoodIn wsX7_isWord wsJ0_charAt_5068e := goodIn_r _ [19, 9, 20, 21, 22, 7, 23, 14, 15, 24, 25, 26, 27, 28, 29, 30, 31, 32, 33, 34, 35, 36, 37, 38, 39, 40, 41, 42, 43, 44, 45, 46, 47, 48, 49, 50, 51, 52] (by decide +kernel) (by decide +kernel)
set_option maxRecDepth 20000 in
theorem gX7_isWord_J0_charAt_5068e : GoodIn wsX7_isWord (wsV RX7 129 RJ0 yJ0_charAt_5068e wsJ0_charAt_5068e) := goodIn_app (goodIn_of _ (by decide +kernel)) ggX7_isWord_J0_charAt_5068e
theorem dX7_isWord_0 : decode cX7_isWord 0 = .ok (.aload_n 0, 1) := by decide +kernel
theorem dX7_isWord_1 : decode cX7_isWord 1 = .ok (.getfield 29, 3) := by decide +kernel
theorem dX7_isWord_4 : decode cX7_isWord 4 = .ok (.aload_n 0, 1) := by decide +kernel
theorem dX7_isWord_5 : decode cX7_isWord 5 = .ok (.getfield 97, 3) := by decide +kernel
theorem dX7_isWord_8 : decode cX7_isWord 8 = .ok (.isub, 1) := by decide +kernel
theorem dX7_isWord_9 : decode cX7_isWord 9 = .ok (.aload_n 1, 1) := by decide +kernel
theorem dX7_isWord_10 : decode cX7_isWord 10 = .ok (.invokevirtual 123, 3) := by decide +kernel
theorem dX7_isWord_13 : decode cX7_isWord 13 = .ok (.if_icmp .eq 5, 3) := by decide +kernel
theorem dX7_isWord_16 : decode cX7_isWord 16 = .ok (.iconst 0, 1) := by decide +kernel
theorem dX7_isWord_17 : decode cX7_isWord 17 = .ok (.ireturn, 1) := by decide +kernel
theorem dX7_isWord_18 : decode cX7_isWord 18 = .ok (.iconst 0, 1) := by decide +kernel
theorem dX7_isWord_19 : decode cX7_isWord 19 = .ok (.istore_n 2, 1) := by decide +kernel
theorem dX7_isWord_20 : decode cX7_isWord 20 = .ok (.iload_n 2, 1) := by decide +kernel
theorem dX7_isWord_21 : decode cX7_isWord 21 = .ok (.aload_n 1, 1) := by decide +kernel
theorem dX7_isWord_22 : decode cX7_isWord 22 = .ok (.invokevirtual 123, 3) := by decide +kernel
theorem dX7_isWord_25 : decode cX7_isWord 25 = .ok (.if_icmp .ge 30, 3) := by decide +kernel
theorem dX7_isWord_28 : decode cX7_isWord 28 = .ok (.aload_n 0, 1) := by decide +kernel
theorem dX7_isWord_29 : decode cX7_isWord 29 = .ok (.getfield 9, 3) := by decide +kernel
theorem dX7_isWord_32 : decode cX7_isWord 32 = .ok (.aload_n 0, 1) := by decide +kernel
theorem dX7_isWord_33 : decode cX7_isWord 33 = .ok (.getfield 97, 3) := by decide +kernel
theorem dX7_isWord_36 : decode cX7_isWord 36 = .ok (.iload_n 2, 1) := by decide +kernel
theorem dX7_isWord_37 : decode cX7_isWord 37 = .ok (.iadd, 1) := by decide +kernel
theorem dX7_isWord_38 : decode cX7_isWord 38 = .ok (.caload, 1) := by decide +kernel
theorem dX7_isWord_39 : decode cX7_isWord 39 = .ok (.aload_n 1, 1) := by decide +kernel
theorem dX7_isWord_40 : decode cX7_isWord 40 = .ok (.iload_n 2, 1) := by decide +kernel
theorem dX7_isWord_41 : decode cX7_isWord 41 = .ok (.invokevirtual 129, 3) := by decide +kernel
theorem dX7_isWord_44 : decode cX7_isWord 44 = .ok (.if_icmp .eq 5, 3) := by decide +kernel
theorem dX7_isWord_47 : decode cX7_isWord 47 = .ok (.iconst 0, 1) := by decide +kernel
theorem dX7_isWord_48 : decode cX7_isWord 48 = .ok (.ireturn, 1) := by decide +kernel
theorem dX7_isWord_49 : decode cX7_isWord 49 = .ok (.iinc 2 1, 3) := by decide +kernel
theorem dX7_isWord_52 : decode cX7_isWord 52 = .ok (.goto (-32), 3) := by decide +kernel
theorem dX7_isWord_55 : decode cX7_isWord 55 = .ok (.iconst 1, 1) := by decide +kernel
theorem dX7_isWord_56 : decode cX7_isWord 56 = .ok (.ireturn, 1) := by decide +kernel
theorem dX7_isLetter_0 : decode cX7_isLetter 0 = .ok (.iload_n 0, 1) := by decide +kernel
theorem dX7_isLetter_1 : decode cX7_isLetter 1 = .ok (.bipush 97, 2) := by decide +kernel
theorem dX7_isLetter_3 : decode cX7_isLetter 3 = .ok (.if_icmp .lt 13, 3) := by decide +kernel
theorem dX7_isLetter_6 : decode cX7_isLetter 6 = .ok (.iload_n 0, 1) := by decide +kernel
theorem dX7_isLetter_7 : decode cX7_isLetter 7 = .ok (.bipush 122, 2) := by decide +kernel
theorem dX7_isLetter_9 : decode cX7_isLetter 9 = .ok (.if_icmp .gt 7, 3) := by decide +kernel
theorem dX7_isLetter_12 : decode cX7_isLetter 12 = .ok (.iconst 1, 1) := by decide +kernel
theorem dX7_isLetter_13 : decode cX7_isLetter 13 = .ok (.goto 4, 3) := by decide +kernel
theorem dX7_isLetter_16 : decode cX7_isLetter 16 = .ok (.iconst 0, 1) := by decide +kernel
theorem dX7_isLetter_17 : decode cX7_isLetter 17 = .ok (.ireturn, 1) := by decide +kernel
theorem dX7_isDigit_0 : decode cX7_isDigit 0 = .ok (.iload_n 0, 1) := by decide +kernel
theorem dX7_isDigit_1 : decode cX7_isDigit 1 = .ok (.bipush 48, 2) := by decide +kernel
theorem dX7_isDigit_3 : decode cX7_isDigit 3 = .ok (.if_icmp .lt 13, 3) := by decide +kernel
theorem dX7_isDigit_6 : decode cX7_isDigit 6 = .ok (.iload_n 0, 1) := by decide +kernel
theorem dX7_isDigit_7 : decode cX7_isDigit 7 = .ok (.bipush 57, 2) := by decide +kernel
theorem dX7_isDigit_9 : decode cX7_isDigit 9 = .ok (.if_icmp .gt 7, 3) := by decide +kernel
theorem dX7_isDigit_12 : decode cX7_isDigit 12 = .ok (.iconst 1, 1) := by decide +kernel
theorem dX7_isDigit_13 : decode cX7_isDigit 13 = .ok (.goto 4, 3) := by decide +kernel
theorem dX7_isDigit_16 : decode cX7_isDigit 16 = .ok (.iconst 0, 1) := by decide +kernel
theorem dX7_isDigit_17 : decode cX7_isDigit 17 = .ok (.ireturn, 1) := by decide +kernel
theorem dX8_init_0 : decode cX8_init 0 = .ok (.aload_n 0, 1) := by decide +kernel
theorem dX8_init_1 : decode cX8_init 1 = .ok (.invokespecial 3, 3) := by decide +kernel
theorem dX8_init_4 : decode cX8_init 4 = .ok (.aload_n 0, 1) := by decide +kernel
theorem dX8_init_5 : decode cX8_init 5 = .ok (.bipush 9, 2) := by decide +kernel
theorem dX8_init_7 : decode cX8_init 7 = .ok (.newarray .int, 2) := by decide +kernel
theorem dX8_init_9 : decode cX8_init 9 = .ok (.putfield 9, 3) := by decide +kernel
theorem dX8_init_12 : decode cX8_init 12 = .ok (.aload_n 0, 1) := by decide +kernel
theorem dX8_init_13 : decode cX8_init 13 = .ok (.bipush 9, 2) := by decide +kernel
theorem dX8_init_15 : decode cX8_init 15 = .ok (.newarray .int, 2) := by decide +kernel
theorem dX8_init_17 : decode cX8_init 17 = .ok (.putfield 15, 3) := by decide +kernel
theorem dX8_init_20 : decode cX8_init 20 = .ok (.aload_n 0, 1) := by decide +kernel
theorem dX8_init_21 : decode cX8_init 21 = .ok (.bipush 9, 2) := by decide +kernel
theorem dX8_init_23 : decode cX8_init 23 = .ok (.newarray .int, 2) := by decide +kernel
theorem dX8_init_25 : decode cX8_init 25 = .ok (.putfield 18, 3) := by decide +kernel
theorem dX8_init_28 : decode cX8_init 28 = .ok (.aload_n 0, 1) := by decide +kernel
theorem dX8_init_29 : decode cX8_init 29 = .ok (.bipush 81, 2) := by decide +kernel
theorem dX8_init_31 : decode cX8_init 31 = .ok (.newarray .int, 2) := by decide +kernel
theorem dX8_init_33 : decode cX8_init 33 = .ok (.putfield 21, 3) := by decide +kernel
theorem dX8_init_36 : decode cX8_init 36 = .ok (.aload_n 0, 1) := by decide +kernel
theorem dX8_init_37 : decode cX8_init 37 = .ok (.sipush 512, 3) := by decide +kernel
theorem dX8_init_40 : decode cX8_init 40 = .ok (.newarray .int, 2) := by decide +kernel
theorem dX8_init_42 : decode cX8_init 42 = .ok (.putfield 24, 3) := by decide +kernel
theorem dX8_init_45 : decode cX8_init 45 = .ok (.return_, 1) := by decide +kernel
set_option maxRecDepth 20000 in
theorem ggX8_measure_X6_leastRow : GoodIn wsX8_measure wsX6_leastRow := goodIn_r _ [12, 13, 14, 15, 16, 11, 17, 18, 19, 20, 21, 27, 28, 29, 30, 31, 32] (by decide +kernel) (by decide +kernel)
set_option maxRecDepth 20000 in
theorem gX8_measure_X6_leastRow : GoodIn wsX8_measure (wsV RX8 27 RX6 yX6_leastRow wsX6_leastRow) := goodIn_app (goodIn_of _ (by decide +kernel)) ggX8_measure_X6_leastRow
set_option maxRecDepth 20000 in
theorem ggX8_measure_X9_isIn : GoodIn wsX8_measure wsX9_isIn := goodIn_r _ [21] (by decide +kernel) (by decide +kernel)
set_option maxRecDepth 20000 in
theorem gX8_measure_X9_isIn_n33 : GoodIn wsX8_measure (wsX9_isIn) := ggX8_measure_X9_isIn
theorem dX8_measure_0 : decode cX8_measure 0 = .ok (.aload_n 1, 1) := by decide +kernel
theorem dX8_measure_1 : decode cX8_measure 1 = .ok (.aload_n 0, 1) := by decide +kernel
theorem dX8_measure_2 : decode cX8_measure 2 = .ok (.getfield 9, 3) := by decide +kernel
theorem dX8_measure_5 : decode cX8_measure 5 = .ok (.invokevirtual 27, 3) := by decide +kernel
theorem dX8_measure_8 : decode cX8_measure 8 = .ok (.istore_n 3, 1) := by decide +kernel
theorem dX8_measure_9 : decode cX8_measure 9 = .ok (.iconst 0, 1) := by decide +kernel
theorem dX8_measure_10 : decode cX8_measure 10 = .ok (.istore 4, 2) := by decide +kernel
theorem dX8_measure_12 : decode cX8_measure 12 = .ok (.iload 4, 2) := by decide +kernel
theorem dX8_measure_14 : decode cX8_measure 14 = .ok (.iload_n 3, 1) := by decide +kernel
theorem dX8_measure_15 : decode cX8_measure 15 = .ok (.if_icmp .ge 97, 3) := by decide +kernel
theorem dX8_measure_18 : decode cX8_measure 18 = .ok (.aload_n 0, 1) := by decide +kernel
theorem dX8_measure_19 : decode cX8_measure 19 = .ok (.getfield 9, 3) := by decide +kernel
theorem dX8_measure_22 : decode cX8_measure 22 = .ok (.iload 4, 2) := by decide +kernel
theorem dX8_measure_24 : decode cX8_measure 24 = .ok (.iaload, 1) := by decide +kernel
theorem dX8_measure_25 : decode cX8_measure 25 = .ok (.istore 5, 2) := by decide +kernel
theorem dX8_measure_27 : decode cX8_measure 27 = .ok (.iload_n 2, 1) := by decide +kernel
theorem dX8_measure_28 : decode cX8_measure 28 = .ok (.iload 5, 2) := by decide +kernel
theorem dX8_measure_30 : decode cX8_measure 30 = .ok (.invokestatic 33, 3) := by decide +kernel
theorem dX8_measure_33 : decode cX8_measure 33 = .ok (.ifCond .ne 6, 3) := by decide +kernel
theorem dX8_measure_36 : decode cX8_measure 36 = .ok (.goto 70, 3) := by decide +kernel
theorem dX8_measure_39 : decode cX8_measure 39 = .ok (.aload_n 0, 1) := by decide +kernel
theorem dX8_measure_40 : decode cX8_measure 40 = .ok (.getfield 15, 3) := by decide +kernel
theorem dX8_measure_43 : decode cX8_measure 43 = .ok (.iload 5, 2) := by decide +kernel
theorem dX8_measure_45 : decode cX8_measure 45 = .ok (.iconst 0, 1) := by decide +kernel
theorem dX8_measure_46 : decode cX8_measure 46 = .ok (.iastore, 1) := by decide +kernel
theorem dX8_measure_47 : decode cX8_measure 47 = .ok (.iconst 0, 1) := by decide +kernel
theorem dX8_measure_48 : decode cX8_measure 48 = .ok (.istore 6, 2) := by decide +kernel
theorem dX8_measure_50 : decode cX8_measure 50 = .ok (.iload 6, 2) := by decide +kernel
theorem dX8_measure_52 : decode cX8_measure 52 = .ok (.bipush 9, 2) := by decide +kernel
theorem dX8_measure_54 : decode cX8_measure 54 = .ok (.if_icmp .ge 52, 3) := by decide +kernel
theorem dX8_measure_57 : decode cX8_measure 57 = .ok (.aload_n 1, 1) := by decide +kernel
theorem dX8_measure_58 : decode cX8_measure 58 = .ok (.getfield 37, 3) := by decide +kernel
theorem dX8_measure_61 : decode cX8_measure 61 = .ok (.iload 5, 2) := by decide +kernel
theorem dX8_measure_63 : decode cX8_measure 63 = .ok (.iaload, 1) := by decide +kernel
theorem dX8_measure_64 : decode cX8_measure 64 = .ok (.iload_n 2, 1) := by decide +kernel
theorem dX8_measure_65 : decode cX8_measure 65 = .ok (.iand, 1) := by decide +kernel
theorem dX8_measure_66 : decode cX8_measure 66 = .ok (.iload 6, 2) := by decide +kernel
theorem dX8_measure_68 : decode cX8_measure 68 = .ok (.invokestatic 33, 3) := by decide +kernel
theorem dX8_measure_71 : decode cX8_measure 71 = .ok (.ifCond .eq 29, 3) := by decide +kernel
theorem dX8_measure_74 : decode cX8_measure 74 = .ok (.aload_n 0, 1) := by decide +kernel
theorem dX8_measure_75 : decode cX8_measure 75 = .ok (.getfield 15, 3) := by decide +kernel
theorem dX8_measure_78 : decode cX8_measure 78 = .ok (.iload 5, 2) := by decide +kernel
theorem dX8_measure_80 : decode cX8_measure 80 = .ok (.aload_n 0, 1) := by decide +kernel
theorem dX8_measure_81 : decode cX8_measure 81 = .ok (.getfield 15, 3) := by decide +kernel
theorem dX8_measure_84 : decode cX8_measure 84 = .ok (.iload 5, 2) := by decide +kernel
theorem dX8_measure_86 : decode cX8_measure 86 = .ok (.iaload, 1) := by decide +kernel
theorem dX8_measure_87 : decode cX8_measure 87 = .ok (.aload_n 0, 1) := by decide +kernel
theorem dX8_measure_88 : decode cX8_measure 88 = .ok (.getfield 15, 3) := by decide +kernel
theorem dX8_measure_91 : decode cX8_measure 91 = .ok (.iload 6, 2) := by decide +kernel
theorem dX8_measure_93 : decode cX8_measure 93 = .ok (.iaload, 1) := by decide +kernel
theorem dX8_measure_94 : decode cX8_measure 94 = .ok (.iconst 1, 1) := by decide +kernel
theorem dX8_measure_95 : decode cX8_measure 95 = .ok (.iadd, 1) := by decide +kernel
theorem dX8_measure_96 : decode cX8_measure 96 = .ok (.invokestatic 40, 3) := by decide +kernel
theorem dX8_measure_99 : decode cX8_measure 99 = .ok (.iastore, 1) := by decide +kernel
theorem dX8_measure_100 : decode cX8_measure 100 = .ok (.iinc 6 1, 3) := by decide +kernel
theorem dX8_measure_103 : decode cX8_measure 103 = .ok (.goto (-53), 3) := by decide +kernel
theorem dX8_measure_106 : decode cX8_measure 106 = .ok (.iinc 4 1, 3) := by decide +kernel
theorem dX8_measure_109 : decode cX8_measure 109 = .ok (.goto (-97), 3) := by decide +kernel
theorem dX8_measure_112 : decode cX8_measure 112 = .ok (.return_, 1) := by decide +kernel
set_option maxRecDepth 20000 in
theorem ggX8_valuesIn_X9_isIn : GoodIn wsX8_valuesIn wsX9_isIn := goodIn_r _ [4] (by decide +kernel) (by decide +kernel)
set_option maxRecDepth 20000 in
theorem gX8_valuesIn_X9_isIn_n33 : GoodIn wsX8_valuesIn (wsX9_isIn) := ggX8_valuesIn_X9_isIn
theorem dX8_valuesIn_0 : decode cX8_valuesIn 0 = .ok (.iconst 0, 1) := by decide +kernel
theorem dX8_valuesIn_1 : decode cX8_valuesIn 1 = .ok (.istore_n 2, 1) := by decide +kernel
theorem dX8_valuesIn_2 : decode cX8_valuesIn 2 = .ok (.iconst 0, 1) := by decide +kernel
theorem dX8_valuesIn_3 : decode cX8_valuesIn 3 = .ok (.istore_n 3, 1) := by decide +kernel
theorem dX8_valuesIn_4 : decode cX8_valuesIn 4 = .ok (.iload_n 3, 1) := by decide +kernel
theorem dX8_valuesIn_5 : decode cX8_valuesIn 5 = .ok (.bipush 9, 2) := by decide +kernel
theorem dX8_valuesIn_7 : decode cX8_valuesIn 7 = .ok (.if_icmp .ge 26, 3) := by decide +kernel
theorem dX8_valuesIn_10 : decode cX8_valuesIn 10 = .ok (.iload_n 1, 1) := by decide +kernel
theorem dX8_valuesIn_11 : decode cX8_valuesIn 11 = .ok (.iload_n 3, 1) := by decide +kernel
theorem dX8_valuesIn_12 : decode cX8_valuesIn 12 = .ok (.invokestatic 33, 3) := by decide +kernel
theorem dX8_valuesIn_15 : decode cX8_valuesIn 15 = .ok (.ifCond .eq 12, 3) := by decide +kernel
theorem dX8_valuesIn_18 : decode cX8_valuesIn 18 = .ok (.iload_n 2, 1) := by decide +kernel
theorem dX8_valuesIn_19 : decode cX8_valuesIn 19 = .ok (.aload_n 0, 1) := by decide +kernel
theorem dX8_valuesIn_20 : decode cX8_valuesIn 20 = .ok (.getfield 18, 3) := by decide +kernel
theorem dX8_valuesIn_23 : decode cX8_valuesIn 23 = .ok (.iload_n 3, 1) := by decide +kernel
theorem dX8_valuesIn_24 : decode cX8_valuesIn 24 = .ok (.iaload, 1) := by decide +kernel
theorem dX8_valuesIn_25 : decode cX8_valuesIn 25 = .ok (.iadd, 1) := by decide +kernel
theorem dX8_valuesIn_26 : decode cX8_valuesIn 26 = .ok (.istore_n 2, 1) := by decide +kernel
theorem dX8_valuesIn_27 : decode cX8_valuesIn 27 = .ok (.iinc 3 1, 3) := by decide +kernel
theorem dX8_valuesIn_30 : decode cX8_valuesIn 30 = .ok (.goto (-26), 3) := by decide +kernel
theorem dX8_valuesIn_33 : decode cX8_valuesIn 33 = .ok (.iload_n 2, 1) := by decide +kernel
theorem dX8_valuesIn_34 : decode cX8_valuesIn 34 = .ok (.ireturn, 1) := by decide +kernel
set_option maxRecDepth 20000 in
theorem ggX8_mobius_X6_leastRow : GoodIn wsX8_mobius wsX6_leastRow := goodIn_r _ [8, 9, 10, 11, 12, 7, 13, 14, 15, 16, 17, 28, 29, 30, 31, 32, 33] (by decide +kernel) (by decide +kernel)
set_option maxRecDepth 20000 in
theorem gX8_mobius_X6_leastRow : GoodIn wsX8_mobius (wsV RX8 27 RX6 yX6_leastRow wsX6_leastRow) := goodIn_app (goodIn_of _ (by decide +kernel)) ggX8_mobius_X6_leastRow
set_option maxRecDepth 20000 in
theorem ggX8_mobius_X9_isIn : GoodIn wsX8_mobius wsX9_isIn := goodIn_r _ [17] (by decide +kernel) (by decide +kernel)
set_option maxRecDepth 20000 in
theorem gX8_mobius_X9_isIn_n33 : GoodIn wsX8_mobius (wsX9_isIn) := ggX8_mobius_X9_isIn
set_option maxRecDepth 20000 in
theorem ggX8_mobius_X8_valuesIn : GoodIn wsX8_mobius wsX8_valuesIn := goodIn_r _ [22, 2, 15, 16, 17, 23, 24, 25, 26, 27] (by decide +kernel) (by decide +kernel)
set_option maxRecDepth 20000 in
theorem gX8_mobius_X8_valuesIn : GoodIn wsX8_mobius (wsV RX8 46 RX8 yX8_valuesIn wsX8_valuesIn) := goodIn_app (goodIn_of _ (by decide +kernel)) ggX8_mobius_X8_valuesIn
theorem dX8_mobius_0 : decode cX8_mobius 0 = .ok (.aload_n 1, 1) := by decide +kernel
theorem dX8_mobius_1 : decode cX8_mobius 1 = .ok (.aload_n 0, 1) := by decide +kernel
theorem dX8_mobius_2 : decode cX8_mobius 2 = .ok (.getfield 9, 3) := by decide +kernel
theorem dX8_mobius_5 : decode cX8_mobius 5 = .ok (.invokevirtual 27, 3) := by decide +kernel
theorem dX8_mobius_8 : decode cX8_mobius 8 = .ok (.istore 5, 2) := by decide +kernel
theorem dX8_mobius_10 : decode cX8_mobius 10 = .ok (.iconst 0, 1) := by decide +kernel
theorem dX8_mobius_11 : decode cX8_mobius 11 = .ok (.istore 6, 2) := by decide +kernel
theorem dX8_mobius_13 : decode cX8_mobius 13 = .ok (.iload 6, 2) := by decide +kernel
theorem dX8_mobius_15 : decode cX8_mobius 15 = .ok (.iload 5, 2) := by decide +kernel
theorem dX8_mobius_17 : decode cX8_mobius 17 = .ok (.if_icmp .ge 60, 3) := by decide +kernel
theorem dX8_mobius_20 : decode cX8_mobius 20 = .ok (.aload_n 0, 1) := by decide +kernel
theorem dX8_mobius_21 : decode cX8_mobius 21 = .ok (.getfield 9, 3) := by decide +kernel
theorem dX8_mobius_24 : decode cX8_mobius 24 = .ok (.iload 6, 2) := by decide +kernel
theorem dX8_mobius_26 : decode cX8_mobius 26 = .ok (.iaload, 1) := by decide +kernel
theorem dX8_mobius_27 : decode cX8_mobius 27 = .ok (.istore 7, 2) := by decide +kernel
theorem dX8_mobius_29 : decode cX8_mobius 29 = .ok (.iload 4, 2) := by decide +kernel
theorem dX8_mobius_31 : decode cX8_mobius 31 = .ok (.iload 7, 2) := by decide +kernel
theorem dX8_mobius_33 : decode cX8_mobius 33 = .ok (.invokestatic 33, 3) := by decide +kernel
theorem dX8_mobius_36 : decode cX8_mobius 36 = .ok (.ifCond .eq 35, 3) := by decide +kernel
theorem dX8_mobius_39 : decode cX8_mobius 39 = .ok (.aload_n 0, 1) := by decide +kernel
theorem dX8_mobius_40 : decode cX8_mobius 40 = .ok (.getfield 18, 3) := by decide +kernel
theorem dX8_mobius_43 : decode cX8_mobius 43 = .ok (.iload 7, 2) := by decide +kernel
theorem dX8_mobius_45 : decode cX8_mobius 45 = .ok (.iload 7, 2) := by decide +kernel
theorem dX8_mobius_47 : decode cX8_mobius 47 = .ok (.iload_n 2, 1) := by decide +kernel
theorem dX8_mobius_48 : decode cX8_mobius 48 = .ok (.if_icmp .ne 7, 3) := by decide +kernel
theorem dX8_mobius_51 : decode cX8_mobius 51 = .ok (.iconst 1, 1) := by decide +kernel
theorem dX8_mobius_52 : decode cX8_mobius 52 = .ok (.goto 18, 3) := by decide +kernel
theorem dX8_mobius_55 : decode cX8_mobius 55 = .ok (.aload_n 0, 1) := by decide +kernel
theorem dX8_mobius_56 : decode cX8_mobius 56 = .ok (.aload_n 1, 1) := by decide +kernel
theorem dX8_mobius_57 : decode cX8_mobius 57 = .ok (.getfield 37, 3) := by decide +kernel
theorem dX8_mobius_60 : decode cX8_mobius 60 = .ok (.iload 7, 2) := by decide +kernel
theorem dX8_mobius_62 : decode cX8_mobius 62 = .ok (.iaload, 1) := by decide +kernel
theorem dX8_mobius_63 : decode cX8_mobius 63 = .ok (.iload 4, 2) := by decide +kernel
theorem dX8_mobius_65 : decode cX8_mobius 65 = .ok (.iand, 1) := by decide +kernel
theorem dX8_mobius_66 : decode cX8_mobius 66 = .ok (.invokevirtual 46, 3) := by decide +kernel
theorem dX8_mobius_69 : decode cX8_mobius 69 = .ok (.ineg, 1) := by decide +kernel
theorem dX8_mobius_70 : decode cX8_mobius 70 = .ok (.iastore, 1) := by decide +kernel
theorem dX8_mobius_71 : decode cX8_mobius 71 = .ok (.iinc 6 1, 3) := by decide +kernel
theorem dX8_mobius_74 : decode cX8_mobius 74 = .ok (.goto (-61), 3) := by decide +kernel
theorem dX8_mobius_77 : decode cX8_mobius 77 = .ok (.iload 4, 2) := by decide +kernel
theorem dX8_mobius_79 : decode cX8_mobius 79 = .ok (.iload_n 3, 1) := by decide +kernel
theorem dX8_mobius_80 : decode cX8_mobius 80 = .ok (.invokestatic 33, 3) := by decide +kernel
theorem dX8_mobius_83 : decode cX8_mobius 83 = .ok (.ifCond .eq 12, 3) := by decide +kernel
theorem dX8_mobius_86 : decode cX8_mobius 86 = .ok (.aload_n 0, 1) := by decide +kernel
theorem dX8_mobius_87 : decode cX8_mobius 87 = .ok (.getfield 18, 3) := by decide +kernel
theorem dX8_mobius_90 : decode cX8_mobius 90 = .ok (.iload_n 3, 1) := by decide +kernel
theorem dX8_mobius_91 : decode cX8_mobius 91 = .ok (.iaload, 1) := by decide +kernel
theorem dX8_mobius_92 : decode cX8_mobius 92 = .ok (.goto 4, 3) := by decide +kernel
theorem dX8_mobius_95 : decode cX8_mobius 95 = .ok (.iconst 0, 1) := by decide +kernel
theorem dX8_mobius_96 : decode cX8_mobius 96 = .ok (.ireturn, 1) := by decide +kernel
set_option maxRecDepth 20000 in
theorem ggX8_atHeights_X9_isIn : GoodIn wsX8_atHeights wsX9_isIn := goodIn_r _ [4] (by decide +kernel) (by decide +kernel)
set_option maxRecDepth 20000 in
theorem gX8_atHeights_X9_isIn_n33 : GoodIn wsX8_atHeights (wsX9_isIn) := ggX8_atHeights_X9_isIn
theorem dX8_atHeights_0 : decode cX8_atHeights 0 = .ok (.iconst 0, 1) := by decide +kernel
theorem dX8_atHeights_1 : decode cX8_atHeights 1 = .ok (.istore_n 3, 1) := by decide +kernel
theorem dX8_atHeights_2 : decode cX8_atHeights 2 = .ok (.iconst 0, 1) := by decide +kernel
theorem dX8_atHeights_3 : decode cX8_atHeights 3 = .ok (.istore 4, 2) := by decide +kernel
theorem dX8_atHeights_5 : decode cX8_atHeights 5 = .ok (.iload 4, 2) := by decide +kernel
theorem dX8_atHeights_7 : decode cX8_atHeights 7 = .ok (.bipush 9, 2) := by decide +kernel
theorem dX8_atHeights_9 : decode cX8_atHeights 9 = .ok (.if_icmp .ge 39, 3) := by decide +kernel
theorem dX8_atHeights_12 : decode cX8_atHeights 12 = .ok (.iload_n 1, 1) := by decide +kernel
theorem dX8_atHeights_13 : decode cX8_atHeights 13 = .ok (.iload 4, 2) := by decide +kernel
theorem dX8_atHeights_15 : decode cX8_atHeights 15 = .ok (.invokestatic 33, 3) := by decide +kernel
theorem dX8_atHeights_18 : decode cX8_atHeights 18 = .ok (.ifCond .eq 24, 3) := by decide +kernel
theorem dX8_atHeights_21 : decode cX8_atHeights 21 = .ok (.iload_n 2, 1) := by decide +kernel
theorem dX8_atHeights_22 : decode cX8_atHeights 22 = .ok (.aload_n 0, 1) := by decide +kernel
theorem dX8_atHeights_23 : decode cX8_atHeights 23 = .ok (.getfield 15, 3) := by decide +kernel
theorem dX8_atHeights_26 : decode cX8_atHeights 26 = .ok (.iload 4, 2) := by decide +kernel
theorem dX8_atHeights_28 : decode cX8_atHeights 28 = .ok (.iaload, 1) := by decide +kernel
theorem dX8_atHeights_29 : decode cX8_atHeights 29 = .ok (.invokestatic 33, 3) := by decide +kernel
theorem dX8_atHeights_32 : decode cX8_atHeights 32 = .ok (.ifCond .eq 10, 3) := by decide +kernel
theorem dX8_atHeights_35 : decode cX8_atHeights 35 = .ok (.iload_n 3, 1) := by decide +kernel
theorem dX8_atHeights_36 : decode cX8_atHeights 36 = .ok (.iconst 1, 1) := by decide +kernel
theorem dX8_atHeights_37 : decode cX8_atHeights 37 = .ok (.iload 4, 2) := by decide +kernel
theorem dX8_atHeights_39 : decode cX8_atHeights 39 = .ok (.ishl, 1) := by decide +kernel
theorem dX8_atHeights_40 : decode cX8_atHeights 40 = .ok (.ior, 1) := by decide +kernel
theorem dX8_atHeights_41 : decode cX8_atHeights 41 = .ok (.istore_n 3, 1) := by decide +kernel
theorem dX8_atHeights_42 : decode cX8_atHeights 42 = .ok (.iinc 4 1, 3) := by decide +kernel
theorem dX8_atHeights_45 : decode cX8_atHeights 45 = .ok (.goto (-40), 3) := by decide +kernel
theorem dX8_atHeights_48 : decode cX8_atHeights 48 = .ok (.iload_n 3, 1) := by decide +kernel
theorem dX8_atHeights_49 : decode cX8_atHeights 49 = .ok (.ireturn, 1) := by decide +kernel
set_option maxRecDepth 20000 in
theorem ggX8_flagOf_X9_isIn : GoodIn wsX8_flagOf wsX9_isIn := goodIn_r _ [5] (by decide +kernel) (by decide +kernel)
set_option maxRecDepth 20000 in
theorem gX8_flagOf_X9_isIn_n33 : GoodIn wsX8_flagOf (wsX9_isIn) := ggX8_flagOf_X9_isIn
set_option maxRecDepth 20000 in
theorem ggX8_flagOf_X8_atHeights : GoodIn wsX8_flagOf wsX8_atHeights := goodIn_r _ [10, 11, 3, 4, 5, 16, 17, 18, 19, 20] (by decide +kernel) (by decide +kernel)
set_option maxRecDepth 20000 in
theorem gX8_flagOf_X8_atHeights : GoodIn wsX8_flagOf (wsV RX8 50 RX8 yX8_atHeights wsX8_atHeights) := goodIn_app (goodIn_of _ (by decide +kernel)) ggX8_flagOf_X8_atHeights
set_option maxRecDepth 20000 in
theorem ggX8_flagOf_X8_valuesIn : GoodIn wsX8_flagOf wsX8_valuesIn := goodIn_r _ [15, 1, 3, 4, 5, 16, 17, 18, 19, 20] (by decide +kernel) (by decide +kernel)
set_option maxRecDepth 20000 in
theorem gX8_flagOf_X8_valuesIn : GoodIn wsX8_flagOf (wsV RX8 46 RX8 yX8_valuesIn wsX8_valuesIn) := goodIn_app (goodIn_of _ (by decide +kernel)) ggX8_flagOf_X8_valuesIn
theorem dX8_flagOf_0 : decode cX8_flagOf 0 = .ok (.iconst 1, 1) := by decide +kernel
theorem dX8_flagOf_1 : decode cX8_flagOf 1 = .ok (.istore 4, 2) := by decide +kernel
theorem dX8_flagOf_3 : decode cX8_flagOf 3 = .ok (.iconst 0, 1) := by decide +kernel
theorem dX8_flagOf_4 : decode cX8_flagOf 4 = .ok (.istore 5, 2) := by decide +kernel
theorem dX8_flagOf_6 : decode cX8_flagOf 6 = .ok (.iconst 1, 1) := by decide +kernel
theorem dX8_flagOf_7 : decode cX8_flagOf 7 = .ok (.istore 6, 2) := by decide +kernel
theorem dX8_flagOf_9 : decode cX8_flagOf 9 = .ok (.iconst 1, 1) := by decide +kernel
theorem dX8_flagOf_10 : decode cX8_flagOf 10 = .ok (.istore 7, 2) := by decide +kernel
theorem dX8_flagOf_12 : decode cX8_flagOf 12 = .ok (.iload 7, 2) := by decide +kernel
theorem dX8_flagOf_14 : decode cX8_flagOf 14 = .ok (.bipush 9, 2) := by decide +kernel
theorem dX8_flagOf_16 : decode cX8_flagOf 16 = .ok (.if_icmp .ge 110, 3) := by decide +kernel
theorem dX8_flagOf_19 : decode cX8_flagOf 19 = .ok (.iload_n 3, 1) := by decide +kernel
theorem dX8_flagOf_20 : decode cX8_flagOf 20 = .ok (.iload 7, 2) := by decide +kernel
theorem dX8_flagOf_22 : decode cX8_flagOf 22 = .ok (.invokestatic 33, 3) := by decide +kernel
theorem dX8_flagOf_25 : decode cX8_flagOf 25 = .ok (.ifCond .ne 6, 3) := by decide +kernel
theorem dX8_flagOf_28 : decode cX8_flagOf 28 = .ok (.goto 92, 3) := by decide +kernel
theorem dX8_flagOf_31 : decode cX8_flagOf 31 = .ok (.aload_n 0, 1) := by decide +kernel
theorem dX8_flagOf_32 : decode cX8_flagOf 32 = .ok (.iload_n 2, 1) := by decide +kernel
theorem dX8_flagOf_33 : decode cX8_flagOf 33 = .ok (.iconst 1, 1) := by decide +kernel
theorem dX8_flagOf_34 : decode cX8_flagOf 34 = .ok (.iload 7, 2) := by decide +kernel
theorem dX8_flagOf_36 : decode cX8_flagOf 36 = .ok (.ishl, 1) := by decide +kernel
theorem dX8_flagOf_37 : decode cX8_flagOf 37 = .ok (.invokevirtual 50, 3) := by decide +kernel
theorem dX8_flagOf_40 : decode cX8_flagOf 40 = .ok (.istore 8, 2) := by decide +kernel
theorem dX8_flagOf_42 : decode cX8_flagOf 42 = .ok (.iconst 0, 1) := by decide +kernel
theorem dX8_flagOf_43 : decode cX8_flagOf 43 = .ok (.istore 4, 2) := by decide +kernel
theorem dX8_flagOf_45 : decode cX8_flagOf 45 = .ok (.iconst 0, 1) := by decide +kernel
theorem dX8_flagOf_46 : decode cX8_flagOf 46 = .ok (.istore 9, 2) := by decide +kernel
theorem dX8_flagOf_48 : decode cX8_flagOf 48 = .ok (.iload 9, 2) := by decide +kernel
theorem dX8_flagOf_50 : decode cX8_flagOf 50 = .ok (.bipush 9, 2) := by decide +kernel
theorem dX8_flagOf_52 : decode cX8_flagOf 52 = .ok (.if_icmp .ge 61, 3) := by decide +kernel
theorem dX8_flagOf_55 : decode cX8_flagOf 55 = .ok (.iload 8, 2) := by decide +kernel
theorem dX8_flagOf_57 : decode cX8_flagOf 57 = .ok (.iload 9, 2) := by decide +kernel
theorem dX8_flagOf_59 : decode cX8_flagOf 59 = .ok (.invokestatic 33, 3) := by decide +kernel
theorem dX8_flagOf_62 : decode cX8_flagOf 62 = .ok (.ifCond .eq 45, 3) := by decide +kernel
theorem dX8_flagOf_65 : decode cX8_flagOf 65 = .ok (.aload_n 0, 1) := by decide +kernel
theorem dX8_flagOf_66 : decode cX8_flagOf 66 = .ok (.getfield 18, 3) := by decide +kernel
theorem dX8_flagOf_69 : decode cX8_flagOf 69 = .ok (.iload 9, 2) := by decide +kernel
theorem dX8_flagOf_71 : decode cX8_flagOf 71 = .ok (.iload 6, 2) := by decide +kernel
theorem dX8_flagOf_73 : decode cX8_flagOf 73 = .ok (.ifCond .eq 7, 3) := by decide +kernel
theorem dX8_flagOf_76 : decode cX8_flagOf 76 = .ok (.iconst 1, 1) := by decide +kernel
theorem dX8_flagOf_77 : decode cX8_flagOf 77 = .ok (.goto 17, 3) := by decide +kernel
theorem dX8_flagOf_80 : decode cX8_flagOf 80 = .ok (.aload_n 0, 1) := by decide +kernel
theorem dX8_flagOf_81 : decode cX8_flagOf 81 = .ok (.aload_n 1, 1) := by decide +kernel
theorem dX8_flagOf_82 : decode cX8_flagOf 82 = .ok (.getfield 37, 3) := by decide +kernel
theorem dX8_flagOf_85 : decode cX8_flagOf 85 = .ok (.iload 9, 2) := by decide +kernel
theorem dX8_flagOf_87 : decode cX8_flagOf 87 = .ok (.iaload, 1) := by decide +kernel
theorem dX8_flagOf_88 : decode cX8_flagOf 88 = .ok (.iload 5, 2) := by decide +kernel
theorem dX8_flagOf_90 : decode cX8_flagOf 90 = .ok (.iand, 1) := by decide +kernel
theorem dX8_flagOf_91 : decode cX8_flagOf 91 = .ok (.invokevirtual 46, 3) := by decide +kernel
theorem dX8_flagOf_94 : decode cX8_flagOf 94 = .ok (.iastore, 1) := by decide +kernel
theorem dX8_flagOf_95 : decode cX8_flagOf 95 = .ok (.iload 4, 2) := by decide +kernel
theorem dX8_flagOf_97 : decode cX8_flagOf 97 = .ok (.aload_n 0, 1) := by decide +kernel
theorem dX8_flagOf_98 : decode cX8_flagOf 98 = .ok (.getfield 18, 3) := by decide +kernel
theorem dX8_flagOf_101 : decode cX8_flagOf 101 = .ok (.iload 9, 2) := by decide +kernel
theorem dX8_flagOf_103 : decode cX8_flagOf 103 = .ok (.iaload, 1) := by decide +kernel
theorem dX8_flagOf_104 : decode cX8_flagOf 104 = .ok (.iadd, 1) := by decide +kernel
theorem dX8_flagOf_105 : decode cX8_flagOf 105 = .ok (.istore 4, 2) := by decide +kernel
theorem dX8_flagOf_107 : decode cX8_flagOf 107 = .ok (.iinc 9 1, 3) := by decide +kernel
theorem dX8_flagOf_110 : decode cX8_flagOf 110 = .ok (.goto (-62), 3) := by decide +kernel
theorem dX8_flagOf_113 : decode cX8_flagOf 113 = .ok (.iload 8, 2) := by decide +kernel
theorem dX8_flagOf_115 : decode cX8_flagOf 115 = .ok (.istore 5, 2) := by decide +kernel
theorem dX8_flagOf_117 : decode cX8_flagOf 117 = .ok (.iconst 0, 1) := by decide +kernel
theorem dX8_flagOf_118 : decode cX8_flagOf 118 = .ok (.istore 6, 2) := by decide +kernel
theorem dX8_flagOf_120 : decode cX8_flagOf 120 = .ok (.iinc 7 1, 3) := by decide +kernel
theorem dX8_flagOf_123 : decode cX8_flagOf 123 = .ok (.goto (-111), 3) := by decide +kernel
theorem dX8_flagOf_126 : decode cX8_flagOf 126 = .ok (.iload 4, 2) := by decide +kernel
theorem dX8_flagOf_128 : decode cX8_flagOf 128 = .ok (.ireturn, 1) := by decide +kernel
set_option maxRecDepth 20000 in
theorem ggX8_betaOf_X8_atHeights : GoodIn wsX8_betaOf wsX8_atHeights := goodIn_r _ [8, 9, 10, 11, 12, 35, 36, 37, 38, 39] (by decide +kernel) (by decide +kernel)
set_option maxRecDepth 20000 in
theorem gX8_betaOf_X8_atHeights : GoodIn wsX8_betaOf (wsV RX8 50 RX8 yX8_atHeights wsX8_atHeights) := goodIn_app (goodIn_of _ (by decide +kernel)) ggX8_betaOf_X8_atHeights
set_option maxRecDepth 20000 in
theorem ggX8_betaOf_X6_leastRow : GoodIn wsX8_betaOf wsX6_leastRow := goodIn_r _ [17, 18, 19, 20, 21, 16, 22, 23, 10, 11, 12, 40, 41, 42, 43, 44, 45] (by decide +kernel) (by decide +kernel)
set_option maxRecDepth 20000 in
theorem gX8_betaOf_X6_leastRow : GoodIn wsX8_betaOf (wsV RX8 27 RX6 yX6_leastRow wsX6_leastRow) := goodIn_app (goodIn_of _ (by decide +kernel)) ggX8_betaOf_X6_leastRow
set_option maxRecDepth 20000 in
theorem ggX8_betaOf_X9_isIn : GoodIn wsX8_betaOf wsX9_isIn := goodIn_r _ [12] (by decide +kernel) (by decide +kernel)
set_option maxRecDepth 20000 in
theorem gX8_betaOf_X9_isIn_n33 : GoodIn wsX8_betaOf (wsX9_isIn) := ggX8_betaOf_X9_isIn
set_option maxRecDepth 20000 in
theorem ggX8_betaOf_X8_valuesIn : GoodIn wsX8_betaOf wsX8_valuesIn := goodIn_r _ [27, 2, 10, 11, 12, 35, 36, 37, 38, 39] (by decide +kernel) (by decide +kernel)
set_option maxRecDepth 20000 in
theorem gX8_betaOf_X8_valuesIn : GoodIn wsX8_betaOf (wsV RX8 46 RX8 yX8_valuesIn wsX8_valuesIn) := goodIn_app (goodIn_of _ (by decide +kernel)) ggX8_betaOf_X8_valuesIn
set_option maxRecDepth 20000 in
theorem ggX8_betaOf_J6_bitCount_0f7a4 : GoodIn wsX8_betaOf wsJ6_bitCount_0f7a4 := goodIn_r _ [31, 32, 33, 34] (by decide +kernel) (by decide +kernel)
set_option maxRecDepth 20000 in
theorem gX8_betaOf_J6_bitCount_0f7a4 : GoodIn wsX8_betaOf (va_wsS RX8 53 yJ6_bitCount_0f7a4 wsJ6_bitCount_0f7a4) := goodIn_app (goodIn_of _ (by decide +kernel)) ggX8_betaOf_J6_bitCount_0f7a4
theorem dX8_betaOf_0 : decode cX8_betaOf 0 = .ok (.aload_n 0, 1) := by decide +kernel
theorem dX8_betaOf_1 : decode cX8_betaOf 1 = .ok (.iload_n 2, 1) := by decide +kernel
theorem dX8_betaOf_2 : decode cX8_betaOf 2 = .ok (.iload_n 3, 1) := by decide +kernel
theorem dX8_betaOf_3 : decode cX8_betaOf 3 = .ok (.invokevirtual 50, 3) := by decide +kernel
theorem dX8_betaOf_6 : decode cX8_betaOf 6 = .ok (.istore 4, 2) := by decide +kernel
theorem dX8_betaOf_8 : decode cX8_betaOf 8 = .ok (.aload_n 1, 1) := by decide +kernel
theorem dX8_betaOf_9 : decode cX8_betaOf 9 = .ok (.aload_n 0, 1) := by decide +kernel
theorem dX8_betaOf_10 : decode cX8_betaOf 10 = .ok (.getfield 9, 3) := by decide +kernel
theorem dX8_betaOf_13 : decode cX8_betaOf 13 = .ok (.invokevirtual 27, 3) := by decide +kernel
theorem dX8_betaOf_16 : decode cX8_betaOf 16 = .ok (.istore 5, 2) := by decide +kernel
theorem dX8_betaOf_18 : decode cX8_betaOf 18 = .ok (.iconst 0, 1) := by decide +kernel
theorem dX8_betaOf_19 : decode cX8_betaOf 19 = .ok (.istore 6, 2) := by decide +kernel
theorem dX8_betaOf_21 : decode cX8_betaOf 21 = .ok (.iload 6, 2) := by decide +kernel
theorem dX8_betaOf_23 : decode cX8_betaOf 23 = .ok (.iload 5, 2) := by decide +kernel
theorem dX8_betaOf_25 : decode cX8_betaOf 25 = .ok (.if_icmp .ge 51, 3) := by decide +kernel
theorem dX8_betaOf_28 : decode cX8_betaOf 28 = .ok (.aload_n 0, 1) := by decide +kernel
theorem dX8_betaOf_29 : decode cX8_betaOf 29 = .ok (.getfield 9, 3) := by decide +kernel
theorem dX8_betaOf_32 : decode cX8_betaOf 32 = .ok (.iload 6, 2) := by decide +kernel
theorem dX8_betaOf_34 : decode cX8_betaOf 34 = .ok (.iaload, 1) := by decide +kernel
theorem dX8_betaOf_35 : decode cX8_betaOf 35 = .ok (.istore 7, 2) := by decide +kernel
theorem dX8_betaOf_37 : decode cX8_betaOf 37 = .ok (.iload 4, 2) := by decide +kernel
theorem dX8_betaOf_39 : decode cX8_betaOf 39 = .ok (.iload 7, 2) := by decide +kernel
theorem dX8_betaOf_41 : decode cX8_betaOf 41 = .ok (.invokestatic 33, 3) := by decide +kernel
theorem dX8_betaOf_44 : decode cX8_betaOf 44 = .ok (.ifCond .eq 26, 3) := by decide +kernel
theorem dX8_betaOf_47 : decode cX8_betaOf 47 = .ok (.aload_n 0, 1) := by decide +kernel
theorem dX8_betaOf_48 : decode cX8_betaOf 48 = .ok (.getfield 18, 3) := by decide +kernel
theorem dX8_betaOf_51 : decode cX8_betaOf 51 = .ok (.iload 7, 2) := by decide +kernel
theorem dX8_betaOf_53 : decode cX8_betaOf 53 = .ok (.iconst (-1), 1) := by decide +kernel
theorem dX8_betaOf_54 : decode cX8_betaOf 54 = .ok (.aload_n 0, 1) := by decide +kernel
theorem dX8_betaOf_55 : decode cX8_betaOf 55 = .ok (.aload_n 1, 1) := by decide +kernel
theorem dX8_betaOf_56 : decode cX8_betaOf 56 = .ok (.getfield 37, 3) := by decide +kernel
theorem dX8_betaOf_59 : decode cX8_betaOf 59 = .ok (.iload 7, 2) := by decide +kernel
theorem dX8_betaOf_61 : decode cX8_betaOf 61 = .ok (.iaload, 1) := by decide +kernel
theorem dX8_betaOf_62 : decode cX8_betaOf 62 = .ok (.iload 4, 2) := by decide +kernel
theorem dX8_betaOf_64 : decode cX8_betaOf 64 = .ok (.iand, 1) := by decide +kernel
theorem dX8_betaOf_65 : decode cX8_betaOf 65 = .ok (.invokevirtual 46, 3) := by decide +kernel
theorem dX8_betaOf_68 : decode cX8_betaOf 68 = .ok (.isub, 1) := by decide +kernel
theorem dX8_betaOf_69 : decode cX8_betaOf 69 = .ok (.iastore, 1) := by decide +kernel
theorem dX8_betaOf_70 : decode cX8_betaOf 70 = .ok (.iinc 6 1, 3) := by decide +kernel
theorem dX8_betaOf_73 : decode cX8_betaOf 73 = .ok (.goto (-52), 3) := by decide +kernel
theorem dX8_betaOf_76 : decode cX8_betaOf 76 = .ok (.iconst 1, 1) := by decide +kernel
theorem dX8_betaOf_77 : decode cX8_betaOf 77 = .ok (.aload_n 0, 1) := by decide +kernel
theorem dX8_betaOf_78 : decode cX8_betaOf 78 = .ok (.iload 4, 2) := by decide +kernel
theorem dX8_betaOf_80 : decode cX8_betaOf 80 = .ok (.invokevirtual 46, 3) := by decide +kernel
theorem dX8_betaOf_83 : decode cX8_betaOf 83 = .ok (.iadd, 1) := by decide +kernel
theorem dX8_betaOf_84 : decode cX8_betaOf 84 = .ok (.istore 6, 2) := by decide +kernel
theorem dX8_betaOf_86 : decode cX8_betaOf 86 = .ok (.iload_n 3, 1) := by decide +kernel
theorem dX8_betaOf_87 : decode cX8_betaOf 87 = .ok (.invokestatic 53, 3) := by decide +kernel
theorem dX8_betaOf_90 : decode cX8_betaOf 90 = .ok (.iconst 1, 1) := by decide +kernel
theorem dX8_betaOf_91 : decode cX8_betaOf 91 = .ok (.iand, 1) := by decide +kernel
theorem dX8_betaOf_92 : decode cX8_betaOf 92 = .ok (.ifCond .ne 8, 3) := by decide +kernel
theorem dX8_betaOf_95 : decode cX8_betaOf 95 = .ok (.iload 6, 2) := by decide +kernel
theorem dX8_betaOf_97 : decode cX8_betaOf 97 = .ok (.goto 6, 3) := by decide +kernel
theorem dX8_betaOf_100 : decode cX8_betaOf 100 = .ok (.iload 6, 2) := by decide +kernel
theorem dX8_betaOf_102 : decode cX8_betaOf 102 = .ok (.ineg, 1) := by decide +kernel
theorem dX8_betaOf_103 : decode cX8_betaOf 103 = .ok (.ireturn, 1) := by decide +kernel
set_option maxRecDepth 20000 in
theorem ggX8_walk_J7_fill_53178 : GoodIn wsX8_walk wsJ7_fill_53178 := goodIn_r _ [7] (by decide +kernel) (by decide +kernel)
set_option maxRecDepth 20000 in
theorem gX8_walk_J7_fill_53178 : GoodIn wsX8_walk (va_wsS RX8 58 yJ7_fill_53178 wsJ7_fill_53178) := goodIn_app (goodIn_of _ (by decide +kernel)) ggX8_walk_J7_fill_53178
set_option maxRecDepth 20000 in
theorem ggX8_walk_X6_leastRow : GoodIn wsX8_walk wsX6_leastRow := goodIn_r _ [12, 13, 14, 15, 16, 11, 17, 18, 19, 20, 21, 32, 33, 34, 35, 36, 37] (by decide +kernel) (by decide +kernel)
set_option maxRecDepth 20000 in
theorem gX8_walk_X6_leastRow : GoodIn wsX8_walk (wsV RX8 27 RX6 yX6_leastRow wsX6_leastRow) := goodIn_app (goodIn_of _ (by decide +kernel)) ggX8_walk_X6_leastRow
set_option maxRecDepth 20000 in
theorem ggX8_walk_X9_isIn : GoodIn wsX8_walk wsX9_isIn := goodIn_r _ [21] (by decide +kernel) (by decide +kernel)
set_option maxRecDepth 20000 in
theorem gX8_walk_X9_isIn_n33 : GoodIn wsX8_walk (wsX9_isIn) := ggX8_walk_X9_isIn
set_option maxRecDepth 20000 in
theorem ggX8_walk_X8_addStep : GoodIn wsX8_walk wsX8_addStep := goodIn_r _ [26, 1, 27, 28, 29, 30, 31] (by decide +kernel) (by decide +kernel)
set_option maxRecDepth 20000 in
theorem gX8_walk_X8_addStep : GoodIn wsX8_walk (wsV RX8 64 RX8 yX8_addStep wsX8_addStep) := goodIn_app (goodIn_of _ (by decide +kernel)) ggX8_walk_X8_addStep
theorem dX8_walk_0 : decode cX8_walk 0 = .ok (.aload_n 0, 1) := by decide +kernel
theorem dX8_walk_1 : decode cX8_walk 1 = .ok (.getfield 21, 3) := by decide +kernel
theorem dX8_walk_4 : decode cX8_walk 4 = .ok (.iconst 0, 1) := by decide +kernel
theorem dX8_walk_5 : decode cX8_walk 5 = .ok (.invokestatic 58, 3) := by decide +kernel
theorem dX8_walk_8 : decode cX8_walk 8 = .ok (.aload_n 1, 1) := by decide +kernel
theorem dX8_walk_9 : decode cX8_walk 9 = .ok (.aload_n 0, 1) := by decide +kernel
theorem dX8_walk_10 : decode cX8_walk 10 = .ok (.getfield 9, 3) := by decide +kernel
theorem dX8_walk_13 : decode cX8_walk 13 = .ok (.invokevirtual 27, 3) := by decide +kernel
theorem dX8_walk_16 : decode cX8_walk 16 = .ok (.istore 4, 2) := by decide +kernel
theorem dX8_walk_18 : decode cX8_walk 18 = .ok (.iconst 0, 1) := by decide +kernel
theorem dX8_walk_19 : decode cX8_walk 19 = .ok (.istore 5, 2) := by decide +kernel
theorem dX8_walk_21 : decode cX8_walk 21 = .ok (.iload 5, 2) := by decide +kernel
theorem dX8_walk_23 : decode cX8_walk 23 = .ok (.iload 4, 2) := by decide +kernel
theorem dX8_walk_25 : decode cX8_walk 25 = .ok (.if_icmp .ge 88, 3) := by decide +kernel
theorem dX8_walk_28 : decode cX8_walk 28 = .ok (.aload_n 0, 1) := by decide +kernel
theorem dX8_walk_29 : decode cX8_walk 29 = .ok (.getfield 9, 3) := by decide +kernel
theorem dX8_walk_32 : decode cX8_walk 32 = .ok (.iload 5, 2) := by decide +kernel
theorem dX8_walk_34 : decode cX8_walk 34 = .ok (.iaload, 1) := by decide +kernel
theorem dX8_walk_35 : decode cX8_walk 35 = .ok (.istore 6, 2) := by decide +kernel
theorem dX8_walk_37 : decode cX8_walk 37 = .ok (.iload_n 3, 1) := by decide +kernel
theorem dX8_walk_38 : decode cX8_walk 38 = .ok (.iload 6, 2) := by decide +kernel
theorem dX8_walk_40 : decode cX8_walk 40 = .ok (.invokestatic 33, 3) := by decide +kernel
theorem dX8_walk_43 : decode cX8_walk 43 = .ok (.ifCond .ne 6, 3) := by decide +kernel
theorem dX8_walk_46 : decode cX8_walk 46 = .ok (.goto 61, 3) := by decide +kernel
theorem dX8_walk_49 : decode cX8_walk 49 = .ok (.iload 6, 2) := by decide +kernel
theorem dX8_walk_51 : decode cX8_walk 51 = .ok (.iload_n 2, 1) := by decide +kernel
theorem dX8_walk_52 : decode cX8_walk 52 = .ok (.if_icmp .ne 14, 3) := by decide +kernel
theorem dX8_walk_55 : decode cX8_walk 55 = .ok (.aload_n 0, 1) := by decide +kernel
theorem dX8_walk_56 : decode cX8_walk 56 = .ok (.getfield 21, 3) := by decide +kernel
theorem dX8_walk_59 : decode cX8_walk 59 = .ok (.iload 6, 2) := by decide +kernel
theorem dX8_walk_61 : decode cX8_walk 61 = .ok (.bipush 9, 2) := by decide +kernel
theorem dX8_walk_63 : decode cX8_walk 63 = .ok (.imul, 1) := by decide +kernel
theorem dX8_walk_64 : decode cX8_walk 64 = .ok (.iconst 1, 1) := by decide +kernel
theorem dX8_walk_65 : decode cX8_walk 65 = .ok (.iastore, 1) := by decide +kernel
theorem dX8_walk_66 : decode cX8_walk 66 = .ok (.iconst 0, 1) := by decide +kernel
theorem dX8_walk_67 : decode cX8_walk 67 = .ok (.istore 7, 2) := by decide +kernel
theorem dX8_walk_69 : decode cX8_walk 69 = .ok (.iload 7, 2) := by decide +kernel
theorem dX8_walk_71 : decode cX8_walk 71 = .ok (.bipush 9, 2) := by decide +kernel
theorem dX8_walk_73 : decode cX8_walk 73 = .ok (.if_icmp .ge 34, 3) := by decide +kernel
theorem dX8_walk_76 : decode cX8_walk 76 = .ok (.aload_n 1, 1) := by decide +kernel
theorem dX8_walk_77 : decode cX8_walk 77 = .ok (.getfield 37, 3) := by decide +kernel
theorem dX8_walk_80 : decode cX8_walk 80 = .ok (.iload 6, 2) := by decide +kernel
theorem dX8_walk_82 : decode cX8_walk 82 = .ok (.iaload, 1) := by decide +kernel
theorem dX8_walk_83 : decode cX8_walk 83 = .ok (.iload_n 3, 1) := by decide +kernel
theorem dX8_walk_84 : decode cX8_walk 84 = .ok (.iand, 1) := by decide +kernel
theorem dX8_walk_85 : decode cX8_walk 85 = .ok (.iload 7, 2) := by decide +kernel
theorem dX8_walk_87 : decode cX8_walk 87 = .ok (.invokestatic 33, 3) := by decide +kernel
theorem dX8_walk_90 : decode cX8_walk 90 = .ok (.ifCond .eq 11, 3) := by decide +kernel
theorem dX8_walk_93 : decode cX8_walk 93 = .ok (.aload_n 0, 1) := by decide +kernel
theorem dX8_walk_94 : decode cX8_walk 94 = .ok (.iload 7, 2) := by decide +kernel
theorem dX8_walk_96 : decode cX8_walk 96 = .ok (.iload 6, 2) := by decide +kernel
theorem dX8_walk_98 : decode cX8_walk 98 = .ok (.invokevirtual 64, 3) := by decide +kernel
theorem dX8_walk_101 : decode cX8_walk 101 = .ok (.iinc 7 1, 3) := by decide +kernel
theorem dX8_walk_104 : decode cX8_walk 104 = .ok (.goto (-35), 3) := by decide +kernel
theorem dX8_walk_107 : decode cX8_walk 107 = .ok (.iinc 5 1, 3) := by decide +kernel
theorem dX8_walk_110 : decode cX8_walk 110 = .ok (.goto (-89), 3) := by decide +kernel
theorem dX8_walk_113 : decode cX8_walk 113 = .ok (.return_, 1) := by decide +kernel
theorem dX8_addStep_0 : decode cX8_addStep 0 = .ok (.iconst 1, 1) := by decide +kernel
theorem dX8_addStep_1 : decode cX8_addStep 1 = .ok (.istore_n 3, 1) := by decide +kernel
theorem dX8_addStep_2 : decode cX8_addStep 2 = .ok (.iload_n 3, 1) := by decide +kernel
theorem dX8_addStep_3 : decode cX8_addStep 3 = .ok (.bipush 9, 2) := by decide +kernel
theorem dX8_addStep_5 : decode cX8_addStep 5 = .ok (.if_icmp .ge 36, 3) := by decide +kernel
theorem dX8_addStep_8 : decode cX8_addStep 8 = .ok (.aload_n 0, 1) := by decide +kernel
theorem dX8_addStep_9 : decode cX8_addStep 9 = .ok (.getfield 21, 3) := by decide +kernel
theorem dX8_addStep_12 : decode cX8_addStep 12 = .ok (.iload_n 2, 1) := by decide +kernel
theorem dX8_addStep_13 : decode cX8_addStep 13 = .ok (.bipush 9, 2) := by decide +kernel
theorem dX8_addStep_15 : decode cX8_addStep 15 = .ok (.imul, 1) := by decide +kernel
theorem dX8_addStep_16 : decode cX8_addStep 16 = .ok (.iload_n 3, 1) := by decide +kernel
theorem dX8_addStep_17 : decode cX8_addStep 17 = .ok (.iadd, 1) := by decide +kernel
theorem dX8_addStep_18 : decode cX8_addStep 18 = .ok (.dup2, 1) := by decide +kernel
theorem dX8_addStep_19 : decode cX8_addStep 19 = .ok (.iaload, 1) := by decide +kernel
theorem dX8_addStep_20 : decode cX8_addStep 20 = .ok (.aload_n 0, 1) := by decide +kernel
theorem dX8_addStep_21 : decode cX8_addStep 21 = .ok (.getfield 21, 3) := by decide +kernel
theorem dX8_addStep_24 : decode cX8_addStep 24 = .ok (.iload_n 1, 1) := by decide +kernel
theorem dX8_addStep_25 : decode cX8_addStep 25 = .ok (.bipush 9, 2) := by decide +kernel
theorem dX8_addStep_27 : decode cX8_addStep 27 = .ok (.imul, 1) := by decide +kernel
theorem dX8_addStep_28 : decode cX8_addStep 28 = .ok (.iload_n 3, 1) := by decide +kernel
theorem dX8_addStep_29 : decode cX8_addStep 29 = .ok (.iadd, 1) := by decide +kernel
theorem dX8_addStep_30 : decode cX8_addStep 30 = .ok (.iconst 1, 1) := by decide +kernel
theorem dX8_addStep_31 : decode cX8_addStep 31 = .ok (.isub, 1) := by decide +kernel
theorem dX8_addStep_32 : decode cX8_addStep 32 = .ok (.iaload, 1) := by decide +kernel
theorem dX8_addStep_33 : decode cX8_addStep 33 = .ok (.iadd, 1) := by decide +kernel
theorem dX8_addStep_34 : decode cX8_addStep 34 = .ok (.iastore, 1) := by decide +kernel
theorem dX8_addStep_35 : decode cX8_addStep 35 = .ok (.iinc 3 1, 3) := by decide +kernel
theorem dX8_addStep_38 : decode cX8_addStep 38 = .ok (.goto (-36), 3) := by decide +kernel
theorem dX8_addStep_41 : decode cX8_addStep 41 = .ok (.return_, 1) := by decide +kernel
theorem dX8_walksTo_0 : decode cX8_walksTo 0 = .ok (.iload_n 1, 1) := by decide +kernel
theorem dX8_walksTo_1 : decode cX8_walksTo 1 = .ok (.ifCond .lt 33, 3) := by decide +kernel
theorem dX8_walksTo_4 : decode cX8_walksTo 4 = .ok (.iload_n 1, 1) := by decide +kernel
theorem dX8_walksTo_5 : decode cX8_walksTo 5 = .ok (.bipush 9, 2) := by decide +kernel
theorem dX8_walksTo_7 : decode cX8_walksTo 7 = .ok (.if_icmp .ge 27, 3) := by decide +kernel
theorem dX8_walksTo_10 : decode cX8_walksTo 10 = .ok (.iload_n 2, 1) := by decide +kernel
theorem dX8_walksTo_11 : decode cX8_walksTo 11 = .ok (.ifCond .lt 23, 3) := by decide +kernel
theorem dX8_walksTo_14 : decode cX8_walksTo 14 = .ok (.iload_n 2, 1) := by decide +kernel
theorem dX8_walksTo_15 : decode cX8_walksTo 15 = .ok (.bipush 9, 2) := by decide +kernel
theorem dX8_walksTo_17 : decode cX8_walksTo 17 = .ok (.if_icmp .ge 17, 3) := by decide +kernel
theorem dX8_walksTo_20 : decode cX8_walksTo 20 = .ok (.aload_n 0, 1) := by decide +kernel
theorem dX8_walksTo_21 : decode cX8_walksTo 21 = .ok (.getfield 21, 3) := by decide +kernel
theorem dX8_walksTo_24 : decode cX8_walksTo 24 = .ok (.iload_n 1, 1) := by decide +kernel
theorem dX8_walksTo_25 : decode cX8_walksTo 25 = .ok (.bipush 9, 2) := by decide +kernel
theorem dX8_walksTo_27 : decode cX8_walksTo 27 = .ok (.imul, 1) := by decide +kernel
theorem dX8_walksTo_28 : decode cX8_walksTo 28 = .ok (.iload_n 2, 1) := by decide +kernel
theorem dX8_walksTo_29 : decode cX8_walksTo 29 = .ok (.iadd, 1) := by decide +kernel
theorem dX8_walksTo_30 : decode cX8_walksTo 30 = .ok (.iaload, 1) := by decide +kernel
theorem dX8_walksTo_31 : decode cX8_walksTo 31 = .ok (.goto 4, 3) := by decide +kernel
theorem dX8_walksTo_34 : decode cX8_walksTo 34 = .ok (.iconst 0, 1) := by decide +kernel
theorem dX8_walksTo_35 : decode cX8_walksTo 35 = .ok (.ireturn, 1) := by decide +kernel
set_option maxRecDepth 20000 in
theorem ggX8_zetaOf_X8_nextChoice : GoodIn wsX8_zetaOf wsX8_nextChoice := goodIn_r _ [6, 2, 1] (by decide +kernel) (by decide +kernel)
set_option maxRecDepth 20000 in
theorem gX8_zetaOf_X8_nextChoice : GoodIn wsX8_zetaOf (va_wsS RX8 68 yX8_nextChoice wsX8_nextChoice) := goodIn_app (goodIn_of _ (by decide +kernel)) ggX8_zetaOf_X8_nextChoice
set_option maxRecDepth 20000 in
theorem ggX8_zetaOf_X8_walksTo : GoodIn wsX8_zetaOf wsX8_walksTo := goodIn_r _ [10, 11, 12, 13, 14, 15, 16] (by decide +kernel) (by decide +kernel)
set_option maxRecDepth 20000 in
theorem gX8_zetaOf_X8_walksTo : GoodIn wsX8_zetaOf (wsV RX8 72 RX8 yX8_walksTo wsX8_walksTo) := goodIn_app (goodIn_of _ (by decide +kernel)) ggX8_zetaOf_X8_walksTo
theorem dX8_zetaOf_0 : decode cX8_zetaOf 0 = .ok (.lconst 0, 1) := by decide +kernel
theorem dX8_zetaOf_1 : decode cX8_zetaOf 1 = .ok (.lstore_n 3, 1) := by decide +kernel
theorem dX8_zetaOf_2 : decode cX8_zetaOf 2 = .ok (.lconst 1, 1) := by decide +kernel
theorem dX8_zetaOf_3 : decode cX8_zetaOf 3 = .ok (.lstore 5, 2) := by decide +kernel
theorem dX8_zetaOf_5 : decode cX8_zetaOf 5 = .ok (.iconst 0, 1) := by decide +kernel
theorem dX8_zetaOf_6 : decode cX8_zetaOf 6 = .ok (.istore 7, 2) := by decide +kernel
theorem dX8_zetaOf_8 : decode cX8_zetaOf 8 = .ok (.iload 7, 2) := by decide +kernel
theorem dX8_zetaOf_10 : decode cX8_zetaOf 10 = .ok (.bipush 8, 2) := by decide +kernel
theorem dX8_zetaOf_12 : decode cX8_zetaOf 12 = .ok (.if_icmp .gt 76, 3) := by decide +kernel
theorem dX8_zetaOf_15 : decode cX8_zetaOf 15 = .ok (.iload 7, 2) := by decide +kernel
theorem dX8_zetaOf_17 : decode cX8_zetaOf 17 = .ok (.ifCond .le 13, 3) := by decide +kernel
theorem dX8_zetaOf_20 : decode cX8_zetaOf 20 = .ok (.lload 5, 2) := by decide +kernel
theorem dX8_zetaOf_22 : decode cX8_zetaOf 22 = .ok (.iload_n 2, 1) := by decide +kernel
theorem dX8_zetaOf_23 : decode cX8_zetaOf 23 = .ok (.iload 7, 2) := by decide +kernel
theorem dX8_zetaOf_25 : decode cX8_zetaOf 25 = .ok (.invokestatic 68, 3) := by decide +kernel
theorem dX8_zetaOf_28 : decode cX8_zetaOf 28 = .ok (.lstore 5, 2) := by decide +kernel
theorem dX8_zetaOf_30 : decode cX8_zetaOf 30 = .ok (.aload_n 0, 1) := by decide +kernel
theorem dX8_zetaOf_31 : decode cX8_zetaOf 31 = .ok (.iload_n 1, 1) := by decide +kernel
theorem dX8_zetaOf_32 : decode cX8_zetaOf 32 = .ok (.iload 7, 2) := by decide +kernel
theorem dX8_zetaOf_34 : decode cX8_zetaOf 34 = .ok (.invokevirtual 72, 3) := by decide +kernel
theorem dX8_zetaOf_37 : decode cX8_zetaOf 37 = .ok (.istore 8, 2) := by decide +kernel
theorem dX8_zetaOf_39 : decode cX8_zetaOf 39 = .ok (.iload 8, 2) := by decide +kernel
theorem dX8_zetaOf_41 : decode cX8_zetaOf 41 = .ok (.ifCond .ne 6, 3) := by decide +kernel
theorem dX8_zetaOf_44 : decode cX8_zetaOf 44 = .ok (.goto 38, 3) := by decide +kernel
theorem dX8_zetaOf_47 : decode cX8_zetaOf 47 = .ok (.lload 5, 2) := by decide +kernel
theorem dX8_zetaOf_49 : decode cX8_zetaOf 49 = .ok (.lconst 0, 1) := by decide +kernel
theorem dX8_zetaOf_50 : decode cX8_zetaOf 50 = .ok (.lcmp, 1) := by decide +kernel
theorem dX8_zetaOf_51 : decode cX8_zetaOf 51 = .ok (.ifCond .lt 18, 3) := by decide +kernel
theorem dX8_zetaOf_54 : decode cX8_zetaOf 54 = .ok (.lload 5, 2) := by decide +kernel
theorem dX8_zetaOf_56 : decode cX8_zetaOf 56 = .ok (.ldc2_w 77, 3) := by decide +kernel
theorem dX8_zetaOf_59 : decode cX8_zetaOf 59 = .ok (.lload_n 3, 1) := by decide +kernel
theorem dX8_zetaOf_60 : decode cX8_zetaOf 60 = .ok (.lsub, 1) := by decide +kernel
theorem dX8_zetaOf_61 : decode cX8_zetaOf 61 = .ok (.iload 8, 2) := by decide +kernel
theorem dX8_zetaOf_63 : decode cX8_zetaOf 63 = .ok (.i2l, 1) := by decide +kernel
theorem dX8_zetaOf_64 : decode cX8_zetaOf 64 = .ok (.ldiv, 1) := by decide +kernel
theorem dX8_zetaOf_65 : decode cX8_zetaOf 65 = .ok (.lcmp, 1) := by decide +kernel
theorem dX8_zetaOf_66 : decode cX8_zetaOf 66 = .ok (.ifCond .le 7, 3) := by decide +kernel
theorem dX8_zetaOf_69 : decode cX8_zetaOf 69 = .ok (.ldc2_w 79, 3) := by decide +kernel
theorem dX8_zetaOf_72 : decode cX8_zetaOf 72 = .ok (.lreturn, 1) := by decide +kernel
theorem dX8_zetaOf_73 : decode cX8_zetaOf 73 = .ok (.lload_n 3, 1) := by decide +kernel
theorem dX8_zetaOf_74 : decode cX8_zetaOf 74 = .ok (.lload 5, 2) := by decide +kernel
theorem dX8_zetaOf_76 : decode cX8_zetaOf 76 = .ok (.iload 8, 2) := by decide +kernel
theorem dX8_zetaOf_78 : decode cX8_zetaOf 78 = .ok (.i2l, 1) := by decide +kernel
theorem dX8_zetaOf_79 : decode cX8_zetaOf 79 = .ok (.lmul, 1) := by decide +kernel
theorem dX8_zetaOf_80 : decode cX8_zetaOf 80 = .ok (.ladd, 1) := by decide +kernel
theorem dX8_zetaOf_81 : decode cX8_zetaOf 81 = .ok (.lstore_n 3, 1) := by decide +kernel
theorem dX8_zetaOf_82 : decode cX8_zetaOf 82 = .ok (.iinc 7 1, 3) := by decide +kernel
theorem dX8_zetaOf_85 : decode cX8_zetaOf 85 = .ok (.goto (-77), 3) := by decide +kernel
theorem dX8_zetaOf_88 : decode cX8_zetaOf 88 = .ok (.lload_n 3, 1) := by decide +kernel
theorem dX8_zetaOf_89 : decode cX8_zetaOf 89 = .ok (.lreturn, 1) := by decide +kernel
theorem dX8_nextChoice_0 : decode cX8_nextChoice 0 = .ok (.iload_n 2, 1) := by decide +kernel
theorem dX8_nextChoice_1 : decode cX8_nextChoice 1 = .ok (.iload_n 3, 1) := by decide +kernel
theorem dX8_nextChoice_2 : decode cX8_nextChoice 2 = .ok (.isub, 1) := by decide +kernel
theorem dX8_nextChoice_3 : decode cX8_nextChoice 3 = .ok (.iconst 1, 1) := by decide +kernel
theorem dX8_nextChoice_4 : decode cX8_nextChoice 4 = .ok (.iadd, 1) := by decide +kernel
theorem dX8_nextChoice_5 : decode cX8_nextChoice 5 = .ok (.i2l, 1) := by decide +kernel
theorem dX8_nextChoice_6 : decode cX8_nextChoice 6 = .ok (.lstore 4, 2) := by decide +kernel
theorem dX8_nextChoice_8 : decode cX8_nextChoice 8 = .ok (.iload_n 3, 1) := by decide +kernel
theorem dX8_nextChoice_9 : decode cX8_nextChoice 9 = .ok (.iconst 1, 1) := by decide +kernel
theorem dX8_nextChoice_10 : decode cX8_nextChoice 10 = .ok (.if_icmp .lt 10, 3) := by decide +kernel
theorem dX8_nextChoice_13 : decode cX8_nextChoice 13 = .ok (.lload 4, 2) := by decide +kernel
theorem dX8_nextChoice_15 : decode cX8_nextChoice 15 = .ok (.lconst 1, 1) := by decide +kernel
theorem dX8_nextChoice_16 : decode cX8_nextChoice 16 = .ok (.lcmp, 1) := by decide +kernel
theorem dX8_nextChoice_17 : decode cX8_nextChoice 17 = .ok (.ifCond .ge 5, 3) := by decide +kernel
theorem dX8_nextChoice_20 : decode cX8_nextChoice 20 = .ok (.lconst 0, 1) := by decide +kernel
theorem dX8_nextChoice_21 : decode cX8_nextChoice 21 = .ok (.lreturn, 1) := by decide +kernel
theorem dX8_nextChoice_22 : decode cX8_nextChoice 22 = .ok (.lload_n 0, 1) := by decide +kernel
theorem dX8_nextChoice_23 : decode cX8_nextChoice 23 = .ok (.lconst 0, 1) := by decide +kernel
theorem dX8_nextChoice_24 : decode cX8_nextChoice 24 = .ok (.lcmp, 1) := by decide +kernel
theorem dX8_nextChoice_25 : decode cX8_nextChoice 25 = .ok (.ifCond .ge 7, 3) := by decide +kernel
theorem dX8_nextChoice_28 : decode cX8_nextChoice 28 = .ok (.ldc2_w 79, 3) := by decide +kernel
theorem dX8_nextChoice_31 : decode cX8_nextChoice 31 = .ok (.lreturn, 1) := by decide +kernel
theorem dX8_nextChoice_32 : decode cX8_nextChoice 32 = .ok (.lload_n 0, 1) := by decide +kernel
theorem dX8_nextChoice_33 : decode cX8_nextChoice 33 = .ok (.iload_n 3, 1) := by decide +kernel
theorem dX8_nextChoice_34 : decode cX8_nextChoice 34 = .ok (.i2l, 1) := by decide +kernel
theorem dX8_nextChoice_35 : decode cX8_nextChoice 35 = .ok (.lrem, 1) := by decide +kernel
theorem dX8_nextChoice_36 : decode cX8_nextChoice 36 = .ok (.lload 4, 2) := by decide +kernel
theorem dX8_nextChoice_38 : decode cX8_nextChoice 38 = .ok (.lmul, 1) := by decide +kernel
theorem dX8_nextChoice_39 : decode cX8_nextChoice 39 = .ok (.iload_n 3, 1) := by decide +kernel
theorem dX8_nextChoice_40 : decode cX8_nextChoice 40 = .ok (.i2l, 1) := by decide +kernel
theorem dX8_nextChoice_41 : decode cX8_nextChoice 41 = .ok (.ldiv, 1) := by decide +kernel
theorem dX8_nextChoice_42 : decode cX8_nextChoice 42 = .ok (.lstore 6, 2) := by decide +kernel
theorem dX8_nextChoice_44 : decode cX8_nextChoice 44 = .ok (.lload_n 0, 1) := by decide +kernel
theorem dX8_nextChoice_45 : decode cX8_nextChoice 45 = .ok (.iload_n 3, 1) := by decide +kernel
theorem dX8_nextChoice_46 : decode cX8_nextChoice 46 = .ok (.i2l, 1) := by decide +kernel
theorem dX8_nextChoice_47 : decode cX8_nextChoice 47 = .ok (.ldiv, 1) := by decide +kernel
theorem dX8_nextChoice_48 : decode cX8_nextChoice 48 = .ok (.lstore 8, 2) := by decide +kernel
theorem dX8_nextChoice_50 : decode cX8_nextChoice 50 = .ok (.lload 8, 2) := by decide +kernel
theorem dX8_nextChoice_52 : decode cX8_nextChoice 52 = .ok (.ldc2_w 77, 3) := by decide +kernel
theorem dX8_nextChoice_55 : decode cX8_nextChoice 55 = .ok (.lload 6, 2) := by decide +kernel
theorem dX8_nextChoice_57 : decode cX8_nextChoice 57 = .ok (.lsub, 1) := by decide +kernel
theorem dX8_nextChoice_58 : decode cX8_nextChoice 58 = .ok (.lload 4, 2) := by decide +kernel
theorem dX8_nextChoice_60 : decode cX8_nextChoice 60 = .ok (.ldiv, 1) := by decide +kernel
theorem dX8_nextChoice_61 : decode cX8_nextChoice 61 = .ok (.lcmp, 1) := by decide +kernel
theorem dX8_nextChoice_62 : decode cX8_nextChoice 62 = .ok (.ifCond .le 9, 3) := by decide +kernel
theorem dX8_nextChoice_65 : decode cX8_nextChoice 65 = .ok (.ldc2_w 79, 3) := by decide +kernel
theorem dX8_nextChoice_68 : decode cX8_nextChoice 68 = .ok (.goto 11, 3) := by decide +kernel
theorem dX8_nextChoice_71 : decode cX8_nextChoice 71 = .ok (.lload 8, 2) := by decide +kernel
theorem dX8_nextChoice_73 : decode cX8_nextChoice 73 = .ok (.lload 4, 2) := by decide +kernel
theorem dX8_nextChoice_75 : decode cX8_nextChoice 75 = .ok (.lmul, 1) := by decide +kernel
theorem dX8_nextChoice_76 : decode cX8_nextChoice 76 = .ok (.lload 6, 2) := by decide +kernel
theorem dX8_nextChoice_78 : decode cX8_nextChoice 78 = .ok (.ladd, 1) := by decide +kernel
theorem dX8_nextChoice_79 : decode cX8_nextChoice 79 = .ok (.lreturn, 1) := by decide +kernel
set_option maxRecDepth 20000 in
theorem ggX8_extensionsOf_X8_endingsOf : GoodIn wsX8_extensionsOf wsX8_endingsOf := goodIn_r _ [7, 8, 1, 9, 10, 11, 17, 18, 19, 20, 21, 22, 12, 13, 14, 15, 16] (by decide +kernel) (by decide +kernel)
set_option maxRecDepth 20000 in
theorem gX8_extensionsOf_X8_endingsOf : GoodIn wsX8_extensionsOf (wsV RX8 85 RX8 yX8_endingsOf wsX8_endingsOf) := goodIn_app (goodIn_of _ (by decide +kernel)) ggX8_extensionsOf_X8_endingsOf
theorem dX8_extensionsOf_0 : decode cX8_extensionsOf 0 = .ok (.aload_n 0, 1) := by decide +kernel
theorem dX8_extensionsOf_1 : decode cX8_extensionsOf 1 = .ok (.getfield 24, 3) := by decide +kernel
theorem dX8_extensionsOf_4 : decode cX8_extensionsOf 4 = .ok (.iconst 0, 1) := by decide +kernel
theorem dX8_extensionsOf_5 : decode cX8_extensionsOf 5 = .ok (.iconst 1, 1) := by decide +kernel
theorem dX8_extensionsOf_6 : decode cX8_extensionsOf 6 = .ok (.iastore, 1) := by decide +kernel
theorem dX8_extensionsOf_7 : decode cX8_extensionsOf 7 = .ok (.iconst 1, 1) := by decide +kernel
theorem dX8_extensionsOf_8 : decode cX8_extensionsOf 8 = .ok (.istore_n 2, 1) := by decide +kernel
theorem dX8_extensionsOf_9 : decode cX8_extensionsOf 9 = .ok (.iload_n 2, 1) := by decide +kernel
theorem dX8_extensionsOf_10 : decode cX8_extensionsOf 10 = .ok (.sipush 512, 3) := by decide +kernel
theorem dX8_extensionsOf_13 : decode cX8_extensionsOf 13 = .ok (.if_icmp .ge 32, 3) := by decide +kernel
theorem dX8_extensionsOf_16 : decode cX8_extensionsOf 16 = .ok (.iload_n 2, 1) := by decide +kernel
theorem dX8_extensionsOf_17 : decode cX8_extensionsOf 17 = .ok (.aload_n 1, 1) := by decide +kernel
theorem dX8_extensionsOf_18 : decode cX8_extensionsOf 18 = .ok (.getfield 81, 3) := by decide +kernel
theorem dX8_extensionsOf_21 : decode cX8_extensionsOf 21 = .ok (.iconst (-1), 1) := by decide +kernel
theorem dX8_extensionsOf_22 : decode cX8_extensionsOf 22 = .ok (.ixor, 1) := by decide +kernel
theorem dX8_extensionsOf_23 : decode cX8_extensionsOf 23 = .ok (.iand, 1) := by decide +kernel
theorem dX8_extensionsOf_24 : decode cX8_extensionsOf 24 = .ok (.ifCond .ne 15, 3) := by decide +kernel
theorem dX8_extensionsOf_27 : decode cX8_extensionsOf 27 = .ok (.aload_n 0, 1) := by decide +kernel
theorem dX8_extensionsOf_28 : decode cX8_extensionsOf 28 = .ok (.getfield 24, 3) := by decide +kernel
theorem dX8_extensionsOf_31 : decode cX8_extensionsOf 31 = .ok (.iload_n 2, 1) := by decide +kernel
theorem dX8_extensionsOf_32 : decode cX8_extensionsOf 32 = .ok (.aload_n 0, 1) := by decide +kernel
theorem dX8_extensionsOf_33 : decode cX8_extensionsOf 33 = .ok (.aload_n 1, 1) := by decide +kernel
theorem dX8_extensionsOf_34 : decode cX8_extensionsOf 34 = .ok (.iload_n 2, 1) := by decide +kernel
theorem dX8_extensionsOf_35 : decode cX8_extensionsOf 35 = .ok (.invokevirtual 85, 3) := by decide +kernel
theorem dX8_extensionsOf_38 : decode cX8_extensionsOf 38 = .ok (.iastore, 1) := by decide +kernel
theorem dX8_extensionsOf_39 : decode cX8_extensionsOf 39 = .ok (.iinc 2 1, 3) := by decide +kernel
theorem dX8_extensionsOf_42 : decode cX8_extensionsOf 42 = .ok (.goto (-33), 3) := by decide +kernel
theorem dX8_extensionsOf_45 : decode cX8_extensionsOf 45 = .ok (.aload_n 0, 1) := by decide +kernel
theorem dX8_extensionsOf_46 : decode cX8_extensionsOf 46 = .ok (.getfield 24, 3) := by decide +kernel
theorem dX8_extensionsOf_49 : decode cX8_extensionsOf 49 = .ok (.aload_n 1, 1) := by decide +kernel
theorem dX8_extensionsOf_50 : decode cX8_extensionsOf 50 = .ok (.getfield 81, 3) := by decide +kernel
theorem dX8_extensionsOf_53 : decode cX8_extensionsOf 53 = .ok (.sipush 511, 3) := by decide +kernel
theorem dX8_extensionsOf_56 : decode cX8_extensionsOf 56 = .ok (.iand, 1) := by decide +kernel
theorem dX8_extensionsOf_57 : decode cX8_extensionsOf 57 = .ok (.iaload, 1) := by decide +kernel
theorem dX8_extensionsOf_58 : decode cX8_extensionsOf 58 = .ok (.ireturn, 1) := by decide +kernel
set_option maxRecDepth 20000 in
theorem ggX8_endingsOf_X9_isIn : GoodIn wsX8_endingsOf wsX9_isIn := goodIn_r _ [5] (by decide +kernel) (by decide +kernel)
set_option maxRecDepth 20000 in
theorem gX8_endingsOf_X9_isIn_n33 : GoodIn wsX8_endingsOf (wsX9_isIn) := ggX8_endingsOf_X9_isIn
theorem dX8_endingsOf_0 : decode cX8_endingsOf 0 = .ok (.iconst 0, 1) := by decide +kernel
theorem dX8_endingsOf_1 : decode cX8_endingsOf 1 = .ok (.istore_n 3, 1) := by decide +kernel
theorem dX8_endingsOf_2 : decode cX8_endingsOf 2 = .ok (.iconst 0, 1) := by decide +kernel
theorem dX8_endingsOf_3 : decode cX8_endingsOf 3 = .ok (.istore 4, 2) := by decide +kernel
theorem dX8_endingsOf_5 : decode cX8_endingsOf 5 = .ok (.iload 4, 2) := by decide +kernel
theorem dX8_endingsOf_7 : decode cX8_endingsOf 7 = .ok (.bipush 9, 2) := by decide +kernel
theorem dX8_endingsOf_9 : decode cX8_endingsOf 9 = .ok (.if_icmp .ge 46, 3) := by decide +kernel
theorem dX8_endingsOf_12 : decode cX8_endingsOf 12 = .ok (.iload_n 2, 1) := by decide +kernel
theorem dX8_endingsOf_13 : decode cX8_endingsOf 13 = .ok (.iload 4, 2) := by decide +kernel
theorem dX8_endingsOf_15 : decode cX8_endingsOf 15 = .ok (.invokestatic 33, 3) := by decide +kernel
theorem dX8_endingsOf_18 : decode cX8_endingsOf 18 = .ok (.ifCond .eq 31, 3) := by decide +kernel
theorem dX8_endingsOf_21 : decode cX8_endingsOf 21 = .ok (.aload_n 1, 1) := by decide +kernel
theorem dX8_endingsOf_22 : decode cX8_endingsOf 22 = .ok (.getfield 89, 3) := by decide +kernel
theorem dX8_endingsOf_25 : decode cX8_endingsOf 25 = .ok (.iload 4, 2) := by decide +kernel
theorem dX8_endingsOf_27 : decode cX8_endingsOf 27 = .ok (.iaload, 1) := by decide +kernel
theorem dX8_endingsOf_28 : decode cX8_endingsOf 28 = .ok (.iload_n 2, 1) := by decide +kernel
theorem dX8_endingsOf_29 : decode cX8_endingsOf 29 = .ok (.iand, 1) := by decide +kernel
theorem dX8_endingsOf_30 : decode cX8_endingsOf 30 = .ok (.ifCond .ne 19, 3) := by decide +kernel
theorem dX8_endingsOf_33 : decode cX8_endingsOf 33 = .ok (.iload_n 3, 1) := by decide +kernel
theorem dX8_endingsOf_34 : decode cX8_endingsOf 34 = .ok (.aload_n 0, 1) := by decide +kernel
theorem dX8_endingsOf_35 : decode cX8_endingsOf 35 = .ok (.getfield 24, 3) := by decide +kernel
theorem dX8_endingsOf_38 : decode cX8_endingsOf 38 = .ok (.iload_n 2, 1) := by decide +kernel
theorem dX8_endingsOf_39 : decode cX8_endingsOf 39 = .ok (.iconst 1, 1) := by decide +kernel
theorem dX8_endingsOf_40 : decode cX8_endingsOf 40 = .ok (.iload 4, 2) := by decide +kernel
theorem dX8_endingsOf_42 : decode cX8_endingsOf 42 = .ok (.ishl, 1) := by decide +kernel
theorem dX8_endingsOf_43 : decode cX8_endingsOf 43 = .ok (.iconst (-1), 1) := by decide +kernel
theorem dX8_endingsOf_44 : decode cX8_endingsOf 44 = .ok (.ixor, 1) := by decide +kernel
theorem dX8_endingsOf_45 : decode cX8_endingsOf 45 = .ok (.iand, 1) := by decide +kernel
theorem dX8_endingsOf_46 : decode cX8_endingsOf 46 = .ok (.iaload, 1) := by decide +kernel
theorem dX8_endingsOf_47 : decode cX8_endingsOf 47 = .ok (.iadd, 1) := by decide +kernel
theorem dX8_endingsOf_48 : decode cX8_endingsOf 48 = .ok (.istore_n 3, 1) := by decide +kernel
theorem dX8_endingsOf_49 : decode cX8_endingsOf 49 = .ok (.iinc 4 1, 3) := by decide +kernel
theorem dX8_endingsOf_52 : decode cX8_endingsOf 52 = .ok (.goto (-47), 3) := by decide +kernel
theorem dX8_endingsOf_55 : decode cX8_endingsOf 55 = .ok (.iload_n 3, 1) := by decide +kernel
theorem dX8_endingsOf_56 : decode cX8_endingsOf 56 = .ok (.ireturn, 1) := by decide +kernel
set_option maxRecDepth 20000 in
theorem ggX9_init_X7_init : GoodIn wsX9_init wsX7_init := goodIn_r _ [38, 39, 2, 3, 40, 41, 42, 9, 10, 43, 44, 45, 46, 47, 48, 49, 50, 51, 96, 97, 98, 99, 100, 101, 102, 103, 104, 105, 106, 116, 117, 118, 119, 120, 121] (by decide +kernel) (by decide +kernel)
set_option maxRecDepth 20000 in
theorem gX9_init_X7_init_n13 : GoodIn wsX9_init (wsX7_init) := ggX9_init_X7_init
set_option maxRecDepth 20000 in
theorem ggX9_init_X6_init : GoodIn wsX9_init wsX6_init := goodIn_r _ [46, 47, 2, 3, 48, 49, 50, 51, 116, 117, 118, 119, 120, 121] (by decide +kernel) (by decide +kernel)
set_option maxRecDepth 20000 in
theorem gX9_init_X6_init_n20 : GoodIn wsX9_init (wsX6_init) := ggX9_init_X6_init
set_option maxRecDepth 20000 in
theorem ggX9_init_X5_init : GoodIn wsX9_init wsX5_init := goodIn_r _ [54, 55, 2, 3, 56, 57, 9, 10, 45, 46, 47, 48, 49, 50, 51, 122, 123, 124, 116, 117, 118, 119, 120, 121] (by decide +kernel) (by decide +kernel)
set_option maxRecDepth 20000 in
theorem gX9_init_X5_init : GoodIn wsX9_init (wsX5_init) := ggX9_init_X5_init
set_option maxRecDepth 20000 in
theorem ggX9_init_X2_init : GoodIn wsX9_init wsX2_init := goodIn_r _ [60, 61, 2, 3, 62, 63, 48, 64, 65, 66, 67, 68, 69, 70, 71, 125, 126, 127, 141, 142, 143, 144] (by decide +kernel) (by decide +kernel)
set_option maxRecDepth 20000 in
theorem gX9_init_X2_init : GoodIn wsX9_init (wsX2_init) := ggX9_init_X2_init
set_option maxRecDepth 20000 in
theorem ggX9_init_X8_init : GoodIn wsX9_init wsX8_init := goodIn_r _ [73, 74, 2, 3, 48, 75, 76, 77, 78, 79, 128, 129, 130, 131, 132] (by decide +kernel) (by decide +kernel)
set_option maxRecDepth 20000 in
theorem gX9_init_X8_init_n45 : GoodIn wsX9_init (wsX8_init) := ggX9_init_X8_init
set_option maxRecDepth 20000 in
theorem ggX9_init_X0_init : GoodIn wsX9_init wsX0_init := goodIn_r _ [81, 82, 2, 3, 48, 83, 84, 133, 134] (by decide +kernel) (by decide +kernel)
set_option maxRecDepth 20000 in
theorem gX9_init_X0_init_n52 : GoodIn wsX9_init (wsX0_init) := ggX9_init_X0_init
set_option maxRecDepth 20000 in
theorem ggX9_init_X3_init : GoodIn wsX9_init wsX3_init := goodIn_r _ [86, 87, 2, 3, 48, 88, 89, 90, 135, 136, 137] (by decide +kernel) (by decide +kernel)
set_option maxRecDepth 20000 in
theorem gX9_init_X3_init_n59 : GoodIn wsX9_init (wsX3_init) := ggX9_init_X3_init
set_option maxRecDepth 20000 in
theorem ggX9_init_X4_init : GoodIn wsX9_init wsX4_init := goodIn_r _ [92, 93, 2, 3, 48, 94, 95, 138, 139, 140] (by decide +kernel) (by decide +kernel)
set_option maxRecDepth 20000 in
theorem gX9_init_X4_init_n66 : GoodIn wsX9_init (wsX4_init) := ggX9_init_X4_init
theorem dX9_init_0 : decode cX9_init 0 = .ok (.aload_n 0, 1) := by decide +kernel
theorem dX9_init_1 : decode cX9_init 1 = .ok (.invokespecial 5, 3) := by decide +kernel
theorem dX9_init_4 : decode cX9_init 4 = .ok (.aload_n 0, 1) := by decide +kernel
theorem dX9_init_5 : decode cX9_init 5 = .ok (.new 11, 3) := by decide +kernel
theorem dX9_init_8 : decode cX9_init 8 = .ok (.dup, 1) := by decide +kernel
theorem dX9_init_9 : decode cX9_init 9 = .ok (.invokespecial 13, 3) := by decide +kernel
theorem dX9_init_12 : decode cX9_init 12 = .ok (.putfield 14, 3) := by decide +kernel
theorem dX9_init_15 : decode cX9_init 15 = .ok (.aload_n 0, 1) := by decide +kernel
theorem dX9_init_16 : decode cX9_init 16 = .ok (.new 18, 3) := by decide +kernel
theorem dX9_init_19 : decode cX9_init 19 = .ok (.dup, 1) := by decide +kernel
theorem dX9_init_20 : decode cX9_init 20 = .ok (.invokespecial 20, 3) := by decide +kernel
theorem dX9_init_23 : decode cX9_init 23 = .ok (.putfield 21, 3) := by decide +kernel
theorem dX9_init_26 : decode cX9_init 26 = .ok (.aload_n 0, 1) := by decide +kernel
theorem dX9_init_27 : decode cX9_init 27 = .ok (.new 25, 3) := by decide +kernel
theorem dX9_init_30 : decode cX9_init 30 = .ok (.dup, 1) := by decide +kernel
theorem dX9_init_31 : decode cX9_init 31 = .ok (.invokespecial 27, 3) := by decide +kernel
theorem dX9_init_34 : decode cX9_init 34 = .ok (.putfield 28, 3) := by decide +kernel
theorem dX9_init_37 : decode cX9_init 37 = .ok (.aload_n 0, 1) := by decide +kernel
theorem dX9_init_38 : decode cX9_init 38 = .ok (.iconst 2, 1) := by decide +kernel
theorem dX9_init_39 : decode cX9_init 39 = .ok (.anewarray 18, 3) := by decide +kernel
theorem dX9_init_42 : decode cX9_init 42 = .ok (.putfield 32, 3) := by decide +kernel
theorem dX9_init_45 : decode cX9_init 45 = .ok (.aload_n 0, 1) := by decide +kernel
theorem dX9_init_46 : decode cX9_init 46 = .ok (.new 36, 3) := by decide +kernel
theorem dX9_init_49 : decode cX9_init 49 = .ok (.dup, 1) := by decide +kernel
theorem dX9_init_50 : decode cX9_init 50 = .ok (.invokespecial 38, 3) := by decide +kernel
theorem dX9_init_53 : decode cX9_init 53 = .ok (.putfield 39, 3) := by decide +kernel
theorem dX9_init_56 : decode cX9_init 56 = .ok (.aload_n 0, 1) := by decide +kernel
theorem dX9_init_57 : decode cX9_init 57 = .ok (.new 43, 3) := by decide +kernel
theorem dX9_init_60 : decode cX9_init 60 = .ok (.dup, 1) := by decide +kernel
theorem dX9_init_61 : decode cX9_init 61 = .ok (.invokespecial 45, 3) := by decide +kernel
theorem dX9_init_64 : decode cX9_init 64 = .ok (.putfield 46, 3) := by decide +kernel
theorem dX9_init_67 : decode cX9_init 67 = .ok (.aload_n 0, 1) := by decide +kernel
theorem dX9_init_68 : decode cX9_init 68 = .ok (.new 50, 3) := by decide +kernel
theorem dX9_init_71 : decode cX9_init 71 = .ok (.dup, 1) := by decide +kernel
theorem dX9_init_72 : decode cX9_init 72 = .ok (.invokespecial 52, 3) := by decide +kernel
theorem dX9_init_75 : decode cX9_init 75 = .ok (.putfield 53, 3) := by decide +kernel
theorem dX9_init_78 : decode cX9_init 78 = .ok (.aload_n 0, 1) := by decide +kernel
theorem dX9_init_79 : decode cX9_init 79 = .ok (.new 57, 3) := by decide +kernel
theorem dX9_init_82 : decode cX9_init 82 = .ok (.dup, 1) := by decide +kernel
theorem dX9_init_83 : decode cX9_init 83 = .ok (.invokespecial 59, 3) := by decide +kernel
theorem dX9_init_86 : decode cX9_init 86 = .ok (.putfield 60, 3) := by decide +kernel
theorem dX9_init_89 : decode cX9_init 89 = .ok (.aload_n 0, 1) := by decide +kernel
theorem dX9_init_90 : decode cX9_init 90 = .ok (.new 64, 3) := by decide +kernel
theorem dX9_init_93 : decode cX9_init 93 = .ok (.dup, 1) := by decide +kernel
theorem dX9_init_94 : decode cX9_init 94 = .ok (.invokespecial 66, 3) := by decide +kernel
theorem dX9_init_97 : decode cX9_init 97 = .ok (.putfield 67, 3) := by decide +kernel
theorem dX9_init_100 : decode cX9_init 100 = .ok (.iconst 0, 1) := by decide +kernel
theorem dX9_init_101 : decode cX9_init 101 = .ok (.istore_n 1, 1) := by decide +kernel
theorem dX9_init_102 : decode cX9_init 102 = .ok (.iload_n 1, 1) := by decide +kernel
theorem dX9_init_103 : decode cX9_init 103 = .ok (.iconst 2, 1) := by decide +kernel
theorem dX9_init_104 : decode cX9_init 104 = .ok (.if_icmp .ge 22, 3) := by decide +kernel
theorem dX9_init_107 : decode cX9_init 107 = .ok (.aload_n 0, 1) := by decide +kernel
theorem dX9_init_108 : decode cX9_init 108 = .ok (.getfield 32, 3) := by decide +kernel
theorem dX9_init_111 : decode cX9_init 111 = .ok (.iload_n 1, 1) := by decide +kernel
theorem dX9_init_112 : decode cX9_init 112 = .ok (.new 18, 3) := by decide +kernel
theorem dX9_init_115 : decode cX9_init 115 = .ok (.dup, 1) := by decide +kernel
theorem dX9_init_116 : decode cX9_init 116 = .ok (.invokespecial 20, 3) := by decide +kernel
theorem dX9_init_119 : decode cX9_init 119 = .ok (.aastore, 1) := by decide +kernel
theorem dX9_init_120 : decode cX9_init 120 = .ok (.iinc 1 1, 3) := by decide +kernel
theorem dX9_init_123 : decode cX9_init 123 = .ok (.goto (-21), 3) := by decide +kernel
theorem dX9_init_126 : decode cX9_init 126 = .ok (.return_, 1) := by decide +kernel
set_option maxRecDepth 20000 in
theorem ggX9_sign_X7_append : GoodIn wsX9_sign wsX7_append := goodIn_r _ [6, 7, 8, 18, 19, 20, 21, 22, 23, 24, 25, 26, 27, 28] (by decide +kernel) (by decide +kernel)
set_option maxRecDepth 20000 in
theorem gX9_sign_X7_append : GoodIn wsX9_sign (wsV RX9 71 RX7 yX7_append wsX7_append) := goodIn_app (goodIn_of _ (by decide +kernel)) ggX9_sign_X7_append
theorem dX9_sign_0 : decode cX9_sign 0 = .ok (.aload_n 0, 1) := by decide +kernel
theorem dX9_sign_1 : decode cX9_sign 1 = .ok (.getfield 14, 3) := by decide +kernel
theorem dX9_sign_4 : decode cX9_sign 4 = .ok (.iload_n 1, 1) := by decide +kernel
theorem dX9_sign_5 : decode cX9_sign 5 = .ok (.invokevirtual 71, 3) := by decide +kernel
theorem dX9_sign_8 : decode cX9_sign 8 = .ok (.ireturn, 1) := by decide +kernel
set_option maxRecDepth 20000 in
theorem ggX9_end_X7_cut : GoodIn wsX9_end wsX7_cut := goodIn_r _ [6, 7, 17, 18, 19, 20, 21, 22, 23, 24, 25, 26, 27] (by decide +kernel) (by decide +kernel)
set_option maxRecDepth 20000 in
theorem gX9_end_X7_cut : GoodIn wsX9_end (wsV RX9 75 RX7 yX7_cut wsX7_cut) := goodIn_app (goodIn_of _ (by decide +kernel)) ggX9_end_X7_cut
theorem dX9_end_0 : decode cX9_end 0 = .ok (.aload_n 0, 1) := by decide +kernel
theorem dX9_end_1 : decode cX9_end 1 = .ok (.getfield 14, 3) := by decide +kernel
theorem dX9_end_4 : decode cX9_end 4 = .ok (.iload_n 1, 1) := by decide +kernel
theorem dX9_end_5 : decode cX9_end 5 = .ok (.invokevirtual 75, 3) := by decide +kernel
theorem dX9_end_8 : decode cX9_end 8 = .ok (.ireturn, 1) := by decide +kernel
set_option maxRecDepth 20000 in
theorem ggX9_order_X7_readLines : GoodIn wsX9_order wsX7_readLines := goodIn_r _ [10, 11, 12, 13, 14, 15, 16, 17, 18, 19, 20, 21, 22, 23, 24, 25, 26, 27, 28, 29, 30, 31, 32, 33, 34, 9, 35, 36, 37, 38, 39, 40, 41, 42, 43, 44, 45, 46, 47, 48, 49, 50, 51, 52, 53, 54, 55, 56, 57, 58, 59, 60, 61, 62, 63, 64, 65, 66, 67, 68, 69, 70, 71, 72, 73, 74, 75, 76, 77, 78, 79, 80, 81, 82, 83, 84, 85, 86, 87, 88, 89, 90, 91, 92, 93, 94, 95, 96, 97, 98, 99, 100, 101, 102, 103, 104, 105, 106, 107, 108, 109, 110, 111, 112, 113, 114, 115, 116, 117, 118, 119, 120, 121, 122, 123, 124, 125, 126, 127, 128, 129, 130, 131, 132, 133, 134, 135, 136, 137, 138, 139, 140, 141, 142, 143, 144, 145, 146, 147, 148, 149, 150, 151, 152, 153, 154, 155, 156, 185, 186, 187, 188, 189, 190, 191, 192, 193, 194, 195, 196, 197, 198, 199, 200, 201] (by decide +kernel) (by decide +kernel)
set_option maxRecDepth 20000 in
theorem gX9_order_X7_readLines : GoodIn wsX9_order (wsV RX9 79 RX7 yX7_readLines wsX7_readLines) := goodIn_app (goodIn_of _ (by decide +kernel)) ggX9_order_X7_readLines
set_option maxRecDepth 20000 in
theorem ggX9_order_X7_cut : GoodIn wsX9_order wsX7_cut := goodIn_r _ [160, 36, 185, 186, 187, 188, 189, 190, 191, 192, 193, 194, 195] (by decide +kernel) (by decide +kernel)
set_option maxRecDepth 20000 in
theorem gX9_order_X7_cut : GoodIn wsX9_order (wsV RX9 75 RX7 yX7_cut wsX7_cut) := goodIn_app (goodIn_of _ (by decide +kernel)) ggX9_order_X7_cut
set_option maxRecDepth 20000 in
theorem ggX9_order_X6_copy : GoodIn wsX9_order wsX6_copy := goodIn_r _ [164, 22, 23, 24, 25, 165, 166, 167, 168, 26, 27, 196, 197, 198, 199, 200, 201] (by decide +kernel) (by decide +kernel)
set_option maxRecDepth 20000 in
theorem gX9_order_X6_copy : GoodIn wsX9_order (wsV RX9 86 RX6 yX6_copy wsX6_copy) := goodIn_app (goodIn_of _ (by decide +kernel)) ggX9_order_X6_copy
set_option maxRecDepth 20000 in
theorem ggX9_order_X5_forget : GoodIn wsX9_order wsX5_forget := goodIn_r _ [173, 174, 202, 203, 204] (by decide +kernel) (by decide +kernel)
set_option maxRecDepth 20000 in
theorem gX9_order_X5_forget : GoodIn wsX9_order (wsV RX9 90 RX5 yX5_forget wsX5_forget) := goodIn_app (goodIn_of _ (by decide +kernel)) ggX9_order_X5_forget
set_option maxRecDepth 20000 in
theorem ggX9_order_X6_begin : GoodIn wsX9_order wsX6_begin := goodIn_r _ [21, 22, 23, 24, 25, 26, 27, 28, 29, 30, 31, 196, 197, 198, 199, 200, 201] (by decide +kernel) (by decide +kernel)
set_option maxRecDepth 20000 in
theorem gX9_order_X6_begin : GoodIn wsX9_order (wsV RX9 93 RX6 yX6_begin wsX6_begin) := goodIn_app (goodIn_of _ (by decide +kernel)) ggX9_order_X6_begin
theorem dX9_order_0 : decode cX9_order 0 = .ok (.aload_n 0, 1) := by decide +kernel
theorem dX9_order_1 : decode cX9_order 1 = .ok (.getfield 14, 3) := by decide +kernel
theorem dX9_order_4 : decode cX9_order 4 = .ok (.invokevirtual 79, 3) := by decide +kernel
theorem dX9_order_7 : decode cX9_order 7 = .ok (.istore_n 1, 1) := by decide +kernel
theorem dX9_order_8 : decode cX9_order 8 = .ok (.aload_n 0, 1) := by decide +kernel
theorem dX9_order_9 : decode cX9_order 9 = .ok (.getfield 14, 3) := by decide +kernel
theorem dX9_order_12 : decode cX9_order 12 = .ok (.iconst 0, 1) := by decide +kernel
theorem dX9_order_13 : decode cX9_order 13 = .ok (.invokevirtual 75, 3) := by decide +kernel
theorem dX9_order_16 : decode cX9_order 16 = .ok (.pop, 1) := by decide +kernel
theorem dX9_order_17 : decode cX9_order 17 = .ok (.iload_n 1, 1) := by decide +kernel
theorem dX9_order_18 : decode cX9_order 18 = .ok (.iconst (-1), 1) := by decide +kernel
theorem dX9_order_19 : decode cX9_order 19 = .ok (.if_icmp .eq 47, 3) := by decide +kernel
theorem dX9_order_22 : decode cX9_order 22 = .ok (.aload_n 0, 1) := by decide +kernel
theorem dX9_order_23 : decode cX9_order 23 = .ok (.getfield 21, 3) := by decide +kernel
theorem dX9_order_26 : decode cX9_order 26 = .ok (.aload_n 0, 1) := by decide +kernel
theorem dX9_order_27 : decode cX9_order 27 = .ok (.getfield 14, 3) := by decide +kernel
theorem dX9_order_30 : decode cX9_order 30 = .ok (.getfield 83, 3) := by decide +kernel
theorem dX9_order_33 : decode cX9_order 33 = .ok (.invokevirtual 86, 3) := by decide +kernel
theorem dX9_order_36 : decode cX9_order 36 = .ok (.aload_n 0, 1) := by decide +kernel
theorem dX9_order_37 : decode cX9_order 37 = .ok (.getfield 28, 3) := by decide +kernel
theorem dX9_order_40 : decode cX9_order 40 = .ok (.invokevirtual 90, 3) := by decide +kernel
theorem dX9_order_43 : decode cX9_order 43 = .ok (.iconst 0, 1) := by decide +kernel
theorem dX9_order_44 : decode cX9_order 44 = .ok (.istore_n 2, 1) := by decide +kernel
theorem dX9_order_45 : decode cX9_order 45 = .ok (.iload_n 2, 1) := by decide +kernel
theorem dX9_order_46 : decode cX9_order 46 = .ok (.iconst 2, 1) := by decide +kernel
theorem dX9_order_47 : decode cX9_order 47 = .ok (.if_icmp .ge 19, 3) := by decide +kernel
theorem dX9_order_50 : decode cX9_order 50 = .ok (.aload_n 0, 1) := by decide +kernel
theorem dX9_order_51 : decode cX9_order 51 = .ok (.getfield 32, 3) := by decide +kernel
theorem dX9_order_54 : decode cX9_order 54 = .ok (.iload_n 2, 1) := by decide +kernel
theorem dX9_order_55 : decode cX9_order 55 = .ok (.aaload, 1) := by decide +kernel
theorem dX9_order_56 : decode cX9_order 56 = .ok (.iconst 0, 1) := by decide +kernel
theorem dX9_order_57 : decode cX9_order 57 = .ok (.invokevirtual 93, 3) := by decide +kernel
theorem dX9_order_60 : decode cX9_order 60 = .ok (.iinc 2 1, 3) := by decide +kernel
theorem dX9_order_63 : decode cX9_order 63 = .ok (.goto (-18), 3) := by decide +kernel
theorem dX9_order_66 : decode cX9_order 66 = .ok (.iload_n 1, 1) := by decide +kernel
theorem dX9_order_67 : decode cX9_order 67 = .ok (.ireturn, 1) := by decide +kernel
theorem dX9_fault_0 : decode cX9_fault 0 = .ok (.iload_n 1, 1) := by decide +kernel
theorem dX9_fault_1 : decode cX9_fault 1 = .ok (.lookupswitch 43 #[(0, 27), (1, 35)], 27) := by decide +kernel
theorem dX9_fault_28 : decode cX9_fault 28 = .ok (.aload_n 0, 1) := by decide +kernel
theorem dX9_fault_29 : decode cX9_fault 29 = .ok (.getfield 14, 3) := by decide +kernel
theorem dX9_fault_32 : decode cX9_fault 32 = .ok (.getfield 97, 3) := by decide +kernel
theorem dX9_fault_35 : decode cX9_fault 35 = .ok (.ireturn, 1) := by decide +kernel
theorem dX9_fault_36 : decode cX9_fault 36 = .ok (.aload_n 0, 1) := by decide +kernel
theorem dX9_fault_37 : decode cX9_fault 37 = .ok (.getfield 14, 3) := by decide +kernel
theorem dX9_fault_40 : decode cX9_fault 40 = .ok (.getfield 101, 3) := by decide +kernel
theorem dX9_fault_43 : decode cX9_fault 43 = .ok (.ireturn, 1) := by decide +kernel
theorem dX9_fault_44 : decode cX9_fault 44 = .ok (.iconst (-1), 1) := by decide +kernel
theorem dX9_fault_45 : decode cX9_fault 45 = .ok (.ireturn, 1) := by decide +kernel
set_option maxRecDepth 20000 in
theorem ggX9_relate_X6_has : GoodIn wsX9_relate wsX6_has := goodIn_r _ [7, 8, 9, 10, 11, 66, 67, 68, 69, 70, 71] (by decide +kernel) (by decide +kernel)
set_option maxRecDepth 20000 in
theorem gX9_relate_X6_has : GoodIn wsX9_relate (wsV RX9 104 RX6 yX6_has wsX6_has) := goodIn_app (goodIn_of _ (by decide +kernel)) ggX9_relate_X6_has
set_option maxRecDepth 20000 in
theorem ggX9_relate_X6_isUnder : GoodIn wsX9_relate wsX6_isUnder := goodIn_r _ [15, 16, 17, 4, 5, 6, 7, 8, 9, 10, 11, 66, 67, 68, 69, 70, 71] (by decide +kernel) (by decide +kernel)
set_option maxRecDepth 20000 in
theorem gX9_relate_X6_isUnder : GoodIn wsX9_relate (wsV RX9 107 RX6 yX6_isUnder wsX6_isUnder) := goodIn_app (goodIn_of _ (by decide +kernel)) ggX9_relate_X6_isUnder
set_option maxRecDepth 20000 in
theorem ggX9_relate_X5_push : GoodIn wsX9_relate wsX5_push := goodIn_r _ [22, 23, 24, 25, 26, 27, 28, 29, 30, 31, 32, 6, 33, 34, 8, 35, 16, 36, 37, 38, 39, 40, 41, 72, 73, 74, 66, 67, 68, 69, 70, 71] (by decide +kernel) (by decide +kernel)
set_option maxRecDepth 20000 in
theorem gX9_relate_X5_push : GoodIn wsX9_relate (wsV RX9 111 RX5 yX5_push wsX5_push) := goodIn_app (goodIn_of _ (by decide +kernel)) ggX9_relate_X5_push
set_option maxRecDepth 20000 in
theorem ggX9_relate_X6_put : GoodIn wsX9_relate wsX6_put := goodIn_r _ [45, 40, 16, 17, 4, 5, 6, 7, 8, 9, 10, 11, 66, 67, 68, 69, 70, 71] (by decide +kernel) (by decide +kernel)
set_option maxRecDepth 20000 in
theorem gX9_relate_X6_put : GoodIn wsX9_relate (wsV RX9 114 RX6 yX6_put wsX6_put) := goodIn_app (goodIn_of _ (by decide +kernel)) ggX9_relate_X6_put
set_option maxRecDepth 20000 in
theorem ggX9_relate_X6_pairs : GoodIn wsX9_relate wsX6_pairs := goodIn_r _ [49, 16, 50, 51, 52, 53, 54, 55, 56, 66, 67, 68, 69, 70, 71] (by decide +kernel) (by decide +kernel)
set_option maxRecDepth 20000 in
theorem gX9_relate_X6_pairs : GoodIn wsX9_relate (wsV RX9 118 RX6 yX6_pairs wsX6_pairs) := goodIn_app (goodIn_of _ (by decide +kernel)) ggX9_relate_X6_pairs
theorem dX9_relate_0 : decode cX9_relate 0 = .ok (.aload_n 0, 1) := by decide +kernel
theorem dX9_relate_1 : decode cX9_relate 1 = .ok (.getfield 21, 3) := by decide +kernel
theorem dX9_relate_4 : decode cX9_relate 4 = .ok (.iload_n 1, 1) := by decide +kernel
theorem dX9_relate_5 : decode cX9_relate 5 = .ok (.invokevirtual 104, 3) := by decide +kernel
theorem dX9_relate_8 : decode cX9_relate 8 = .ok (.ifCond .eq 14, 3) := by decide +kernel
theorem dX9_relate_11 : decode cX9_relate 11 = .ok (.aload_n 0, 1) := by decide +kernel
theorem dX9_relate_12 : decode cX9_relate 12 = .ok (.getfield 21, 3) := by decide +kernel
theorem dX9_relate_15 : decode cX9_relate 15 = .ok (.iload_n 2, 1) := by decide +kernel
theorem dX9_relate_16 : decode cX9_relate 16 = .ok (.invokevirtual 104, 3) := by decide +kernel
theorem dX9_relate_19 : decode cX9_relate 19 = .ok (.ifCond .ne 5, 3) := by decide +kernel
theorem dX9_relate_22 : decode cX9_relate 22 = .ok (.iconst (-1), 1) := by decide +kernel
theorem dX9_relate_23 : decode cX9_relate 23 = .ok (.ireturn, 1) := by decide +kernel
theorem dX9_relate_24 : decode cX9_relate 24 = .ok (.iload_n 1, 1) := by decide +kernel
theorem dX9_relate_25 : decode cX9_relate 25 = .ok (.iload_n 2, 1) := by decide +kernel
theorem dX9_relate_26 : decode cX9_relate 26 = .ok (.if_icmp .eq 15, 3) := by decide +kernel
theorem dX9_relate_29 : decode cX9_relate 29 = .ok (.aload_n 0, 1) := by decide +kernel
theorem dX9_relate_30 : decode cX9_relate 30 = .ok (.getfield 21, 3) := by decide +kernel
theorem dX9_relate_33 : decode cX9_relate 33 = .ok (.iload_n 2, 1) := by decide +kernel
theorem dX9_relate_34 : decode cX9_relate 34 = .ok (.iload_n 1, 1) := by decide +kernel
theorem dX9_relate_35 : decode cX9_relate 35 = .ok (.invokevirtual 107, 3) := by decide +kernel
theorem dX9_relate_38 : decode cX9_relate 38 = .ok (.ifCond .eq 6, 3) := by decide +kernel
theorem dX9_relate_41 : decode cX9_relate 41 = .ok (.bipush (-2), 2) := by decide +kernel
theorem dX9_relate_43 : decode cX9_relate 43 = .ok (.ireturn, 1) := by decide +kernel
theorem dX9_relate_44 : decode cX9_relate 44 = .ok (.aload_n 0, 1) := by decide +kernel
theorem dX9_relate_45 : decode cX9_relate 45 = .ok (.getfield 28, 3) := by decide +kernel
theorem dX9_relate_48 : decode cX9_relate 48 = .ok (.aload_n 0, 1) := by decide +kernel
theorem dX9_relate_49 : decode cX9_relate 49 = .ok (.getfield 21, 3) := by decide +kernel
theorem dX9_relate_52 : decode cX9_relate 52 = .ok (.invokevirtual 111, 3) := by decide +kernel
theorem dX9_relate_55 : decode cX9_relate 55 = .ok (.aload_n 0, 1) := by decide +kernel
theorem dX9_relate_56 : decode cX9_relate 56 = .ok (.getfield 21, 3) := by decide +kernel
theorem dX9_relate_59 : decode cX9_relate 59 = .ok (.iload_n 1, 1) := by decide +kernel
theorem dX9_relate_60 : decode cX9_relate 60 = .ok (.iload_n 2, 1) := by decide +kernel
theorem dX9_relate_61 : decode cX9_relate 61 = .ok (.invokevirtual 114, 3) := by decide +kernel
theorem dX9_relate_64 : decode cX9_relate 64 = .ok (.aload_n 0, 1) := by decide +kernel
theorem dX9_relate_65 : decode cX9_relate 65 = .ok (.getfield 21, 3) := by decide +kernel
theorem dX9_relate_68 : decode cX9_relate 68 = .ok (.invokevirtual 118, 3) := by decide +kernel
theorem dX9_relate_71 : decode cX9_relate 71 = .ok (.ireturn, 1) := by decide +kernel
set_option maxRecDepth 20000 in
theorem ggX9_lift_X6_has : GoodIn wsX9_lift wsX6_has := goodIn_r _ [7, 8, 9, 10, 11, 54, 55, 56, 57, 58, 59] (by decide +kernel) (by decide +kernel)
set_option maxRecDepth 20000 in
theorem gX9_lift_X6_has : GoodIn wsX9_lift (wsV RX9 104 RX6 yX6_has wsX6_has) := goodIn_app (goodIn_of _ (by decide +kernel)) ggX9_lift_X6_has
set_option maxRecDepth 20000 in
theorem ggX9_lift_X5_push : GoodIn wsX9_lift wsX5_push := goodIn_r _ [16, 17, 18, 19, 20, 21, 22, 23, 24, 25, 26, 6, 27, 28, 8, 29, 30, 31, 32, 33, 34, 35, 36, 60, 61, 62, 54, 55, 56, 57, 58, 59] (by decide +kernel) (by decide +kernel)
set_option maxRecDepth 20000 in
theorem gX9_lift_X5_push : GoodIn wsX9_lift (wsV RX9 111 RX5 yX5_push wsX5_push) := goodIn_app (goodIn_of _ (by decide +kernel)) ggX9_lift_X5_push
set_option maxRecDepth 20000 in
theorem ggX9_lift_X6_tagOf : GoodIn wsX9_lift wsX6_tagOf := goodIn_r _ [40, 36, 54, 55, 56, 57, 58, 59] (by decide +kernel) (by decide +kernel)
set_option maxRecDepth 20000 in
theorem gX9_lift_X6_tagOf : GoodIn wsX9_lift (wsV RX9 121 RX6 yX6_tagOf wsX6_tagOf) := goodIn_app (goodIn_of _ (by decide +kernel)) ggX9_lift_X6_tagOf
set_option maxRecDepth 20000 in
theorem ggX9_lift_X6_setTag : GoodIn wsX9_lift wsX6_setTag := goodIn_r _ [44, 36, 54, 55, 56, 57, 58, 59] (by decide +kernel) (by decide +kernel)
set_option maxRecDepth 20000 in
theorem gX9_lift_X6_setTag : GoodIn wsX9_lift (wsV RX9 125 RX6 yX6_setTag wsX6_setTag) := goodIn_app (goodIn_of _ (by decide +kernel)) ggX9_lift_X6_setTag
theorem dX9_lift_0 : decode cX9_lift 0 = .ok (.aload_n 0, 1) := by decide +kernel
theorem dX9_lift_1 : decode cX9_lift 1 = .ok (.getfield 21, 3) := by decide +kernel
theorem dX9_lift_4 : decode cX9_lift 4 = .ok (.iload_n 1, 1) := by decide +kernel
theorem dX9_lift_5 : decode cX9_lift 5 = .ok (.invokevirtual 104, 3) := by decide +kernel
theorem dX9_lift_8 : decode cX9_lift 8 = .ok (.ifCond .eq 29, 3) := by decide +kernel
theorem dX9_lift_11 : decode cX9_lift 11 = .ok (.aload_n 0, 1) := by decide +kernel
theorem dX9_lift_12 : decode cX9_lift 12 = .ok (.getfield 21, 3) := by decide +kernel
theorem dX9_lift_15 : decode cX9_lift 15 = .ok (.iload_n 2, 1) := by decide +kernel
theorem dX9_lift_16 : decode cX9_lift 16 = .ok (.invokevirtual 104, 3) := by decide +kernel
theorem dX9_lift_19 : decode cX9_lift 19 = .ok (.ifCond .eq 18, 3) := by decide +kernel
theorem dX9_lift_22 : decode cX9_lift 22 = .ok (.iload_n 1, 1) := by decide +kernel
theorem dX9_lift_23 : decode cX9_lift 23 = .ok (.iload_n 2, 1) := by decide +kernel
theorem dX9_lift_24 : decode cX9_lift 24 = .ok (.if_icmp .eq 13, 3) := by decide +kernel
theorem dX9_lift_27 : decode cX9_lift 27 = .ok (.iload_n 3, 1) := by decide +kernel
theorem dX9_lift_28 : decode cX9_lift 28 = .ok (.ifCond .lt 9, 3) := by decide +kernel
theorem dX9_lift_31 : decode cX9_lift 31 = .ok (.iload_n 3, 1) := by decide +kernel
theorem dX9_lift_32 : decode cX9_lift 32 = .ok (.bipush 99, 2) := by decide +kernel
theorem dX9_lift_34 : decode cX9_lift 34 = .ok (.if_icmp .le 5, 3) := by decide +kernel
theorem dX9_lift_37 : decode cX9_lift 37 = .ok (.iconst (-1), 1) := by decide +kernel
theorem dX9_lift_38 : decode cX9_lift 38 = .ok (.ireturn, 1) := by decide +kernel
theorem dX9_lift_39 : decode cX9_lift 39 = .ok (.aload_n 0, 1) := by decide +kernel
theorem dX9_lift_40 : decode cX9_lift 40 = .ok (.getfield 28, 3) := by decide +kernel
theorem dX9_lift_43 : decode cX9_lift 43 = .ok (.aload_n 0, 1) := by decide +kernel
theorem dX9_lift_44 : decode cX9_lift 44 = .ok (.getfield 21, 3) := by decide +kernel
theorem dX9_lift_47 : decode cX9_lift 47 = .ok (.invokevirtual 111, 3) := by decide +kernel
theorem dX9_lift_50 : decode cX9_lift 50 = .ok (.aload_n 0, 1) := by decide +kernel
theorem dX9_lift_51 : decode cX9_lift 51 = .ok (.getfield 21, 3) := by decide +kernel
theorem dX9_lift_54 : decode cX9_lift 54 = .ok (.iload_n 1, 1) := by decide +kernel
theorem dX9_lift_55 : decode cX9_lift 55 = .ok (.iload_n 2, 1) := by decide +kernel
theorem dX9_lift_56 : decode cX9_lift 56 = .ok (.invokevirtual 121, 3) := by decide +kernel
theorem dX9_lift_59 : decode cX9_lift 59 = .ok (.istore 4, 2) := by decide +kernel
theorem dX9_lift_61 : decode cX9_lift 61 = .ok (.aload_n 0, 1) := by decide +kernel
theorem dX9_lift_62 : decode cX9_lift 62 = .ok (.getfield 21, 3) := by decide +kernel
theorem dX9_lift_65 : decode cX9_lift 65 = .ok (.iload_n 1, 1) := by decide +kernel
theorem dX9_lift_66 : decode cX9_lift 66 = .ok (.iload_n 2, 1) := by decide +kernel
theorem dX9_lift_67 : decode cX9_lift 67 = .ok (.iload_n 3, 1) := by decide +kernel
theorem dX9_lift_68 : decode cX9_lift 68 = .ok (.invokevirtual 125, 3) := by decide +kernel
theorem dX9_lift_71 : decode cX9_lift 71 = .ok (.iload 4, 2) := by decide +kernel
theorem dX9_lift_73 : decode cX9_lift 73 = .ok (.ireturn, 1) := by decide +kernel
set_option maxRecDepth 20000 in
theorem ggX9_rule_X9_isOrder : GoodIn wsX9_rule wsX9_isOrder := goodIn_r _ [8, 2, 9, 37, 38, 39, 40, 41, 42, 43, 44, 45, 46, 47, 48, 49, 50, 51] (by decide +kernel) (by decide +kernel)
set_option maxRecDepth 20000 in
theorem gX9_rule_X9_isOrder : GoodIn wsX9_rule (wsV RX9 129 RX9 yX9_isOrder wsX9_isOrder) := goodIn_app (goodIn_of _ (by decide +kernel)) ggX9_rule_X9_isOrder
set_option maxRecDepth 20000 in
theorem ggX9_rule_X5_push : GoodIn wsX9_rule wsX5_push := goodIn_r _ [14, 15, 16, 17, 18, 19, 20, 21, 22, 23, 24, 25, 26, 27, 28, 29, 30, 31, 32, 33, 34, 35, 36, 52, 53, 54, 46, 47, 48, 49, 50, 51] (by decide +kernel) (by decide +kernel)
set_option maxRecDepth 20000 in
theorem gX9_rule_X5_push : GoodIn wsX9_rule (wsV RX9 111 RX5 yX5_push wsX5_push) := goodIn_app (goodIn_of _ (by decide +kernel)) ggX9_rule_X5_push
theorem dX9_rule_0 : decode cX9_rule 0 = .ok (.aload_n 0, 1) := by decide +kernel
theorem dX9_rule_1 : decode cX9_rule 1 = .ok (.invokevirtual 129, 3) := by decide +kernel
theorem dX9_rule_4 : decode cX9_rule 4 = .ok (.ifCond .eq 12, 3) := by decide +kernel
theorem dX9_rule_7 : decode cX9_rule 7 = .ok (.iload_n 1, 1) := by decide +kernel
theorem dX9_rule_8 : decode cX9_rule 8 = .ok (.ifCond .lt 8, 3) := by decide +kernel
theorem dX9_rule_11 : decode cX9_rule 11 = .ok (.iload_n 1, 1) := by decide +kernel
theorem dX9_rule_12 : decode cX9_rule 12 = .ok (.iconst 3, 1) := by decide +kernel
theorem dX9_rule_13 : decode cX9_rule 13 = .ok (.if_icmp .le 5, 3) := by decide +kernel
theorem dX9_rule_16 : decode cX9_rule 16 = .ok (.iconst (-1), 1) := by decide +kernel
theorem dX9_rule_17 : decode cX9_rule 17 = .ok (.ireturn, 1) := by decide +kernel
theorem dX9_rule_18 : decode cX9_rule 18 = .ok (.aload_n 0, 1) := by decide +kernel
theorem dX9_rule_19 : decode cX9_rule 19 = .ok (.getfield 28, 3) := by decide +kernel
theorem dX9_rule_22 : decode cX9_rule 22 = .ok (.aload_n 0, 1) := by decide +kernel
theorem dX9_rule_23 : decode cX9_rule 23 = .ok (.getfield 21, 3) := by decide +kernel
theorem dX9_rule_26 : decode cX9_rule 26 = .ok (.invokevirtual 111, 3) := by decide +kernel
theorem dX9_rule_29 : decode cX9_rule 29 = .ok (.aload_n 0, 1) := by decide +kernel
theorem dX9_rule_30 : decode cX9_rule 30 = .ok (.getfield 21, 3) := by decide +kernel
theorem dX9_rule_33 : decode cX9_rule 33 = .ok (.getfield 133, 3) := by decide +kernel
theorem dX9_rule_36 : decode cX9_rule 36 = .ok (.istore_n 2, 1) := by decide +kernel
theorem dX9_rule_37 : decode cX9_rule 37 = .ok (.aload_n 0, 1) := by decide +kernel
theorem dX9_rule_38 : decode cX9_rule 38 = .ok (.getfield 21, 3) := by decide +kernel
theorem dX9_rule_41 : decode cX9_rule 41 = .ok (.iload_n 1, 1) := by decide +kernel
theorem dX9_rule_42 : decode cX9_rule 42 = .ok (.putfield 133, 3) := by decide +kernel
theorem dX9_rule_45 : decode cX9_rule 45 = .ok (.iload_n 2, 1) := by decide +kernel
theorem dX9_rule_46 : decode cX9_rule 46 = .ok (.ireturn, 1) := by decide +kernel
set_option maxRecDepth 20000 in
theorem ggX9_drop_X6_has : GoodIn wsX9_drop wsX6_has := goodIn_r _ [8, 9, 10, 11, 12, 59, 60, 61, 62, 63, 64] (by decide +kernel) (by decide +kernel)
set_option maxRecDepth 20000 in
theorem gX9_drop_X6_has : GoodIn wsX9_drop (wsV RX9 104 RX6 yX6_has wsX6_has) := goodIn_app (goodIn_of _ (by decide +kernel)) ggX9_drop_X6_has
set_option maxRecDepth 20000 in
theorem ggX9_drop_J6_bitCount_0f7a4 : GoodIn wsX9_drop wsJ6_bitCount_0f7a4 := goodIn_r _ [16, 17, 18, 19] (by decide +kernel) (by decide +kernel)
set_option maxRecDepth 20000 in
theorem gX9_drop_J6_bitCount_0f7a4 : GoodIn wsX9_drop (va_wsS RX9 139 yJ6_bitCount_0f7a4 wsJ6_bitCount_0f7a4) := goodIn_app (goodIn_of _ (by decide +kernel)) ggX9_drop_J6_bitCount_0f7a4
set_option maxRecDepth 20000 in
theorem ggX9_drop_X5_push : GoodIn wsX9_drop wsX5_push := goodIn_r _ [24, 25, 26, 27, 28, 29, 30, 31, 32, 33, 34, 7, 35, 36, 9, 37, 38, 39, 40, 41, 42, 43, 44, 65, 66, 67, 59, 60, 61, 62, 63, 64] (by decide +kernel) (by decide +kernel)
set_option maxRecDepth 20000 in
theorem gX9_drop_X5_push : GoodIn wsX9_drop (wsV RX9 111 RX5 yX5_push wsX5_push) := goodIn_app (goodIn_of _ (by decide +kernel)) ggX9_drop_X5_push
set_option maxRecDepth 20000 in
theorem ggX9_drop_X6_takeAway : GoodIn wsX9_drop wsX6_takeAway := goodIn_r _ [48, 9, 38, 43, 49, 5, 6, 7, 8, 10, 11, 12, 59, 60, 61, 62, 63, 64] (by decide +kernel) (by decide +kernel)
set_option maxRecDepth 20000 in
theorem gX9_drop_X6_takeAway : GoodIn wsX9_drop (wsV RX9 142 RX6 yX6_takeAway wsX6_takeAway) := goodIn_app (goodIn_of _ (by decide +kernel)) ggX9_drop_X6_takeAway
theorem dX9_drop_0 : decode cX9_drop 0 = .ok (.aload_n 0, 1) := by decide +kernel
theorem dX9_drop_1 : decode cX9_drop 1 = .ok (.getfield 21, 3) := by decide +kernel
theorem dX9_drop_4 : decode cX9_drop 4 = .ok (.iload_n 1, 1) := by decide +kernel
theorem dX9_drop_5 : decode cX9_drop 5 = .ok (.invokevirtual 104, 3) := by decide +kernel
theorem dX9_drop_8 : decode cX9_drop 8 = .ok (.ifCond .ne 5, 3) := by decide +kernel
theorem dX9_drop_11 : decode cX9_drop 11 = .ok (.iconst (-1), 1) := by decide +kernel
theorem dX9_drop_12 : decode cX9_drop 12 = .ok (.ireturn, 1) := by decide +kernel
theorem dX9_drop_13 : decode cX9_drop 13 = .ok (.aload_n 0, 1) := by decide +kernel
theorem dX9_drop_14 : decode cX9_drop 14 = .ok (.getfield 21, 3) := by decide +kernel
theorem dX9_drop_17 : decode cX9_drop 17 = .ok (.getfield 136, 3) := by decide +kernel
theorem dX9_drop_20 : decode cX9_drop 20 = .ok (.invokestatic 139, 3) := by decide +kernel
theorem dX9_drop_23 : decode cX9_drop 23 = .ok (.iconst 1, 1) := by decide +kernel
theorem dX9_drop_24 : decode cX9_drop 24 = .ok (.isub, 1) := by decide +kernel
theorem dX9_drop_25 : decode cX9_drop 25 = .ok (.istore_n 2, 1) := by decide +kernel
theorem dX9_drop_26 : decode cX9_drop 26 = .ok (.iload_n 2, 1) := by decide +kernel
theorem dX9_drop_27 : decode cX9_drop 27 = .ok (.ifCond .ne 6, 3) := by decide +kernel
theorem dX9_drop_30 : decode cX9_drop 30 = .ok (.bipush (-2), 2) := by decide +kernel
theorem dX9_drop_32 : decode cX9_drop 32 = .ok (.ireturn, 1) := by decide +kernel
theorem dX9_drop_33 : decode cX9_drop 33 = .ok (.aload_n 0, 1) := by decide +kernel
theorem dX9_drop_34 : decode cX9_drop 34 = .ok (.getfield 28, 3) := by decide +kernel
theorem dX9_drop_37 : decode cX9_drop 37 = .ok (.aload_n 0, 1) := by decide +kernel
theorem dX9_drop_38 : decode cX9_drop 38 = .ok (.getfield 21, 3) := by decide +kernel
theorem dX9_drop_41 : decode cX9_drop 41 = .ok (.invokevirtual 111, 3) := by decide +kernel
theorem dX9_drop_44 : decode cX9_drop 44 = .ok (.aload_n 0, 1) := by decide +kernel
theorem dX9_drop_45 : decode cX9_drop 45 = .ok (.getfield 21, 3) := by decide +kernel
theorem dX9_drop_48 : decode cX9_drop 48 = .ok (.iload_n 1, 1) := by decide +kernel
theorem dX9_drop_49 : decode cX9_drop 49 = .ok (.invokevirtual 142, 3) := by decide +kernel
theorem dX9_drop_52 : decode cX9_drop 52 = .ok (.iload_n 2, 1) := by decide +kernel
theorem dX9_drop_53 : decode cX9_drop 53 = .ok (.ireturn, 1) := by decide +kernel
set_option maxRecDepth 20000 in
theorem ggX9_undo_X9_isOrder : GoodIn wsX9_undo wsX9_isOrder := goodIn_r _ [8, 2, 9, 33, 34, 35, 36, 37, 38, 39, 40, 41, 45, 46, 47, 48, 49, 50] (by decide +kernel) (by decide +kernel)
set_option maxRecDepth 20000 in
theorem gX9_undo_X9_isOrder : GoodIn wsX9_undo (wsV RX9 129 RX9 yX9_isOrder wsX9_isOrder) := goodIn_app (goodIn_of _ (by decide +kernel)) ggX9_undo_X9_isOrder
set_option maxRecDepth 20000 in
theorem ggX9_undo_X5_pop : GoodIn wsX9_undo wsX5_pop := goodIn_r _ [14, 15, 16, 17, 18, 19, 20, 21, 22, 23, 24, 25, 26, 27, 28, 29, 30, 31, 32, 42, 43, 44, 45, 46, 47, 48, 49, 50] (by decide +kernel) (by decide +kernel)
set_option maxRecDepth 20000 in
theorem gX9_undo_X5_pop : GoodIn wsX9_undo (wsV RX9 145 RX5 yX5_pop wsX5_pop) := goodIn_app (goodIn_of _ (by decide +kernel)) ggX9_undo_X5_pop
theorem dX9_undo_0 : decode cX9_undo 0 = .ok (.aload_n 0, 1) := by decide +kernel
theorem dX9_undo_1 : decode cX9_undo 1 = .ok (.invokevirtual 129, 3) := by decide +kernel
theorem dX9_undo_4 : decode cX9_undo 4 = .ok (.ifCond .ne 5, 3) := by decide +kernel
theorem dX9_undo_7 : decode cX9_undo 7 = .ok (.iconst (-1), 1) := by decide +kernel
theorem dX9_undo_8 : decode cX9_undo 8 = .ok (.ireturn, 1) := by decide +kernel
theorem dX9_undo_9 : decode cX9_undo 9 = .ok (.aload_n 0, 1) := by decide +kernel
theorem dX9_undo_10 : decode cX9_undo 10 = .ok (.getfield 28, 3) := by decide +kernel
theorem dX9_undo_13 : decode cX9_undo 13 = .ok (.aload_n 0, 1) := by decide +kernel
theorem dX9_undo_14 : decode cX9_undo 14 = .ok (.getfield 21, 3) := by decide +kernel
theorem dX9_undo_17 : decode cX9_undo 17 = .ok (.invokevirtual 145, 3) := by decide +kernel
theorem dX9_undo_20 : decode cX9_undo 20 = .ok (.ifCond .eq 13, 3) := by decide +kernel
theorem dX9_undo_23 : decode cX9_undo 23 = .ok (.aload_n 0, 1) := by decide +kernel
theorem dX9_undo_24 : decode cX9_undo 24 = .ok (.getfield 28, 3) := by decide +kernel
theorem dX9_undo_27 : decode cX9_undo 27 = .ok (.getfield 149, 3) := by decide +kernel
theorem dX9_undo_30 : decode cX9_undo 30 = .ok (.goto 5, 3) := by decide +kernel
theorem dX9_undo_33 : decode cX9_undo 33 = .ok (.bipush (-2), 2) := by decide +kernel
theorem dX9_undo_35 : decode cX9_undo 35 = .ok (.ireturn, 1) := by decide +kernel
set_option maxRecDepth 20000 in
theorem ggX9_keep_X9_isOrder : GoodIn wsX9_keep wsX9_isOrder := goodIn_r _ [7, 2, 8, 24, 25, 26, 27, 28, 29, 30, 31, 32, 33, 34, 35, 36, 37, 38] (by decide +kernel) (by decide +kernel)
set_option maxRecDepth 20000 in
theorem gX9_keep_X9_isOrder : GoodIn wsX9_keep (wsV RX9 129 RX9 yX9_isOrder wsX9_isOrder) := goodIn_app (goodIn_of _ (by decide +kernel)) ggX9_keep_X9_isOrder
set_option maxRecDepth 20000 in
theorem ggX9_keep_X6_copy : GoodIn wsX9_keep wsX6_copy := goodIn_r _ [13, 14, 15, 16, 17, 18, 19, 20, 21, 22, 23, 33, 34, 35, 36, 37, 38] (by decide +kernel) (by decide +kernel)
set_option maxRecDepth 20000 in
theorem gX9_keep_X6_copy : GoodIn wsX9_keep (wsV RX9 86 RX6 yX6_copy wsX6_copy) := goodIn_app (goodIn_of _ (by decide +kernel)) ggX9_keep_X6_copy
theorem dX9_keep_0 : decode cX9_keep 0 = .ok (.aload_n 0, 1) := by decide +kernel
theorem dX9_keep_1 : decode cX9_keep 1 = .ok (.invokevirtual 129, 3) := by decide +kernel
theorem dX9_keep_4 : decode cX9_keep 4 = .ok (.ifCond .eq 12, 3) := by decide +kernel
theorem dX9_keep_7 : decode cX9_keep 7 = .ok (.iload_n 1, 1) := by decide +kernel
theorem dX9_keep_8 : decode cX9_keep 8 = .ok (.ifCond .lt 8, 3) := by decide +kernel
theorem dX9_keep_11 : decode cX9_keep 11 = .ok (.iload_n 1, 1) := by decide +kernel
theorem dX9_keep_12 : decode cX9_keep 12 = .ok (.iconst 2, 1) := by decide +kernel
theorem dX9_keep_13 : decode cX9_keep 13 = .ok (.if_icmp .lt 5, 3) := by decide +kernel
theorem dX9_keep_16 : decode cX9_keep 16 = .ok (.iconst 0, 1) := by decide +kernel
theorem dX9_keep_17 : decode cX9_keep 17 = .ok (.ireturn, 1) := by decide +kernel
theorem dX9_keep_18 : decode cX9_keep 18 = .ok (.aload_n 0, 1) := by decide +kernel
theorem dX9_keep_19 : decode cX9_keep 19 = .ok (.getfield 32, 3) := by decide +kernel
theorem dX9_keep_22 : decode cX9_keep 22 = .ok (.iload_n 1, 1) := by decide +kernel
theorem dX9_keep_23 : decode cX9_keep 23 = .ok (.aaload, 1) := by decide +kernel
theorem dX9_keep_24 : decode cX9_keep 24 = .ok (.aload_n 0, 1) := by decide +kernel
theorem dX9_keep_25 : decode cX9_keep 25 = .ok (.getfield 21, 3) := by decide +kernel
theorem dX9_keep_28 : decode cX9_keep 28 = .ok (.invokevirtual 86, 3) := by decide +kernel
theorem dX9_keep_31 : decode cX9_keep 31 = .ok (.iconst 1, 1) := by decide +kernel
theorem dX9_keep_32 : decode cX9_keep 32 = .ok (.ireturn, 1) := by decide +kernel
set_option maxRecDepth 20000 in
theorem ggX9_again_X9_isKept : GoodIn wsX9_again wsX9_isKept := goodIn_r _ [8, 3, 9, 38, 39, 40, 41, 42, 43, 44, 45, 46, 47, 48, 49, 50, 51, 52] (by decide +kernel) (by decide +kernel)
set_option maxRecDepth 20000 in
theorem gX9_again_X9_isKept : GoodIn wsX9_again (wsV RX9 152 RX9 yX9_isKept wsX9_isKept) := goodIn_app (goodIn_of _ (by decide +kernel)) ggX9_again_X9_isKept
set_option maxRecDepth 20000 in
theorem ggX9_again_X5_push : GoodIn wsX9_again wsX5_push := goodIn_r _ [14, 15, 16, 17, 18, 19, 20, 21, 22, 23, 24, 25, 26, 27, 28, 29, 30, 31, 32, 33, 34, 35, 36, 53, 54, 55, 47, 48, 49, 50, 51, 52] (by decide +kernel) (by decide +kernel)
set_option maxRecDepth 20000 in
theorem gX9_again_X5_push : GoodIn wsX9_again (wsV RX9 111 RX5 yX5_push wsX5_push) := goodIn_app (goodIn_of _ (by decide +kernel)) ggX9_again_X5_push
set_option maxRecDepth 20000 in
theorem ggX9_again_X6_copy : GoodIn wsX9_again wsX6_copy := goodIn_r _ [26, 27, 28, 29, 30, 31, 32, 33, 34, 35, 36, 47, 48, 49, 50, 51, 52] (by decide +kernel) (by decide +kernel)
set_option maxRecDepth 20000 in
theorem gX9_again_X6_copy : GoodIn wsX9_again (wsV RX9 86 RX6 yX6_copy wsX6_copy) := goodIn_app (goodIn_of _ (by decide +kernel)) ggX9_again_X6_copy
theorem dX9_again_0 : decode cX9_again 0 = .ok (.aload_n 0, 1) := by decide +kernel
theorem dX9_again_1 : decode cX9_again 1 = .ok (.iload_n 1, 1) := by decide +kernel
theorem dX9_again_2 : decode cX9_again 2 = .ok (.invokevirtual 152, 3) := by decide +kernel
theorem dX9_again_5 : decode cX9_again 5 = .ok (.ifCond .ne 5, 3) := by decide +kernel
theorem dX9_again_8 : decode cX9_again 8 = .ok (.iconst 0, 1) := by decide +kernel
theorem dX9_again_9 : decode cX9_again 9 = .ok (.ireturn, 1) := by decide +kernel
theorem dX9_again_10 : decode cX9_again 10 = .ok (.aload_n 0, 1) := by decide +kernel
theorem dX9_again_11 : decode cX9_again 11 = .ok (.getfield 28, 3) := by decide +kernel
theorem dX9_again_14 : decode cX9_again 14 = .ok (.aload_n 0, 1) := by decide +kernel
theorem dX9_again_15 : decode cX9_again 15 = .ok (.getfield 21, 3) := by decide +kernel
theorem dX9_again_18 : decode cX9_again 18 = .ok (.invokevirtual 111, 3) := by decide +kernel
theorem dX9_again_21 : decode cX9_again 21 = .ok (.aload_n 0, 1) := by decide +kernel
theorem dX9_again_22 : decode cX9_again 22 = .ok (.getfield 21, 3) := by decide +kernel
theorem dX9_again_25 : decode cX9_again 25 = .ok (.aload_n 0, 1) := by decide +kernel
theorem dX9_again_26 : decode cX9_again 26 = .ok (.getfield 32, 3) := by decide +kernel
theorem dX9_again_29 : decode cX9_again 29 = .ok (.iload_n 1, 1) := by decide +kernel
theorem dX9_again_30 : decode cX9_again 30 = .ok (.aaload, 1) := by decide +kernel
theorem dX9_again_31 : decode cX9_again 31 = .ok (.invokevirtual 86, 3) := by decide +kernel
theorem dX9_again_34 : decode cX9_again 34 = .ok (.iconst 1, 1) := by decide +kernel
theorem dX9_again_35 : decode cX9_again 35 = .ok (.ireturn, 1) := by decide +kernel
set_option maxRecDepth 20000 in
theorem ggX9_of_X6_has : GoodIn wsX9_of wsX6_has := goodIn_r _ [11, 12, 13, 14, 15, 39, 40, 41, 42, 43, 44] (by decide +kernel) (by decide +kernel)
set_option maxRecDepth 20000 in
theorem gX9_of_X6_has : GoodIn wsX9_of (wsV RX9 104 RX6 yX6_has wsX6_has) := goodIn_app (goodIn_of _ (by decide +kernel)) ggX9_of_X6_has
set_option maxRecDepth 20000 in
theorem ggX9_of_X6_coverers : GoodIn wsX9_of wsX6_coverers := goodIn_r _ [19, 20, 21, 22, 8, 9, 10, 11, 12, 13, 14, 15, 23, 24, 25, 39, 40, 41, 42, 43, 44] (by decide +kernel) (by decide +kernel)
set_option maxRecDepth 20000 in
theorem gX9_of_X6_coverers : GoodIn wsX9_of (wsV RX9 165 RX6 yX6_coverers wsX6_coverers) := goodIn_app (goodIn_of _ (by decide +kernel)) ggX9_of_X6_coverers
set_option maxRecDepth 20000 in
theorem ggX9_of_X6_covered : GoodIn wsX9_of wsX6_covered := goodIn_r _ [29, 21, 20, 22, 8, 9, 10, 11, 12, 13, 14, 15, 23, 24, 25, 39, 40, 41, 42, 43, 44] (by decide +kernel) (by decide +kernel)
set_option maxRecDepth 20000 in
theorem gX9_of_X6_covered : GoodIn wsX9_of (wsV RX9 168 RX6 yX6_covered wsX6_covered) := goodIn_app (goodIn_of _ (by decide +kernel)) ggX9_of_X6_covered
theorem dX9_of_0 : decode cX9_of 0 = .ok (.aload_n 0, 1) := by decide +kernel
theorem dX9_of_1 : decode cX9_of 1 = .ok (.getfield 21, 3) := by decide +kernel
theorem dX9_of_4 : decode cX9_of 4 = .ok (.iload_n 1, 1) := by decide +kernel
theorem dX9_of_5 : decode cX9_of 5 = .ok (.invokevirtual 104, 3) := by decide +kernel
theorem dX9_of_8 : decode cX9_of 8 = .ok (.ifCond .eq 12, 3) := by decide +kernel
theorem dX9_of_11 : decode cX9_of 11 = .ok (.iload_n 2, 1) := by decide +kernel
theorem dX9_of_12 : decode cX9_of 12 = .ok (.ifCond .lt 8, 3) := by decide +kernel
theorem dX9_of_15 : decode cX9_of 15 = .ok (.iload_n 2, 1) := by decide +kernel
theorem dX9_of_16 : decode cX9_of 16 = .ok (.iconst 3, 1) := by decide +kernel
theorem dX9_of_17 : decode cX9_of 17 = .ok (.if_icmp .le 11, 3) := by decide +kernel
theorem dX9_of_20 : decode cX9_of 20 = .ok (.new 155, 3) := by decide +kernel
theorem dX9_of_23 : decode cX9_of 23 = .ok (.dup, 1) := by decide +kernel
theorem dX9_of_24 : decode cX9_of 24 = .ok (.invokespecial 157, 3) := by decide +kernel
theorem dX9_of_27 : decode cX9_of 27 = .ok (.athrow, 1) := by decide +kernel
theorem dX9_of_28 : decode cX9_of 28 = .ok (.iload_n 2, 1) := by decide +kernel
theorem dX9_of_29 : decode cX9_of 29 = .ok (.tableswitch 63 0 2 #[27, 37, 47], 27) := by decide +kernel
theorem dX9_of_56 : decode cX9_of 56 = .ok (.aload_n 0, 1) := by decide +kernel
theorem dX9_of_57 : decode cX9_of 57 = .ok (.getfield 21, 3) := by decide +kernel
theorem dX9_of_60 : decode cX9_of 60 = .ok (.getfield 158, 3) := by decide +kernel
theorem dX9_of_63 : decode cX9_of 63 = .ok (.iload_n 1, 1) := by decide +kernel
theorem dX9_of_64 : decode cX9_of 64 = .ok (.iaload, 1) := by decide +kernel
theorem dX9_of_65 : decode cX9_of 65 = .ok (.ireturn, 1) := by decide +kernel
theorem dX9_of_66 : decode cX9_of 66 = .ok (.aload_n 0, 1) := by decide +kernel
theorem dX9_of_67 : decode cX9_of 67 = .ok (.getfield 21, 3) := by decide +kernel
theorem dX9_of_70 : decode cX9_of 70 = .ok (.getfield 162, 3) := by decide +kernel
theorem dX9_of_73 : decode cX9_of 73 = .ok (.iload_n 1, 1) := by decide +kernel
theorem dX9_of_74 : decode cX9_of 74 = .ok (.iaload, 1) := by decide +kernel
theorem dX9_of_75 : decode cX9_of 75 = .ok (.ireturn, 1) := by decide +kernel
theorem dX9_of_76 : decode cX9_of 76 = .ok (.aload_n 0, 1) := by decide +kernel
theorem dX9_of_77 : decode cX9_of 77 = .ok (.getfield 21, 3) := by decide +kernel
theorem dX9_of_80 : decode cX9_of 80 = .ok (.iload_n 1, 1) := by decide +kernel
theorem dX9_of_81 : decode cX9_of 81 = .ok (.aload_n 0, 1) := by decide +kernel
theorem dX9_of_82 : decode cX9_of 82 = .ok (.getfield 21, 3) := by decide +kernel
theorem dX9_of_85 : decode cX9_of 85 = .ok (.getfield 136, 3) := by decide +kernel
theorem dX9_of_88 : decode cX9_of 88 = .ok (.invokevirtual 165, 3) := by decide +kernel
theorem dX9_of_91 : decode cX9_of 91 = .ok (.ireturn, 1) := by decide +kernel
theorem dX9_of_92 : decode cX9_of 92 = .ok (.aload_n 0, 1) := by decide +kernel
theorem dX9_of_93 : decode cX9_of 93 = .ok (.getfield 21, 3) := by decide +kernel
theorem dX9_of_96 : decode cX9_of 96 = .ok (.iload_n 1, 1) := by decide +kernel
theorem dX9_of_97 : decode cX9_of 97 = .ok (.aload_n 0, 1) := by decide +kernel
theorem dX9_of_98 : decode cX9_of 98 = .ok (.getfield 21, 3) := by decide +kernel
theorem dX9_of_101 : decode cX9_of 101 = .ok (.getfield 136, 3) := by decide +kernel
theorem dX9_of_104 : decode cX9_of 104 = .ok (.invokevirtual 168, 3) := by decide +kernel
theorem dX9_of_107 : decode cX9_of 107 = .ok (.ireturn, 1) := by decide +kernel
set_option maxRecDepth 20000 in
theorem ggX9_label_X6_has : GoodIn wsX9_label wsX6_has := goodIn_r _ [6, 7, 8, 9, 10, 52, 53, 54, 55, 56, 57] (by decide +kernel) (by decide +kernel)
set_option maxRecDepth 20000 in
theorem gX9_label_X6_has : GoodIn wsX9_label (wsV RX9 104 RX6 yX6_has wsX6_has) := goodIn_app (goodIn_of _ (by decide +kernel)) ggX9_label_X6_has
set_option maxRecDepth 20000 in
theorem ggX9_label_X6_isEdge : GoodIn wsX9_label wsX6_isEdge := goodIn_r _ [14, 15, 16, 17, 5, 18, 19, 20, 3, 4, 6, 7, 8, 9, 10, 21, 22, 23, 24, 25, 52, 53, 54, 55, 56, 57] (by decide +kernel) (by decide +kernel)
set_option maxRecDepth 20000 in
theorem gX9_label_X6_isEdge : GoodIn wsX9_label (wsV RX9 171 RX6 yX6_isEdge wsX6_isEdge) := goodIn_app (goodIn_of _ (by decide +kernel)) ggX9_label_X6_isEdge
set_option maxRecDepth 20000 in
theorem ggX9_label_X6_edgeLabel : GoodIn wsX9_label wsX6_edgeLabel := goodIn_r _ [29, 30, 31, 32, 33, 34, 35, 36, 37, 38, 39, 40, 5, 41, 42, 52, 53, 54, 55, 56, 57] (by decide +kernel) (by decide +kernel)
set_option maxRecDepth 20000 in
theorem gX9_label_X6_edgeLabel : GoodIn wsX9_label (wsV RX9 174 RX6 yX6_edgeLabel wsX6_edgeLabel) := goodIn_app (goodIn_of _ (by decide +kernel)) ggX9_label_X6_edgeLabel
theorem dX9_label_0 : decode cX9_label 0 = .ok (.aload_n 0, 1) := by decide +kernel
theorem dX9_label_1 : decode cX9_label 1 = .ok (.getfield 21, 3) := by decide +kernel
theorem dX9_label_4 : decode cX9_label 4 = .ok (.iload_n 1, 1) := by decide +kernel
theorem dX9_label_5 : decode cX9_label 5 = .ok (.invokevirtual 104, 3) := by decide +kernel
theorem dX9_label_8 : decode cX9_label 8 = .ok (.ifCond .eq 14, 3) := by decide +kernel
theorem dX9_label_11 : decode cX9_label 11 = .ok (.aload_n 0, 1) := by decide +kernel
theorem dX9_label_12 : decode cX9_label 12 = .ok (.getfield 21, 3) := by decide +kernel
theorem dX9_label_15 : decode cX9_label 15 = .ok (.iload_n 2, 1) := by decide +kernel
theorem dX9_label_16 : decode cX9_label 16 = .ok (.invokevirtual 104, 3) := by decide +kernel
theorem dX9_label_19 : decode cX9_label 19 = .ok (.ifCond .ne 5, 3) := by decide +kernel
theorem dX9_label_22 : decode cX9_label 22 = .ok (.iconst (-1), 1) := by decide +kernel
theorem dX9_label_23 : decode cX9_label 23 = .ok (.ireturn, 1) := by decide +kernel
theorem dX9_label_24 : decode cX9_label 24 = .ok (.aload_n 0, 1) := by decide +kernel
theorem dX9_label_25 : decode cX9_label 25 = .ok (.getfield 21, 3) := by decide +kernel
theorem dX9_label_28 : decode cX9_label 28 = .ok (.iload_n 1, 1) := by decide +kernel
theorem dX9_label_29 : decode cX9_label 29 = .ok (.iload_n 2, 1) := by decide +kernel
theorem dX9_label_30 : decode cX9_label 30 = .ok (.invokevirtual 171, 3) := by decide +kernel
theorem dX9_label_33 : decode cX9_label 33 = .ok (.ifCond .eq 15, 3) := by decide +kernel
theorem dX9_label_36 : decode cX9_label 36 = .ok (.aload_n 0, 1) := by decide +kernel
theorem dX9_label_37 : decode cX9_label 37 = .ok (.getfield 21, 3) := by decide +kernel
theorem dX9_label_40 : decode cX9_label 40 = .ok (.iload_n 1, 1) := by decide +kernel
theorem dX9_label_41 : decode cX9_label 41 = .ok (.iload_n 2, 1) := by decide +kernel
theorem dX9_label_42 : decode cX9_label 42 = .ok (.invokevirtual 174, 3) := by decide +kernel
theorem dX9_label_45 : decode cX9_label 45 = .ok (.goto 5, 3) := by decide +kernel
theorem dX9_label_48 : decode cX9_label 48 = .ok (.bipush (-2), 2) := by decide +kernel
theorem dX9_label_50 : decode cX9_label 50 = .ok (.ireturn, 1) := by decide +kernel
set_option maxRecDepth 20000 in
theorem ggX9_height_X6_has : GoodIn wsX9_height wsX6_has := goodIn_r _ [9, 10, 11, 12, 13, 44, 45, 46, 47, 48, 49] (by decide +kernel) (by decide +kernel)
set_option maxRecDepth 20000 in
theorem gX9_height_X6_has : GoodIn wsX9_height (wsV RX9 104 RX6 yX6_has wsX6_has) := goodIn_app (goodIn_of _ (by decide +kernel)) ggX9_height_X6_has
set_option maxRecDepth 20000 in
theorem ggX9_height_X8_measure : GoodIn wsX9_height wsX8_measure := goodIn_r _ [18, 19, 20, 21, 22, 23, 24, 25, 26, 27, 28, 8, 29, 10, 30, 31, 32, 33, 34, 11, 12, 13, 50, 51, 52, 53, 54, 44, 45, 46, 47, 48, 49] (by decide +kernel) (by decide +kernel)
set_option maxRecDepth 20000 in
theorem gX9_height_X8_measure : GoodIn wsX9_height (wsV RX9 177 RX8 yX8_measure wsX8_measure) := goodIn_app (goodIn_of _ (by decide +kernel)) ggX9_height_X8_measure
theorem dX9_height_0 : decode cX9_height 0 = .ok (.aload_n 0, 1) := by decide +kernel
theorem dX9_height_1 : decode cX9_height 1 = .ok (.getfield 21, 3) := by decide +kernel
theorem dX9_height_4 : decode cX9_height 4 = .ok (.iload_n 1, 1) := by decide +kernel
theorem dX9_height_5 : decode cX9_height 5 = .ok (.invokevirtual 104, 3) := by decide +kernel
theorem dX9_height_8 : decode cX9_height 8 = .ok (.ifCond .ne 5, 3) := by decide +kernel
theorem dX9_height_11 : decode cX9_height 11 = .ok (.iconst (-1), 1) := by decide +kernel
theorem dX9_height_12 : decode cX9_height 12 = .ok (.ireturn, 1) := by decide +kernel
theorem dX9_height_13 : decode cX9_height 13 = .ok (.aload_n 0, 1) := by decide +kernel
theorem dX9_height_14 : decode cX9_height 14 = .ok (.getfield 46, 3) := by decide +kernel
theorem dX9_height_17 : decode cX9_height 17 = .ok (.aload_n 0, 1) := by decide +kernel
theorem dX9_height_18 : decode cX9_height 18 = .ok (.getfield 21, 3) := by decide +kernel
theorem dX9_height_21 : decode cX9_height 21 = .ok (.aload_n 0, 1) := by decide +kernel
theorem dX9_height_22 : decode cX9_height 22 = .ok (.getfield 21, 3) := by decide +kernel
theorem dX9_height_25 : decode cX9_height 25 = .ok (.getfield 136, 3) := by decide +kernel
theorem dX9_height_28 : decode cX9_height 28 = .ok (.invokevirtual 177, 3) := by decide +kernel
theorem dX9_height_31 : decode cX9_height 31 = .ok (.aload_n 0, 1) := by decide +kernel
theorem dX9_height_32 : decode cX9_height 32 = .ok (.getfield 46, 3) := by decide +kernel
theorem dX9_height_35 : decode cX9_height 35 = .ok (.getfield 181, 3) := by decide +kernel
theorem dX9_height_38 : decode cX9_height 38 = .ok (.iload_n 1, 1) := by decide +kernel
theorem dX9_height_39 : decode cX9_height 39 = .ok (.iaload, 1) := by decide +kernel
theorem dX9_height_40 : decode cX9_height 40 = .ok (.ireturn, 1) := by decide +kernel
set_option maxRecDepth 20000 in
theorem ggX9_join_X6_has : GoodIn wsX9_join wsX6_has := goodIn_r _ [6, 7, 8, 9, 10, 31, 32, 33, 34, 35, 36] (by decide +kernel) (by decide +kernel)
set_option maxRecDepth 20000 in
theorem gX9_join_X6_has : GoodIn wsX9_join (wsV RX9 104 RX6 yX6_has wsX6_has) := goodIn_app (goodIn_of _ (by decide +kernel)) ggX9_join_X6_has
set_option maxRecDepth 20000 in
theorem ggX9_join_X6_atLeast : GoodIn wsX9_join wsX6_atLeast := goodIn_r _ [14, 15, 16, 3, 4, 5, 6, 7, 8, 9, 10, 31, 32, 33, 34, 35, 36] (by decide +kernel) (by decide +kernel)
set_option maxRecDepth 20000 in
theorem gX9_join_X6_atLeast : GoodIn wsX9_join (wsV RX9 184 RX6 yX6_atLeast wsX6_atLeast) := goodIn_app (goodIn_of _ (by decide +kernel)) ggX9_join_X6_atLeast
set_option maxRecDepth 20000 in
theorem ggX9_join_X6_leastOf : GoodIn wsX9_join wsX6_leastOf := goodIn_r _ [20, 8, 9, 10, 21, 12, 13, 5, 14, 15, 16, 3, 4, 6, 7, 31, 32, 33, 34, 35, 36] (by decide +kernel) (by decide +kernel)
set_option maxRecDepth 20000 in
theorem gX9_join_X6_leastOf : GoodIn wsX9_join (wsV RX9 187 RX6 yX6_leastOf wsX6_leastOf) := goodIn_app (goodIn_of _ (by decide +kernel)) ggX9_join_X6_leastOf
theorem dX9_join_0 : decode cX9_join 0 = .ok (.aload_n 0, 1) := by decide +kernel
theorem dX9_join_1 : decode cX9_join 1 = .ok (.getfield 21, 3) := by decide +kernel
theorem dX9_join_4 : decode cX9_join 4 = .ok (.iload_n 1, 1) := by decide +kernel
theorem dX9_join_5 : decode cX9_join 5 = .ok (.invokevirtual 104, 3) := by decide +kernel
theorem dX9_join_8 : decode cX9_join 8 = .ok (.ifCond .eq 14, 3) := by decide +kernel
theorem dX9_join_11 : decode cX9_join 11 = .ok (.aload_n 0, 1) := by decide +kernel
theorem dX9_join_12 : decode cX9_join 12 = .ok (.getfield 21, 3) := by decide +kernel
theorem dX9_join_15 : decode cX9_join 15 = .ok (.iload_n 2, 1) := by decide +kernel
theorem dX9_join_16 : decode cX9_join 16 = .ok (.invokevirtual 104, 3) := by decide +kernel
theorem dX9_join_19 : decode cX9_join 19 = .ok (.ifCond .ne 5, 3) := by decide +kernel
theorem dX9_join_22 : decode cX9_join 22 = .ok (.iconst (-1), 1) := by decide +kernel
theorem dX9_join_23 : decode cX9_join 23 = .ok (.ireturn, 1) := by decide +kernel
theorem dX9_join_24 : decode cX9_join 24 = .ok (.aload_n 0, 1) := by decide +kernel
theorem dX9_join_25 : decode cX9_join 25 = .ok (.getfield 21, 3) := by decide +kernel
theorem dX9_join_28 : decode cX9_join 28 = .ok (.aload_n 0, 1) := by decide +kernel
theorem dX9_join_29 : decode cX9_join 29 = .ok (.getfield 21, 3) := by decide +kernel
theorem dX9_join_32 : decode cX9_join 32 = .ok (.iload_n 1, 1) := by decide +kernel
theorem dX9_join_33 : decode cX9_join 33 = .ok (.invokevirtual 184, 3) := by decide +kernel
theorem dX9_join_36 : decode cX9_join 36 = .ok (.aload_n 0, 1) := by decide +kernel
theorem dX9_join_37 : decode cX9_join 37 = .ok (.getfield 21, 3) := by decide +kernel
theorem dX9_join_40 : decode cX9_join 40 = .ok (.iload_n 2, 1) := by decide +kernel
theorem dX9_join_41 : decode cX9_join 41 = .ok (.invokevirtual 184, 3) := by decide +kernel
theorem dX9_join_44 : decode cX9_join 44 = .ok (.iand, 1) := by decide +kernel
theorem dX9_join_45 : decode cX9_join 45 = .ok (.invokevirtual 187, 3) := by decide +kernel
theorem dX9_join_48 : decode cX9_join 48 = .ok (.ireturn, 1) := by decide +kernel
set_option maxRecDepth 20000 in
theorem ggX9_meet_X6_has : GoodIn wsX9_meet wsX6_has := goodIn_r _ [6, 7, 8, 9, 10, 31, 32, 33, 34, 35, 36] (by decide +kernel) (by decide +kernel)
set_option maxRecDepth 20000 in
theorem gX9_meet_X6_has : GoodIn wsX9_meet (wsV RX9 104 RX6 yX6_has wsX6_has) := goodIn_app (goodIn_of _ (by decide +kernel)) ggX9_meet_X6_has
set_option maxRecDepth 20000 in
theorem ggX9_meet_X6_atMost : GoodIn wsX9_meet wsX6_atMost := goodIn_r _ [14, 15, 16, 3, 4, 5, 6, 7, 8, 9, 10, 31, 32, 33, 34, 35, 36] (by decide +kernel) (by decide +kernel)
set_option maxRecDepth 20000 in
theorem gX9_meet_X6_atMost : GoodIn wsX9_meet (wsV RX9 190 RX6 yX6_atMost wsX6_atMost) := goodIn_app (goodIn_of _ (by decide +kernel)) ggX9_meet_X6_atMost
set_option maxRecDepth 20000 in
theorem ggX9_meet_X6_greatestOf : GoodIn wsX9_meet wsX6_greatestOf := goodIn_r _ [20, 8, 9, 10, 21, 12, 13, 5, 14, 15, 16, 3, 4, 6, 7, 31, 32, 33, 34, 35, 36] (by decide +kernel) (by decide +kernel)
set_option maxRecDepth 20000 in
theorem gX9_meet_X6_greatestOf : GoodIn wsX9_meet (wsV RX9 193 RX6 yX6_greatestOf wsX6_greatestOf) := goodIn_app (goodIn_of _ (by decide +kernel)) ggX9_meet_X6_greatestOf
theorem dX9_meet_0 : decode cX9_meet 0 = .ok (.aload_n 0, 1) := by decide +kernel
theorem dX9_meet_1 : decode cX9_meet 1 = .ok (.getfield 21, 3) := by decide +kernel
theorem dX9_meet_4 : decode cX9_meet 4 = .ok (.iload_n 1, 1) := by decide +kernel
theorem dX9_meet_5 : decode cX9_meet 5 = .ok (.invokevirtual 104, 3) := by decide +kernel
theorem dX9_meet_8 : decode cX9_meet 8 = .ok (.ifCond .eq 14, 3) := by decide +kernel
theorem dX9_meet_11 : decode cX9_meet 11 = .ok (.aload_n 0, 1) := by decide +kernel
theorem dX9_meet_12 : decode cX9_meet 12 = .ok (.getfield 21, 3) := by decide +kernel
theorem dX9_meet_15 : decode cX9_meet 15 = .ok (.iload_n 2, 1) := by decide +kernel
theorem dX9_meet_16 : decode cX9_meet 16 = .ok (.invokevirtual 104, 3) := by decide +kernel
theorem dX9_meet_19 : decode cX9_meet 19 = .ok (.ifCond .ne 5, 3) := by decide +kernel
theorem dX9_meet_22 : decode cX9_meet 22 = .ok (.iconst (-1), 1) := by decide +kernel
theorem dX9_meet_23 : decode cX9_meet 23 = .ok (.ireturn, 1) := by decide +kernel
theorem dX9_meet_24 : decode cX9_meet 24 = .ok (.aload_n 0, 1) := by decide +kernel
theorem dX9_meet_25 : decode cX9_meet 25 = .ok (.getfield 21, 3) := by decide +kernel
theorem dX9_meet_28 : decode cX9_meet 28 = .ok (.aload_n 0, 1) := by decide +kernel
theorem dX9_meet_29 : decode cX9_meet 29 = .ok (.getfield 21, 3) := by decide +kernel
theorem dX9_meet_32 : decode cX9_meet 32 = .ok (.iload_n 1, 1) := by decide +kernel
theorem dX9_meet_33 : decode cX9_meet 33 = .ok (.invokevirtual 190, 3) := by decide +kernel
theorem dX9_meet_36 : decode cX9_meet 36 = .ok (.aload_n 0, 1) := by decide +kernel
theorem dX9_meet_37 : decode cX9_meet 37 = .ok (.getfield 21, 3) := by decide +kernel
theorem dX9_meet_40 : decode cX9_meet 40 = .ok (.iload_n 2, 1) := by decide +kernel
theorem dX9_meet_41 : decode cX9_meet 41 = .ok (.invokevirtual 190, 3) := by decide +kernel
theorem dX9_meet_44 : decode cX9_meet 44 = .ok (.iand, 1) := by decide +kernel
theorem dX9_meet_45 : decode cX9_meet 45 = .ok (.invokevirtual 193, 3) := by decide +kernel
theorem dX9_meet_48 : decode cX9_meet 48 = .ok (.ireturn, 1) := by decide +kernel
set_option maxRecDepth 20000 in
theorem ggX9_kind_X9_isOrder : GoodIn wsX9_kind wsX9_isOrder := goodIn_r _ [8, 1, 9, 106, 107, 108, 109, 110, 111, 112, 113, 114, 115, 116, 117, 118, 119, 120] (by decide +kernel) (by decide +kernel)
set_option maxRecDepth 20000 in
theorem gX9_kind_X9_isOrder : GoodIn wsX9_kind (wsV RX9 129 RX9 yX9_isOrder wsX9_isOrder) := goodIn_app (goodIn_of _ (by decide +kernel)) ggX9_kind_X9_isOrder
set_option maxRecDepth 20000 in
theorem ggX9_kind_X6_leastOf : GoodIn wsX9_kind wsX6_leastOf := goodIn_r _ [14, 15, 7, 16, 17, 18, 19, 13, 20, 21, 22, 23, 24, 25, 26, 115, 116, 117, 118, 119, 120] (by decide +kernel) (by decide +kernel)
set_option maxRecDepth 20000 in
theorem gX9_kind_X6_leastOf : GoodIn wsX9_kind (wsV RX9 187 RX6 yX6_leastOf wsX6_leastOf) := goodIn_app (goodIn_of _ (by decide +kernel)) ggX9_kind_X6_leastOf
set_option maxRecDepth 20000 in
theorem ggX9_kind_X6_greatestOf : GoodIn wsX9_kind wsX6_greatestOf := goodIn_r _ [30, 15, 7, 16, 31, 32, 33, 13, 34, 35, 22, 23, 24, 25, 26, 115, 116, 117, 118, 119, 120] (by decide +kernel) (by decide +kernel)
set_option maxRecDepth 20000 in
theorem gX9_kind_X6_greatestOf : GoodIn wsX9_kind (wsV RX9 193 RX6 yX6_greatestOf wsX6_greatestOf) := goodIn_app (goodIn_of _ (by decide +kernel)) ggX9_kind_X6_greatestOf
set_option maxRecDepth 20000 in
theorem ggX9_kind_X9_asNumber : GoodIn wsX9_kind wsX9_asNumber := goodIn_r _ [38] (by decide +kernel) (by decide +kernel)
set_option maxRecDepth 20000 in
theorem gX9_kind_X9_asNumber : GoodIn wsX9_kind (va_wsS RX9 196 yX9_asNumber wsX9_asNumber) := goodIn_app (goodIn_of _ (by decide +kernel)) ggX9_kind_X9_asNumber
set_option maxRecDepth 20000 in
theorem ggX9_kind_X9_isGraded : GoodIn wsX9_kind wsX9_isGraded := goodIn_r _ [42, 1, 43, 23, 24, 13, 25, 26, 15, 7, 16, 44, 45, 46, 47, 48, 49, 50, 18, 19, 20, 21, 22, 51, 52, 53, 54, 55, 56, 57, 58, 59, 60, 61, 62, 63, 64, 65, 66, 67, 68, 69, 70, 35, 71, 72, 73, 74, 75, 76, 77, 78, 106, 107, 108, 109, 110, 111, 112, 113, 114, 115, 116, 117, 118, 119, 120, 121, 122, 123, 124, 125] (by decide +kernel) (by decide +kernel)
set_option maxRecDepth 20000 in
theorem gX9_kind_X9_isGraded : GoodIn wsX9_kind (wsV RX9 200 RX9 yX9_isGraded wsX9_isGraded) := goodIn_app (goodIn_of _ (by decide +kernel)) ggX9_kind_X9_isGraded
set_option maxRecDepth 20000 in
theorem ggX9_kind_X0_fill : GoodIn wsX9_kind wsX0_fill := goodIn_r _ [83, 84, 85, 86, 23, 24, 13, 25, 26, 15, 7, 16, 87, 18, 19, 20, 21, 22, 88, 11, 12, 14, 17, 89, 32, 33, 34, 35, 90, 28, 29, 30, 31, 126, 127, 115, 116, 117, 118, 119, 120] (by decide +kernel) (by decide +kernel)
set_option maxRecDepth 20000 in
theorem gX9_kind_X0_fill : GoodIn wsX9_kind (wsV RX9 203 RX0 yX0_fill wsX0_fill) := goodIn_app (goodIn_of _ (by decide +kernel)) ggX9_kind_X0_fill
set_option maxRecDepth 20000 in
theorem ggX9_kind_X0_distributes : GoodIn wsX9_kind wsX0_distributes := goodIn_r _ [94, 86, 23, 24, 13, 25, 26, 15, 7, 16, 89, 32, 33, 34, 35, 22, 95, 96, 97, 82, 98, 85, 84, 99, 100, 101, 115, 116, 117, 118, 119, 120, 126, 127] (by decide +kernel) (by decide +kernel)
set_option maxRecDepth 20000 in
theorem gX9_kind_X0_distributes : GoodIn wsX9_kind (wsV RX9 206 RX0 yX0_distributes wsX0_distributes) := goodIn_app (goodIn_of _ (by decide +kernel)) ggX9_kind_X0_distributes
set_option maxRecDepth 20000 in
theorem ggX9_kind_X6_isRow : GoodIn wsX9_kind wsX6_isRow := goodIn_r _ [105, 21, 35, 15, 7, 16, 115, 116, 117, 118, 119, 120] (by decide +kernel) (by decide +kernel)
set_option maxRecDepth 20000 in
theorem gX9_kind_X6_isRow : GoodIn wsX9_kind (wsV RX9 210 RX6 yX6_isRow wsX6_isRow) := goodIn_app (goodIn_of _ (by decide +kernel)) ggX9_kind_X6_isRow
theorem dX9_kind_0 : decode cX9_kind 0 = .ok (.aload_n 0, 1) := by decide +kernel
theorem dX9_kind_1 : decode cX9_kind 1 = .ok (.invokevirtual 129, 3) := by decide +kernel
theorem dX9_kind_4 : decode cX9_kind 4 = .ok (.ifCond .ne 5, 3) := by decide +kernel
theorem dX9_kind_7 : decode cX9_kind 7 = .ok (.iconst (-1), 1) := by decide +kernel
theorem dX9_kind_8 : decode cX9_kind 8 = .ok (.ireturn, 1) := by decide +kernel
theorem dX9_kind_9 : decode cX9_kind 9 = .ok (.iload_n 1, 1) := by decide +kernel
theorem dX9_kind_10 : decode cX9_kind 10 = .ok (.tableswitch 198 0 5 #[38, 81, 89, 104, 142, 180], 38) := by decide +kernel
theorem dX9_kind_48 : decode cX9_kind 48 = .ok (.aload_n 0, 1) := by decide +kernel
theorem dX9_kind_49 : decode cX9_kind 49 = .ok (.getfield 21, 3) := by decide +kernel
theorem dX9_kind_52 : decode cX9_kind 52 = .ok (.aload_n 0, 1) := by decide +kernel
theorem dX9_kind_53 : decode cX9_kind 53 = .ok (.getfield 21, 3) := by decide +kernel
theorem dX9_kind_56 : decode cX9_kind 56 = .ok (.getfield 136, 3) := by decide +kernel
theorem dX9_kind_59 : decode cX9_kind 59 = .ok (.invokevirtual 187, 3) := by decide +kernel
theorem dX9_kind_62 : decode cX9_kind 62 = .ok (.ifCond .lt 24, 3) := by decide +kernel
theorem dX9_kind_65 : decode cX9_kind 65 = .ok (.aload_n 0, 1) := by decide +kernel
theorem dX9_kind_66 : decode cX9_kind 66 = .ok (.getfield 21, 3) := by decide +kernel
theorem dX9_kind_69 : decode cX9_kind 69 = .ok (.aload_n 0, 1) := by decide +kernel
theorem dX9_kind_70 : decode cX9_kind 70 = .ok (.getfield 21, 3) := by decide +kernel
theorem dX9_kind_73 : decode cX9_kind 73 = .ok (.getfield 136, 3) := by decide +kernel
theorem dX9_kind_76 : decode cX9_kind 76 = .ok (.invokevirtual 193, 3) := by decide +kernel
theorem dX9_kind_79 : decode cX9_kind 79 = .ok (.ifCond .lt 7, 3) := by decide +kernel
theorem dX9_kind_82 : decode cX9_kind 82 = .ok (.iconst 1, 1) := by decide +kernel
theorem dX9_kind_83 : decode cX9_kind 83 = .ok (.goto 4, 3) := by decide +kernel
theorem dX9_kind_86 : decode cX9_kind 86 = .ok (.iconst 0, 1) := by decide +kernel
theorem dX9_kind_87 : decode cX9_kind 87 = .ok (.invokestatic 196, 3) := by decide +kernel
theorem dX9_kind_90 : decode cX9_kind 90 = .ok (.ireturn, 1) := by decide +kernel
theorem dX9_kind_91 : decode cX9_kind 91 = .ok (.aload_n 0, 1) := by decide +kernel
theorem dX9_kind_92 : decode cX9_kind 92 = .ok (.invokevirtual 200, 3) := by decide +kernel
theorem dX9_kind_95 : decode cX9_kind 95 = .ok (.invokestatic 196, 3) := by decide +kernel
theorem dX9_kind_98 : decode cX9_kind 98 = .ok (.ireturn, 1) := by decide +kernel
theorem dX9_kind_99 : decode cX9_kind 99 = .ok (.aload_n 0, 1) := by decide +kernel
theorem dX9_kind_100 : decode cX9_kind 100 = .ok (.getfield 53, 3) := by decide +kernel
theorem dX9_kind_103 : decode cX9_kind 103 = .ok (.aload_n 0, 1) := by decide +kernel
theorem dX9_kind_104 : decode cX9_kind 104 = .ok (.getfield 21, 3) := by decide +kernel
theorem dX9_kind_107 : decode cX9_kind 107 = .ok (.invokevirtual 203, 3) := by decide +kernel
theorem dX9_kind_110 : decode cX9_kind 110 = .ok (.invokestatic 196, 3) := by decide +kernel
theorem dX9_kind_113 : decode cX9_kind 113 = .ok (.ireturn, 1) := by decide +kernel
theorem dX9_kind_114 : decode cX9_kind 114 = .ok (.aload_n 0, 1) := by decide +kernel
theorem dX9_kind_115 : decode cX9_kind 115 = .ok (.getfield 53, 3) := by decide +kernel
theorem dX9_kind_118 : decode cX9_kind 118 = .ok (.aload_n 0, 1) := by decide +kernel
theorem dX9_kind_119 : decode cX9_kind 119 = .ok (.getfield 21, 3) := by decide +kernel
theorem dX9_kind_122 : decode cX9_kind 122 = .ok (.invokevirtual 203, 3) := by decide +kernel
theorem dX9_kind_125 : decode cX9_kind 125 = .ok (.ifCond .eq 22, 3) := by decide +kernel
theorem dX9_kind_128 : decode cX9_kind 128 = .ok (.aload_n 0, 1) := by decide +kernel
theorem dX9_kind_129 : decode cX9_kind 129 = .ok (.getfield 53, 3) := by decide +kernel
theorem dX9_kind_132 : decode cX9_kind 132 = .ok (.aload_n 0, 1) := by decide +kernel
theorem dX9_kind_133 : decode cX9_kind 133 = .ok (.getfield 21, 3) := by decide +kernel
theorem dX9_kind_136 : decode cX9_kind 136 = .ok (.iconst 0, 1) := by decide +kernel
theorem dX9_kind_137 : decode cX9_kind 137 = .ok (.invokevirtual 206, 3) := by decide +kernel
theorem dX9_kind_140 : decode cX9_kind 140 = .ok (.ifCond .eq 7, 3) := by decide +kernel
theorem dX9_kind_143 : decode cX9_kind 143 = .ok (.iconst 1, 1) := by decide +kernel
theorem dX9_kind_144 : decode cX9_kind 144 = .ok (.goto 4, 3) := by decide +kernel
theorem dX9_kind_147 : decode cX9_kind 147 = .ok (.iconst 0, 1) := by decide +kernel
theorem dX9_kind_148 : decode cX9_kind 148 = .ok (.invokestatic 196, 3) := by decide +kernel
theorem dX9_kind_151 : decode cX9_kind 151 = .ok (.ireturn, 1) := by decide +kernel
theorem dX9_kind_152 : decode cX9_kind 152 = .ok (.aload_n 0, 1) := by decide +kernel
theorem dX9_kind_153 : decode cX9_kind 153 = .ok (.getfield 53, 3) := by decide +kernel
theorem dX9_kind_156 : decode cX9_kind 156 = .ok (.aload_n 0, 1) := by decide +kernel
theorem dX9_kind_157 : decode cX9_kind 157 = .ok (.getfield 21, 3) := by decide +kernel
theorem dX9_kind_160 : decode cX9_kind 160 = .ok (.invokevirtual 203, 3) := by decide +kernel
theorem dX9_kind_163 : decode cX9_kind 163 = .ok (.ifCond .eq 22, 3) := by decide +kernel
theorem dX9_kind_166 : decode cX9_kind 166 = .ok (.aload_n 0, 1) := by decide +kernel
theorem dX9_kind_167 : decode cX9_kind 167 = .ok (.getfield 53, 3) := by decide +kernel
theorem dX9_kind_170 : decode cX9_kind 170 = .ok (.aload_n 0, 1) := by decide +kernel
theorem dX9_kind_171 : decode cX9_kind 171 = .ok (.getfield 21, 3) := by decide +kernel
theorem dX9_kind_174 : decode cX9_kind 174 = .ok (.iconst 1, 1) := by decide +kernel
theorem dX9_kind_175 : decode cX9_kind 175 = .ok (.invokevirtual 206, 3) := by decide +kernel
theorem dX9_kind_178 : decode cX9_kind 178 = .ok (.ifCond .eq 7, 3) := by decide +kernel
theorem dX9_kind_181 : decode cX9_kind 181 = .ok (.iconst 1, 1) := by decide +kernel
theorem dX9_kind_182 : decode cX9_kind 182 = .ok (.goto 4, 3) := by decide +kernel
theorem dX9_kind_185 : decode cX9_kind 185 = .ok (.iconst 0, 1) := by decide +kernel
theorem dX9_kind_186 : decode cX9_kind 186 = .ok (.invokestatic 196, 3) := by decide +kernel
theorem dX9_kind_189 : decode cX9_kind 189 = .ok (.ireturn, 1) := by decide +kernel
theorem dX9_kind_190 : decode cX9_kind 190 = .ok (.aload_n 0, 1) := by decide +kernel
theorem dX9_kind_191 : decode cX9_kind 191 = .ok (.getfield 21, 3) := by decide +kernel
theorem dX9_kind_194 : decode cX9_kind 194 = .ok (.aload_n 0, 1) := by decide +kernel
theorem dX9_kind_195 : decode cX9_kind 195 = .ok (.getfield 21, 3) := by decide +kernel
theorem dX9_kind_198 : decode cX9_kind 198 = .ok (.getfield 136, 3) := by decide +kernel
theorem dX9_kind_201 : decode cX9_kind 201 = .ok (.invokevirtual 210, 3) := by decide +kernel
theorem dX9_kind_204 : decode cX9_kind 204 = .ok (.invokestatic 196, 3) := by decide +kernel
theorem dX9_kind_207 : decode cX9_kind 207 = .ok (.ireturn, 1) := by decide +kernel
theorem dX9_kind_208 : decode cX9_kind 208 = .ok (.iconst (-1), 1) := by decide +kernel
theorem dX9_kind_209 : decode cX9_kind 209 = .ok (.ireturn, 1) := by decide +kernel
set_option maxRecDepth 20000 in
theorem ggX9_width_X9_isOrder : GoodIn wsX9_width wsX9_isOrder := goodIn_r _ [6, 1, 7, 32, 33, 34, 35, 36, 37, 38, 39, 40, 41, 42, 43, 44, 45, 46] (by decide +kernel) (by decide +kernel)
set_option maxRecDepth 20000 in
theorem gX9_width_X9_isOrder : GoodIn wsX9_width (wsV RX9 129 RX9 yX9_isOrder wsX9_isOrder) := goodIn_app (goodIn_of _ (by decide +kernel)) ggX9_width_X9_isOrder
set_option maxRecDepth 20000 in
theorem ggX9_width_X6_widest : GoodIn wsX9_width wsX6_widest := goodIn_r _ [12, 13, 14, 15, 16, 17, 18, 19, 11, 20, 21, 22, 23, 5, 24, 25, 26, 27, 28, 29, 30, 31, 41, 42, 43, 44, 45, 46] (by decide +kernel) (by decide +kernel)
set_option maxRecDepth 20000 in
theorem gX9_width_X6_widest : GoodIn wsX9_width (wsV RX9 213 RX6 yX6_widest wsX6_widest) := goodIn_app (goodIn_of _ (by decide +kernel)) ggX9_width_X6_widest
theorem dX9_width_0 : decode cX9_width 0 = .ok (.aload_n 0, 1) := by decide +kernel
theorem dX9_width_1 : decode cX9_width 1 = .ok (.invokevirtual 129, 3) := by decide +kernel
theorem dX9_width_4 : decode cX9_width 4 = .ok (.ifCond .eq 13, 3) := by decide +kernel
theorem dX9_width_7 : decode cX9_width 7 = .ok (.aload_n 0, 1) := by decide +kernel
theorem dX9_width_8 : decode cX9_width 8 = .ok (.getfield 21, 3) := by decide +kernel
theorem dX9_width_11 : decode cX9_width 11 = .ok (.invokevirtual 213, 3) := by decide +kernel
theorem dX9_width_14 : decode cX9_width 14 = .ok (.goto 4, 3) := by decide +kernel
theorem dX9_width_17 : decode cX9_width 17 = .ok (.iconst (-1), 1) := by decide +kernel
theorem dX9_width_18 : decode cX9_width 18 = .ok (.ireturn, 1) := by decide +kernel
set_option maxRecDepth 20000 in
theorem ggX9_ideals_X9_isOrder : GoodIn wsX9_ideals wsX9_isOrder := goodIn_r _ [6, 1, 7, 21, 22, 23, 24, 25, 26, 27, 28, 29, 30, 31, 32, 33, 34, 35] (by decide +kernel) (by decide +kernel)
set_option maxRecDepth 20000 in
theorem gX9_ideals_X9_isOrder : GoodIn wsX9_ideals (wsV RX9 129 RX9 yX9_isOrder wsX9_isOrder) := goodIn_app (goodIn_of _ (by decide +kernel)) ggX9_ideals_X9_isOrder
set_option maxRecDepth 20000 in
theorem ggX9_ideals_X6_spreadSets : GoodIn wsX9_ideals wsX6_spreadSets := goodIn_r _ [12, 13, 14, 15, 11, 16, 17, 18, 19, 5, 20, 30, 31, 32, 33, 34, 35] (by decide +kernel) (by decide +kernel)
set_option maxRecDepth 20000 in
theorem gX9_ideals_X6_spreadSets : GoodIn wsX9_ideals (wsV RX9 216 RX6 yX6_spreadSets wsX6_spreadSets) := goodIn_app (goodIn_of _ (by decide +kernel)) ggX9_ideals_X6_spreadSets
theorem dX9_ideals_0 : decode cX9_ideals 0 = .ok (.aload_n 0, 1) := by decide +kernel
theorem dX9_ideals_1 : decode cX9_ideals 1 = .ok (.invokevirtual 129, 3) := by decide +kernel
theorem dX9_ideals_4 : decode cX9_ideals 4 = .ok (.ifCond .eq 13, 3) := by decide +kernel
theorem dX9_ideals_7 : decode cX9_ideals 7 = .ok (.aload_n 0, 1) := by decide +kernel
theorem dX9_ideals_8 : decode cX9_ideals 8 = .ok (.getfield 21, 3) := by decide +kernel
theorem dX9_ideals_11 : decode cX9_ideals 11 = .ok (.invokevirtual 216, 3) := by decide +kernel
theorem dX9_ideals_14 : decode cX9_ideals 14 = .ok (.goto 4, 3) := by decide +kernel
theorem dX9_ideals_17 : decode cX9_ideals 17 = .ok (.iconst (-1), 1) := by decide +kernel
theorem dX9_ideals_18 : decode cX9_ideals 18 = .ok (.ireturn, 1) := by decide +kernel
set_option maxRecDepth 20000 in
theorem ggX9_extensions_X9_isOrder : GoodIn wsX9_extensions wsX9_isOrder := goodIn_r _ [7, 2, 8, 23, 24, 25, 26, 27, 28, 29, 30, 31, 32, 33, 34, 35, 36, 37] (by decide +kernel) (by decide +kernel)
set_option maxRecDepth 20000 in
theorem gX9_extensions_X9_isOrder : GoodIn wsX9_extensions (wsV RX9 129 RX9 yX9_isOrder wsX9_isOrder) := goodIn_app (goodIn_of _ (by decide +kernel)) ggX9_extensions_X9_isOrder
set_option maxRecDepth 20000 in
theorem ggX9_extensions_X8_extensionsOf : GoodIn wsX9_extensions wsX8_extensionsOf := goodIn_r _ [13, 14, 15, 16, 17, 18, 12, 19, 20, 21, 6, 22, 38, 39, 40, 41, 42, 32, 33, 34, 35, 36, 37] (by decide +kernel) (by decide +kernel)
set_option maxRecDepth 20000 in
theorem gX9_extensions_X8_extensionsOf : GoodIn wsX9_extensions (wsV RX9 219 RX8 yX8_extensionsOf wsX8_extensionsOf) := goodIn_app (goodIn_of _ (by decide +kernel)) ggX9_extensions_X8_extensionsOf
theorem dX9_extensions_0 : decode cX9_extensions 0 = .ok (.aload_n 0, 1) := by decide +kernel
theorem dX9_extensions_1 : decode cX9_extensions 1 = .ok (.invokevirtual 129, 3) := by decide +kernel
theorem dX9_extensions_4 : decode cX9_extensions 4 = .ok (.ifCond .eq 17, 3) := by decide +kernel
theorem dX9_extensions_7 : decode cX9_extensions 7 = .ok (.aload_n 0, 1) := by decide +kernel
theorem dX9_extensions_8 : decode cX9_extensions 8 = .ok (.getfield 46, 3) := by decide +kernel
theorem dX9_extensions_11 : decode cX9_extensions 11 = .ok (.aload_n 0, 1) := by decide +kernel
theorem dX9_extensions_12 : decode cX9_extensions 12 = .ok (.getfield 21, 3) := by decide +kernel
theorem dX9_extensions_15 : decode cX9_extensions 15 = .ok (.invokevirtual 219, 3) := by decide +kernel
theorem dX9_extensions_18 : decode cX9_extensions 18 = .ok (.goto 4, 3) := by decide +kernel
theorem dX9_extensions_21 : decode cX9_extensions 21 = .ok (.iconst (-1), 1) := by decide +kernel
theorem dX9_extensions_22 : decode cX9_extensions 22 = .ok (.ireturn, 1) := by decide +kernel
set_option maxRecDepth 20000 in
theorem ggX9_extension_X6_leastRow : GoodIn wsX9_extension wsX6_leastRow := goodIn_r _ [8, 9, 10, 11, 12, 7, 13, 14, 15, 16, 17, 32, 33, 34, 35, 36, 37] (by decide +kernel) (by decide +kernel)
set_option maxRecDepth 20000 in
theorem gX9_extension_X6_leastRow : GoodIn wsX9_extension (wsV RX9 226 RX6 yX6_leastRow wsX6_leastRow) := goodIn_app (goodIn_of _ (by decide +kernel)) ggX9_extension_X6_leastRow
theorem dX9_extension_0 : decode cX9_extension 0 = .ok (.aload_n 0, 1) := by decide +kernel
theorem dX9_extension_1 : decode cX9_extension 1 = .ok (.getfield 21, 3) := by decide +kernel
theorem dX9_extension_4 : decode cX9_extension 4 = .ok (.aload_n 0, 1) := by decide +kernel
theorem dX9_extension_5 : decode cX9_extension 5 = .ok (.getfield 46, 3) := by decide +kernel
theorem dX9_extension_8 : decode cX9_extension 8 = .ok (.getfield 223, 3) := by decide +kernel
theorem dX9_extension_11 : decode cX9_extension 11 = .ok (.invokevirtual 226, 3) := by decide +kernel
theorem dX9_extension_14 : decode cX9_extension 14 = .ok (.istore_n 2, 1) := by decide +kernel
theorem dX9_extension_15 : decode cX9_extension 15 = .ok (.iload_n 1, 1) := by decide +kernel
theorem dX9_extension_16 : decode cX9_extension 16 = .ok (.ifCond .lt 20, 3) := by decide +kernel
theorem dX9_extension_19 : decode cX9_extension 19 = .ok (.iload_n 1, 1) := by decide +kernel
theorem dX9_extension_20 : decode cX9_extension 20 = .ok (.iload_n 2, 1) := by decide +kernel
theorem dX9_extension_21 : decode cX9_extension 21 = .ok (.if_icmp .ge 15, 3) := by decide +kernel
theorem dX9_extension_24 : decode cX9_extension 24 = .ok (.aload_n 0, 1) := by decide +kernel
theorem dX9_extension_25 : decode cX9_extension 25 = .ok (.getfield 46, 3) := by decide +kernel
theorem dX9_extension_28 : decode cX9_extension 28 = .ok (.getfield 223, 3) := by decide +kernel
theorem dX9_extension_31 : decode cX9_extension 31 = .ok (.iload_n 1, 1) := by decide +kernel
theorem dX9_extension_32 : decode cX9_extension 32 = .ok (.iaload, 1) := by decide +kernel
theorem dX9_extension_33 : decode cX9_extension 33 = .ok (.goto 4, 3) := by decide +kernel
theorem dX9_extension_36 : decode cX9_extension 36 = .ok (.iconst (-1), 1) := by decide +kernel
theorem dX9_extension_37 : decode cX9_extension 37 = .ok (.ireturn, 1) := by decide +kernel
set_option maxRecDepth 20000 in
theorem ggX9_interval_X9_troubleOf : GoodIn wsX9_interval wsX9_troubleOf := goodIn_r _ [6, 1, 7, 8, 9, 10, 11, 12, 13, 5, 14, 15, 16, 17, 18, 19, 20, 34, 35, 36, 37, 38, 39, 40, 41, 42, 43, 44, 45, 46, 47, 48] (by decide +kernel) (by decide +kernel)
set_option maxRecDepth 20000 in
theorem gX9_interval_X9_troubleOf : GoodIn wsX9_interval (wsV RX9 230 RX9 yX9_troubleOf wsX9_troubleOf) := goodIn_app (goodIn_of _ (by decide +kernel)) ggX9_interval_X9_troubleOf
set_option maxRecDepth 20000 in
theorem ggX9_interval_X6_between : GoodIn wsX9_interval wsX6_between := goodIn_r _ [24, 25, 26, 27, 10, 28, 19, 20, 8, 9, 11, 12, 13, 5, 14, 29, 30, 31, 32, 33, 43, 44, 45, 46, 47, 48] (by decide +kernel) (by decide +kernel)
set_option maxRecDepth 20000 in
theorem gX9_interval_X6_between : GoodIn wsX9_interval (wsV RX9 233 RX6 yX6_between wsX6_between) := goodIn_app (goodIn_of _ (by decide +kernel)) ggX9_interval_X6_between
theorem dX9_interval_0 : decode cX9_interval 0 = .ok (.aload_n 0, 1) := by decide +kernel
theorem dX9_interval_1 : decode cX9_interval 1 = .ok (.iload_n 1, 1) := by decide +kernel
theorem dX9_interval_2 : decode cX9_interval 2 = .ok (.iload_n 2, 1) := by decide +kernel
theorem dX9_interval_3 : decode cX9_interval 3 = .ok (.invokevirtual 230, 3) := by decide +kernel
theorem dX9_interval_6 : decode cX9_interval 6 = .ok (.istore_n 3, 1) := by decide +kernel
theorem dX9_interval_7 : decode cX9_interval 7 = .ok (.iload_n 3, 1) := by decide +kernel
theorem dX9_interval_8 : decode cX9_interval 8 = .ok (.ifCond .eq 7, 3) := by decide +kernel
theorem dX9_interval_11 : decode cX9_interval 11 = .ok (.iload_n 3, 1) := by decide +kernel
theorem dX9_interval_12 : decode cX9_interval 12 = .ok (.goto 12, 3) := by decide +kernel
theorem dX9_interval_15 : decode cX9_interval 15 = .ok (.aload_n 0, 1) := by decide +kernel
theorem dX9_interval_16 : decode cX9_interval 16 = .ok (.getfield 21, 3) := by decide +kernel
theorem dX9_interval_19 : decode cX9_interval 19 = .ok (.iload_n 1, 1) := by decide +kernel
theorem dX9_interval_20 : decode cX9_interval 20 = .ok (.iload_n 2, 1) := by decide +kernel
theorem dX9_interval_21 : decode cX9_interval 21 = .ok (.invokevirtual 233, 3) := by decide +kernel
theorem dX9_interval_24 : decode cX9_interval 24 = .ok (.ireturn, 1) := by decide +kernel
set_option maxRecDepth 20000 in
theorem ggX9_chains_X9_troubleOf : GoodIn wsX9_chains wsX9_troubleOf := goodIn_r _ [8, 2, 9, 10, 11, 12, 13, 14, 15, 7, 16, 17, 18, 19, 20, 21, 22, 123, 124, 125, 126, 127, 128, 129, 130, 131, 135, 136, 137, 138, 139, 140] (by decide +kernel) (by decide +kernel)
set_option maxRecDepth 20000 in
theorem gX9_chains_X9_troubleOf : GoodIn wsX9_chains (wsV RX9 230 RX9 yX9_troubleOf wsX9_troubleOf) := goodIn_app (goodIn_of _ (by decide +kernel)) ggX9_chains_X9_troubleOf
set_option maxRecDepth 20000 in
theorem ggX9_chains_X2_fill : GoodIn wsX9_chains wsX2_fill := goodIn_r _ [27, 28, 29, 30, 31, 32, 26, 33, 34, 35, 36, 37, 38, 39, 40, 41, 42, 43, 44, 45, 46, 47, 48, 49, 50, 51, 52, 53, 54, 12, 55, 56, 57, 58, 59, 60, 61, 62, 63, 64, 65, 66, 67, 68, 69, 70, 71, 72, 73, 74, 75, 76, 22, 10, 11, 13, 14, 15, 7, 16, 77, 78, 79, 80, 21, 81, 82, 83, 132, 133, 134, 141, 142, 143, 144, 135, 136, 137, 138, 139, 140] (by decide +kernel) (by decide +kernel)
set_option maxRecDepth 20000 in
theorem gX9_chains_X2_fill : GoodIn wsX9_chains (wsV RX9 236 RX2 yX2_fill wsX2_fill) := goodIn_app (goodIn_of _ (by decide +kernel)) ggX9_chains_X2_fill
set_option maxRecDepth 20000 in
theorem ggX9_chains_X2_rising : GoodIn wsX9_chains wsX2_rising := goodIn_r _ [87, 88, 89, 90, 26, 91, 28, 38, 92, 93, 94, 42, 95, 48, 51, 132, 133, 134, 141, 142, 143, 144] (by decide +kernel) (by decide +kernel)
set_option maxRecDepth 20000 in
theorem gX9_chains_X2_rising : GoodIn wsX9_chains (wsV RX9 240 RX2 yX2_rising wsX2_rising) := goodIn_app (goodIn_of _ (by decide +kernel)) ggX9_chains_X2_rising
set_option maxRecDepth 20000 in
theorem ggX9_chains_X2_descending : GoodIn wsX9_chains wsX2_descending := goodIn_r _ [99, 28, 38, 100, 101, 102, 42, 103, 48, 104, 93, 94, 95, 51, 105, 106, 107, 108, 109, 110, 111, 132, 133, 134, 141, 142, 143, 144] (by decide +kernel) (by decide +kernel)
set_option maxRecDepth 20000 in
theorem gX9_chains_X2_descending : GoodIn wsX9_chains (wsV RX9 243 RX2 yX2_descending wsX2_descending) := goodIn_app (goodIn_of _ (by decide +kernel)) ggX9_chains_X2_descending
set_option maxRecDepth 20000 in
theorem ggX9_chains_X2_longest : GoodIn wsX9_chains wsX2_longest := goodIn_r _ [115, 28, 38, 116, 117, 58, 46, 59, 132, 133, 134, 141, 142, 143, 144] (by decide +kernel) (by decide +kernel)
set_option maxRecDepth 20000 in
theorem gX9_chains_X2_longest : GoodIn wsX9_chains (wsV RX9 246 RX2 yX2_longest wsX2_longest) := goodIn_app (goodIn_of _ (by decide +kernel)) ggX9_chains_X2_longest
set_option maxRecDepth 20000 in
theorem ggX9_chains_X2_shortest : GoodIn wsX9_chains wsX2_shortest := goodIn_r _ [121, 28, 38, 116, 122, 45, 46, 47, 132, 133, 134, 141, 142, 143, 144] (by decide +kernel) (by decide +kernel)
set_option maxRecDepth 20000 in
theorem gX9_chains_X2_shortest : GoodIn wsX9_chains (wsV RX9 249 RX2 yX2_shortest wsX2_shortest) := goodIn_app (goodIn_of _ (by decide +kernel)) ggX9_chains_X2_shortest
theorem dX9_chains_0 : decode cX9_chains 0 = .ok (.iload_n 3, 1) := by decide +kernel
theorem dX9_chains_1 : decode cX9_chains 1 = .ok (.ifCond .lt 8, 3) := by decide +kernel
theorem dX9_chains_4 : decode cX9_chains 4 = .ok (.iload_n 3, 1) := by decide +kernel
theorem dX9_chains_5 : decode cX9_chains 5 = .ok (.iconst 4, 1) := by decide +kernel
theorem dX9_chains_6 : decode cX9_chains 6 = .ok (.if_icmp .le 5, 3) := by decide +kernel
theorem dX9_chains_9 : decode cX9_chains 9 = .ok (.iconst (-1), 1) := by decide +kernel
theorem dX9_chains_10 : decode cX9_chains 10 = .ok (.ireturn, 1) := by decide +kernel
theorem dX9_chains_11 : decode cX9_chains 11 = .ok (.aload_n 0, 1) := by decide +kernel
theorem dX9_chains_12 : decode cX9_chains 12 = .ok (.iload_n 1, 1) := by decide +kernel
theorem dX9_chains_13 : decode cX9_chains 13 = .ok (.iload_n 2, 1) := by decide +kernel
theorem dX9_chains_14 : decode cX9_chains 14 = .ok (.invokevirtual 230, 3) := by decide +kernel
theorem dX9_chains_17 : decode cX9_chains 17 = .ok (.istore 4, 2) := by decide +kernel
theorem dX9_chains_19 : decode cX9_chains 19 = .ok (.iload 4, 2) := by decide +kernel
theorem dX9_chains_21 : decode cX9_chains 21 = .ok (.ifCond .eq 6, 3) := by decide +kernel
theorem dX9_chains_24 : decode cX9_chains 24 = .ok (.iload 4, 2) := by decide +kernel
theorem dX9_chains_26 : decode cX9_chains 26 = .ok (.ireturn, 1) := by decide +kernel
theorem dX9_chains_27 : decode cX9_chains 27 = .ok (.aload_n 0, 1) := by decide +kernel
theorem dX9_chains_28 : decode cX9_chains 28 = .ok (.getfield 39, 3) := by decide +kernel
theorem dX9_chains_31 : decode cX9_chains 31 = .ok (.aload_n 0, 1) := by decide +kernel
theorem dX9_chains_32 : decode cX9_chains 32 = .ok (.getfield 21, 3) := by decide +kernel
theorem dX9_chains_35 : decode cX9_chains 35 = .ok (.iload_n 1, 1) := by decide +kernel
theorem dX9_chains_36 : decode cX9_chains 36 = .ok (.iload_n 2, 1) := by decide +kernel
theorem dX9_chains_37 : decode cX9_chains 37 = .ok (.invokevirtual 236, 3) := by decide +kernel
theorem dX9_chains_40 : decode cX9_chains 40 = .ok (.iload_n 3, 1) := by decide +kernel
theorem dX9_chains_41 : decode cX9_chains 41 = .ok (.tableswitch 63 0 3 #[31, 39, 47, 55], 31) := by decide +kernel
theorem dX9_chains_72 : decode cX9_chains 72 = .ok (.aload_n 0, 1) := by decide +kernel
theorem dX9_chains_73 : decode cX9_chains 73 = .ok (.getfield 39, 3) := by decide +kernel
theorem dX9_chains_76 : decode cX9_chains 76 = .ok (.getfield 239, 3) := by decide +kernel
theorem dX9_chains_79 : decode cX9_chains 79 = .ok (.ireturn, 1) := by decide +kernel
theorem dX9_chains_80 : decode cX9_chains 80 = .ok (.aload_n 0, 1) := by decide +kernel
theorem dX9_chains_81 : decode cX9_chains 81 = .ok (.getfield 39, 3) := by decide +kernel
theorem dX9_chains_84 : decode cX9_chains 84 = .ok (.invokevirtual 240, 3) := by decide +kernel
theorem dX9_chains_87 : decode cX9_chains 87 = .ok (.ireturn, 1) := by decide +kernel
theorem dX9_chains_88 : decode cX9_chains 88 = .ok (.aload_n 0, 1) := by decide +kernel
theorem dX9_chains_89 : decode cX9_chains 89 = .ok (.getfield 39, 3) := by decide +kernel
theorem dX9_chains_92 : decode cX9_chains 92 = .ok (.invokevirtual 243, 3) := by decide +kernel
theorem dX9_chains_95 : decode cX9_chains 95 = .ok (.ireturn, 1) := by decide +kernel
theorem dX9_chains_96 : decode cX9_chains 96 = .ok (.aload_n 0, 1) := by decide +kernel
theorem dX9_chains_97 : decode cX9_chains 97 = .ok (.getfield 39, 3) := by decide +kernel
theorem dX9_chains_100 : decode cX9_chains 100 = .ok (.invokevirtual 246, 3) := by decide +kernel
theorem dX9_chains_103 : decode cX9_chains 103 = .ok (.ireturn, 1) := by decide +kernel
theorem dX9_chains_104 : decode cX9_chains 104 = .ok (.aload_n 0, 1) := by decide +kernel
theorem dX9_chains_105 : decode cX9_chains 105 = .ok (.getfield 39, 3) := by decide +kernel
theorem dX9_chains_108 : decode cX9_chains 108 = .ok (.invokevirtual 249, 3) := by decide +kernel
theorem dX9_chains_111 : decode cX9_chains 111 = .ok (.ireturn, 1) := by decide +kernel
set_option maxRecDepth 20000 in
theorem ggX9_point_X9_troubleOf : GoodIn wsX9_point wsX9_troubleOf := goodIn_r _ [10, 2, 11, 12, 13, 14, 15, 16, 17, 9, 18, 19, 20, 21, 22, 23, 24, 90, 91, 92, 93, 94, 95, 96, 97, 98, 106, 107, 108, 109, 110, 111] (by decide +kernel) (by decide +kernel)
set_option maxRecDepth 20000 in
theorem gX9_point_X9_troubleOf : GoodIn wsX9_point (wsV RX9 230 RX9 yX9_troubleOf wsX9_troubleOf) := goodIn_app (goodIn_of _ (by decide +kernel)) ggX9_point_X9_troubleOf
set_option maxRecDepth 20000 in
theorem ggX9_point_X2_fill : GoodIn wsX9_point wsX2_fill := goodIn_r _ [29, 30, 31, 32, 33, 34, 28, 35, 36, 37, 38, 39, 40, 41, 42, 43, 44, 45, 46, 47, 48, 49, 50, 51, 52, 53, 54, 55, 56, 14, 57, 58, 59, 60, 61, 62, 63, 64, 65, 66, 67, 68, 69, 70, 71, 72, 73, 74, 75, 76, 77, 78, 24, 12, 13, 15, 16, 17, 9, 18, 79, 80, 81, 82, 23, 83, 84, 85, 99, 100, 101, 102, 103, 104, 105, 106, 107, 108, 109, 110, 111] (by decide +kernel) (by decide +kernel)
set_option maxRecDepth 20000 in
theorem gX9_point_X2_fill : GoodIn wsX9_point (wsV RX9 236 RX2 yX2_fill wsX2_fill) := goodIn_app (goodIn_of _ (by decide +kernel)) ggX9_point_X2_fill
set_option maxRecDepth 20000 in
theorem ggX9_point_X2_hasChain : GoodIn wsX9_point wsX2_hasChain := goodIn_r _ [89, 30, 99, 100, 101] (by decide +kernel) (by decide +kernel)
set_option maxRecDepth 20000 in
theorem gX9_point_X2_hasChain : GoodIn wsX9_point (wsV RX9 252 RX2 yX2_hasChain wsX2_hasChain) := goodIn_app (goodIn_of _ (by decide +kernel)) ggX9_point_X2_hasChain
theorem dX9_point_0 : decode cX9_point 0 = .ok (.aload_n 0, 1) := by decide +kernel
theorem dX9_point_1 : decode cX9_point 1 = .ok (.iload_n 1, 1) := by decide +kernel
theorem dX9_point_2 : decode cX9_point 2 = .ok (.iload_n 2, 1) := by decide +kernel
theorem dX9_point_3 : decode cX9_point 3 = .ok (.invokevirtual 230, 3) := by decide +kernel
theorem dX9_point_6 : decode cX9_point 6 = .ok (.istore 5, 2) := by decide +kernel
theorem dX9_point_8 : decode cX9_point 8 = .ok (.iload 5, 2) := by decide +kernel
theorem dX9_point_10 : decode cX9_point 10 = .ok (.ifCond .eq 6, 3) := by decide +kernel
theorem dX9_point_13 : decode cX9_point 13 = .ok (.iload 5, 2) := by decide +kernel
theorem dX9_point_15 : decode cX9_point 15 = .ok (.ireturn, 1) := by decide +kernel
theorem dX9_point_16 : decode cX9_point 16 = .ok (.aload_n 0, 1) := by decide +kernel
theorem dX9_point_17 : decode cX9_point 17 = .ok (.getfield 39, 3) := by decide +kernel
theorem dX9_point_20 : decode cX9_point 20 = .ok (.aload_n 0, 1) := by decide +kernel
theorem dX9_point_21 : decode cX9_point 21 = .ok (.getfield 21, 3) := by decide +kernel
theorem dX9_point_24 : decode cX9_point 24 = .ok (.iload_n 1, 1) := by decide +kernel
theorem dX9_point_25 : decode cX9_point 25 = .ok (.iload_n 2, 1) := by decide +kernel
theorem dX9_point_26 : decode cX9_point 26 = .ok (.invokevirtual 236, 3) := by decide +kernel
theorem dX9_point_29 : decode cX9_point 29 = .ok (.aload_n 0, 1) := by decide +kernel
theorem dX9_point_30 : decode cX9_point 30 = .ok (.getfield 39, 3) := by decide +kernel
theorem dX9_point_33 : decode cX9_point 33 = .ok (.iload_n 3, 1) := by decide +kernel
theorem dX9_point_34 : decode cX9_point 34 = .ok (.invokevirtual 252, 3) := by decide +kernel
theorem dX9_point_37 : decode cX9_point 37 = .ok (.ifCond .eq 25, 3) := by decide +kernel
theorem dX9_point_40 : decode cX9_point 40 = .ok (.iload 4, 2) := by decide +kernel
theorem dX9_point_42 : decode cX9_point 42 = .ok (.ifCond .lt 20, 3) := by decide +kernel
theorem dX9_point_45 : decode cX9_point 45 = .ok (.iload 4, 2) := by decide +kernel
theorem dX9_point_47 : decode cX9_point 47 = .ok (.aload_n 0, 1) := by decide +kernel
theorem dX9_point_48 : decode cX9_point 48 = .ok (.getfield 39, 3) := by decide +kernel
theorem dX9_point_51 : decode cX9_point 51 = .ok (.getfield 255, 3) := by decide +kernel
theorem dX9_point_54 : decode cX9_point 54 = .ok (.iload_n 3, 1) := by decide +kernel
theorem dX9_point_55 : decode cX9_point 55 = .ok (.aaload, 1) := by decide +kernel
theorem dX9_point_56 : decode cX9_point 56 = .ok (.getfield 259, 3) := by decide +kernel
theorem dX9_point_59 : decode cX9_point 59 = .ok (.if_icmp .le 6, 3) := by decide +kernel
theorem dX9_point_62 : decode cX9_point 62 = .ok (.bipush (-2), 2) := by decide +kernel
theorem dX9_point_64 : decode cX9_point 64 = .ok (.ireturn, 1) := by decide +kernel
theorem dX9_point_65 : decode cX9_point 65 = .ok (.aload_n 0, 1) := by decide +kernel
theorem dX9_point_66 : decode cX9_point 66 = .ok (.getfield 39, 3) := by decide +kernel
theorem dX9_point_69 : decode cX9_point 69 = .ok (.getfield 255, 3) := by decide +kernel
theorem dX9_point_72 : decode cX9_point 72 = .ok (.iload_n 3, 1) := by decide +kernel
theorem dX9_point_73 : decode cX9_point 73 = .ok (.aaload, 1) := by decide +kernel
theorem dX9_point_74 : decode cX9_point 74 = .ok (.getfield 264, 3) := by decide +kernel
theorem dX9_point_77 : decode cX9_point 77 = .ok (.iload 4, 2) := by decide +kernel
theorem dX9_point_79 : decode cX9_point 79 = .ok (.iaload, 1) := by decide +kernel
theorem dX9_point_80 : decode cX9_point 80 = .ok (.ireturn, 1) := by decide +kernel
set_option maxRecDepth 20000 in
theorem ggX9_labelOf_X9_troubleOf : GoodIn wsX9_labelOf wsX9_troubleOf := goodIn_r _ [10, 2, 11, 12, 13, 14, 15, 16, 17, 9, 18, 19, 20, 21, 22, 23, 24, 90, 91, 92, 93, 94, 95, 96, 97, 98, 106, 107, 108, 109, 110, 111] (by decide +kernel) (by decide +kernel)
set_option maxRecDepth 20000 in
theorem gX9_labelOf_X9_troubleOf : GoodIn wsX9_labelOf (wsV RX9 230 RX9 yX9_troubleOf wsX9_troubleOf) := goodIn_app (goodIn_of _ (by decide +kernel)) ggX9_labelOf_X9_troubleOf
set_option maxRecDepth 20000 in
theorem ggX9_labelOf_X2_fill : GoodIn wsX9_labelOf wsX2_fill := goodIn_r _ [29, 30, 31, 32, 33, 34, 28, 35, 36, 37, 38, 39, 40, 41, 42, 43, 44, 45, 46, 47, 48, 49, 50, 51, 52, 53, 54, 55, 56, 14, 57, 58, 59, 60, 61, 62, 63, 64, 65, 66, 67, 68, 69, 70, 71, 72, 73, 74, 75, 76, 77, 78, 24, 12, 13, 15, 16, 17, 9, 18, 79, 80, 81, 82, 23, 83, 84, 85, 99, 100, 101, 102, 103, 104, 105, 106, 107, 108, 109, 110, 111] (by decide +kernel) (by decide +kernel)
set_option maxRecDepth 20000 in
theorem gX9_labelOf_X2_fill : GoodIn wsX9_labelOf (wsV RX9 236 RX2 yX2_fill wsX2_fill) := goodIn_app (goodIn_of _ (by decide +kernel)) ggX9_labelOf_X2_fill
set_option maxRecDepth 20000 in
theorem ggX9_labelOf_X2_hasChain : GoodIn wsX9_labelOf wsX2_hasChain := goodIn_r _ [89, 30, 99, 100, 101] (by decide +kernel) (by decide +kernel)
set_option maxRecDepth 20000 in
theorem gX9_labelOf_X2_hasChain : GoodIn wsX9_labelOf (wsV RX9 252 RX2 yX2_hasChain wsX2_hasChain) := goodIn_app (goodIn_of _ (by decide +kernel)) ggX9_labelOf_X2_hasChain
theorem dX9_labelOf_0 : decode cX9_labelOf 0 = .ok (.aload_n 0, 1) := by decide +kernel
theorem dX9_labelOf_1 : decode cX9_labelOf 1 = .ok (.iload_n 1, 1) := by decide +kernel
theorem dX9_labelOf_2 : decode cX9_labelOf 2 = .ok (.iload_n 2, 1) := by decide +kernel
theorem dX9_labelOf_3 : decode cX9_labelOf 3 = .ok (.invokevirtual 230, 3) := by decide +kernel
theorem dX9_labelOf_6 : decode cX9_labelOf 6 = .ok (.istore 5, 2) := by decide +kernel
theorem dX9_labelOf_8 : decode cX9_labelOf 8 = .ok (.iload 5, 2) := by decide +kernel
theorem dX9_labelOf_10 : decode cX9_labelOf 10 = .ok (.ifCond .eq 6, 3) := by decide +kernel
theorem dX9_labelOf_13 : decode cX9_labelOf 13 = .ok (.iload 5, 2) := by decide +kernel
theorem dX9_labelOf_15 : decode cX9_labelOf 15 = .ok (.ireturn, 1) := by decide +kernel
theorem dX9_labelOf_16 : decode cX9_labelOf 16 = .ok (.aload_n 0, 1) := by decide +kernel
theorem dX9_labelOf_17 : decode cX9_labelOf 17 = .ok (.getfield 39, 3) := by decide +kernel
theorem dX9_labelOf_20 : decode cX9_labelOf 20 = .ok (.aload_n 0, 1) := by decide +kernel
theorem dX9_labelOf_21 : decode cX9_labelOf 21 = .ok (.getfield 21, 3) := by decide +kernel
theorem dX9_labelOf_24 : decode cX9_labelOf 24 = .ok (.iload_n 1, 1) := by decide +kernel
theorem dX9_labelOf_25 : decode cX9_labelOf 25 = .ok (.iload_n 2, 1) := by decide +kernel
theorem dX9_labelOf_26 : decode cX9_labelOf 26 = .ok (.invokevirtual 236, 3) := by decide +kernel
theorem dX9_labelOf_29 : decode cX9_labelOf 29 = .ok (.aload_n 0, 1) := by decide +kernel
theorem dX9_labelOf_30 : decode cX9_labelOf 30 = .ok (.getfield 39, 3) := by decide +kernel
theorem dX9_labelOf_33 : decode cX9_labelOf 33 = .ok (.iload_n 3, 1) := by decide +kernel
theorem dX9_labelOf_34 : decode cX9_labelOf 34 = .ok (.invokevirtual 252, 3) := by decide +kernel
theorem dX9_labelOf_37 : decode cX9_labelOf 37 = .ok (.ifCond .eq 25, 3) := by decide +kernel
theorem dX9_labelOf_40 : decode cX9_labelOf 40 = .ok (.iload 4, 2) := by decide +kernel
theorem dX9_labelOf_42 : decode cX9_labelOf 42 = .ok (.ifCond .lt 20, 3) := by decide +kernel
theorem dX9_labelOf_45 : decode cX9_labelOf 45 = .ok (.iload 4, 2) := by decide +kernel
theorem dX9_labelOf_47 : decode cX9_labelOf 47 = .ok (.aload_n 0, 1) := by decide +kernel
theorem dX9_labelOf_48 : decode cX9_labelOf 48 = .ok (.getfield 39, 3) := by decide +kernel
theorem dX9_labelOf_51 : decode cX9_labelOf 51 = .ok (.getfield 255, 3) := by decide +kernel
theorem dX9_labelOf_54 : decode cX9_labelOf 54 = .ok (.iload_n 3, 1) := by decide +kernel
theorem dX9_labelOf_55 : decode cX9_labelOf 55 = .ok (.aaload, 1) := by decide +kernel
theorem dX9_labelOf_56 : decode cX9_labelOf 56 = .ok (.getfield 259, 3) := by decide +kernel
theorem dX9_labelOf_59 : decode cX9_labelOf 59 = .ok (.if_icmp .lt 6, 3) := by decide +kernel
theorem dX9_labelOf_62 : decode cX9_labelOf 62 = .ok (.bipush (-2), 2) := by decide +kernel
theorem dX9_labelOf_64 : decode cX9_labelOf 64 = .ok (.ireturn, 1) := by decide +kernel
theorem dX9_labelOf_65 : decode cX9_labelOf 65 = .ok (.aload_n 0, 1) := by decide +kernel
theorem dX9_labelOf_66 : decode cX9_labelOf 66 = .ok (.getfield 39, 3) := by decide +kernel
theorem dX9_labelOf_69 : decode cX9_labelOf 69 = .ok (.getfield 255, 3) := by decide +kernel
theorem dX9_labelOf_72 : decode cX9_labelOf 72 = .ok (.iload_n 3, 1) := by decide +kernel
theorem dX9_labelOf_73 : decode cX9_labelOf 73 = .ok (.aaload, 1) := by decide +kernel
theorem dX9_labelOf_74 : decode cX9_labelOf 74 = .ok (.getfield 267, 3) := by decide +kernel
theorem dX9_labelOf_77 : decode cX9_labelOf 77 = .ok (.iload 4, 2) := by decide +kernel
theorem dX9_labelOf_79 : decode cX9_labelOf 79 = .ok (.iaload, 1) := by decide +kernel
theorem dX9_labelOf_80 : decode cX9_labelOf 80 = .ok (.ireturn, 1) := by decide +kernel
set_option maxRecDepth 20000 in
theorem ggX9_falls_X9_troubleOf : GoodIn wsX9_falls wsX9_troubleOf := goodIn_r _ [8, 2, 9, 10, 11, 12, 13, 14, 15, 7, 16, 17, 18, 19, 20, 21, 22, 92, 93, 94, 95, 96, 97, 98, 99, 100, 104, 105, 106, 107, 108, 109] (by decide +kernel) (by decide +kernel)
set_option maxRecDepth 20000 in
theorem gX9_falls_X9_troubleOf : GoodIn wsX9_falls (wsV RX9 230 RX9 yX9_troubleOf wsX9_troubleOf) := goodIn_app (goodIn_of _ (by decide +kernel)) ggX9_falls_X9_troubleOf
set_option maxRecDepth 20000 in
theorem ggX9_falls_X2_fill : GoodIn wsX9_falls wsX2_fill := goodIn_r _ [27, 28, 29, 30, 31, 32, 26, 33, 34, 35, 36, 37, 38, 39, 40, 41, 42, 43, 44, 45, 46, 47, 48, 49, 50, 51, 52, 53, 54, 12, 55, 56, 57, 58, 59, 60, 61, 62, 63, 64, 65, 66, 67, 68, 69, 70, 71, 72, 73, 74, 75, 76, 22, 10, 11, 13, 14, 15, 7, 16, 77, 78, 79, 80, 21, 81, 82, 83, 101, 102, 103, 110, 111, 112, 113, 104, 105, 106, 107, 108, 109] (by decide +kernel) (by decide +kernel)
set_option maxRecDepth 20000 in
theorem gX9_falls_X2_fill : GoodIn wsX9_falls (wsV RX9 236 RX2 yX2_fill wsX2_fill) := goodIn_app (goodIn_of _ (by decide +kernel)) ggX9_falls_X2_fill
set_option maxRecDepth 20000 in
theorem ggX9_falls_X2_hasChain : GoodIn wsX9_falls wsX2_hasChain := goodIn_r _ [87, 28, 101, 102, 103] (by decide +kernel) (by decide +kernel)
set_option maxRecDepth 20000 in
theorem gX9_falls_X2_hasChain : GoodIn wsX9_falls (wsV RX9 252 RX2 yX2_hasChain wsX2_hasChain) := goodIn_app (goodIn_of _ (by decide +kernel)) ggX9_falls_X2_hasChain
set_option maxRecDepth 20000 in
theorem ggX9_falls_X1_fallSet : GoodIn wsX9_falls wsX1_fallSet := goodIn_r _ [91, 48, 51, 110, 111, 112, 113] (by decide +kernel) (by decide +kernel)
set_option maxRecDepth 20000 in
theorem gX9_falls_X1_fallSet : GoodIn wsX9_falls (wsV RX9 270 RX1 yX1_fallSet wsX1_fallSet) := goodIn_app (goodIn_of _ (by decide +kernel)) ggX9_falls_X1_fallSet
theorem dX9_falls_0 : decode cX9_falls 0 = .ok (.aload_n 0, 1) := by decide +kernel
theorem dX9_falls_1 : decode cX9_falls 1 = .ok (.iload_n 1, 1) := by decide +kernel
theorem dX9_falls_2 : decode cX9_falls 2 = .ok (.iload_n 2, 1) := by decide +kernel
theorem dX9_falls_3 : decode cX9_falls 3 = .ok (.invokevirtual 230, 3) := by decide +kernel
theorem dX9_falls_6 : decode cX9_falls 6 = .ok (.istore 4, 2) := by decide +kernel
theorem dX9_falls_8 : decode cX9_falls 8 = .ok (.iload 4, 2) := by decide +kernel
theorem dX9_falls_10 : decode cX9_falls 10 = .ok (.ifCond .eq 6, 3) := by decide +kernel
theorem dX9_falls_13 : decode cX9_falls 13 = .ok (.iload 4, 2) := by decide +kernel
theorem dX9_falls_15 : decode cX9_falls 15 = .ok (.ireturn, 1) := by decide +kernel
theorem dX9_falls_16 : decode cX9_falls 16 = .ok (.aload_n 0, 1) := by decide +kernel
theorem dX9_falls_17 : decode cX9_falls 17 = .ok (.getfield 39, 3) := by decide +kernel
theorem dX9_falls_20 : decode cX9_falls 20 = .ok (.aload_n 0, 1) := by decide +kernel
theorem dX9_falls_21 : decode cX9_falls 21 = .ok (.getfield 21, 3) := by decide +kernel
theorem dX9_falls_24 : decode cX9_falls 24 = .ok (.iload_n 1, 1) := by decide +kernel
theorem dX9_falls_25 : decode cX9_falls 25 = .ok (.iload_n 2, 1) := by decide +kernel
theorem dX9_falls_26 : decode cX9_falls 26 = .ok (.invokevirtual 236, 3) := by decide +kernel
theorem dX9_falls_29 : decode cX9_falls 29 = .ok (.aload_n 0, 1) := by decide +kernel
theorem dX9_falls_30 : decode cX9_falls 30 = .ok (.getfield 39, 3) := by decide +kernel
theorem dX9_falls_33 : decode cX9_falls 33 = .ok (.iload_n 3, 1) := by decide +kernel
theorem dX9_falls_34 : decode cX9_falls 34 = .ok (.invokevirtual 252, 3) := by decide +kernel
theorem dX9_falls_37 : decode cX9_falls 37 = .ok (.ifCond .eq 18, 3) := by decide +kernel
theorem dX9_falls_40 : decode cX9_falls 40 = .ok (.aload_n 0, 1) := by decide +kernel
theorem dX9_falls_41 : decode cX9_falls 41 = .ok (.getfield 39, 3) := by decide +kernel
theorem dX9_falls_44 : decode cX9_falls 44 = .ok (.getfield 255, 3) := by decide +kernel
theorem dX9_falls_47 : decode cX9_falls 47 = .ok (.iload_n 3, 1) := by decide +kernel
theorem dX9_falls_48 : decode cX9_falls 48 = .ok (.aaload, 1) := by decide +kernel
theorem dX9_falls_49 : decode cX9_falls 49 = .ok (.invokevirtual 270, 3) := by decide +kernel
theorem dX9_falls_52 : decode cX9_falls 52 = .ok (.goto 5, 3) := by decide +kernel
theorem dX9_falls_55 : decode cX9_falls 55 = .ok (.bipush (-2), 2) := by decide +kernel
theorem dX9_falls_57 : decode cX9_falls 57 = .ok (.ireturn, 1) := by decide +kernel
set_option maxRecDepth 20000 in
theorem ggX9_falling_X9_isPlaceSet : GoodIn wsX9_falling wsX9_isPlaceSet := goodIn_r _ [6] (by decide +kernel) (by decide +kernel)
set_option maxRecDepth 20000 in
theorem gX9_falling_X9_isPlaceSet : GoodIn wsX9_falling (va_wsS RX9 273 yX9_isPlaceSet wsX9_isPlaceSet) := goodIn_app (goodIn_of _ (by decide +kernel)) ggX9_falling_X9_isPlaceSet
set_option maxRecDepth 20000 in
theorem ggX9_falling_X9_troubleOf : GoodIn wsX9_falling wsX9_troubleOf := goodIn_r _ [10, 2, 11, 12, 13, 14, 15, 16, 17, 5, 18, 19, 20, 21, 22, 23, 24, 94, 95, 96, 97, 98, 99, 100, 101, 102, 103, 104, 105, 106, 107, 108] (by decide +kernel) (by decide +kernel)
set_option maxRecDepth 20000 in
theorem gX9_falling_X9_troubleOf : GoodIn wsX9_falling (wsV RX9 230 RX9 yX9_troubleOf wsX9_troubleOf) := goodIn_app (goodIn_of _ (by decide +kernel)) ggX9_falling_X9_troubleOf
set_option maxRecDepth 20000 in
theorem ggX9_falling_X2_fill : GoodIn wsX9_falling wsX2_fill := goodIn_r _ [29, 30, 31, 32, 33, 34, 28, 35, 36, 37, 38, 39, 40, 41, 42, 43, 44, 45, 46, 47, 48, 49, 50, 51, 52, 53, 54, 55, 56, 14, 57, 58, 59, 60, 61, 62, 63, 64, 65, 66, 67, 68, 69, 70, 71, 72, 73, 74, 75, 76, 77, 78, 24, 12, 13, 15, 16, 17, 5, 18, 79, 80, 81, 82, 23, 83, 84, 85, 109, 110, 111, 112, 113, 114, 115, 103, 104, 105, 106, 107, 108] (by decide +kernel) (by decide +kernel)
set_option maxRecDepth 20000 in
theorem gX9_falling_X2_fill : GoodIn wsX9_falling (wsV RX9 236 RX2 yX2_fill wsX2_fill) := goodIn_app (goodIn_of _ (by decide +kernel)) ggX9_falling_X2_fill
set_option maxRecDepth 20000 in
theorem ggX9_falling_X2_withFalls : GoodIn wsX9_falling wsX2_withFalls := goodIn_r _ [89, 30, 40, 90, 91, 92, 44, 93, 50, 53, 109, 110, 111, 112, 113, 114, 115] (by decide +kernel) (by decide +kernel)
set_option maxRecDepth 20000 in
theorem gX9_falling_X2_withFalls : GoodIn wsX9_falling (wsV RX9 276 RX2 yX2_withFalls wsX2_withFalls) := goodIn_app (goodIn_of _ (by decide +kernel)) ggX9_falling_X2_withFalls
theorem dX9_falling_0 : decode cX9_falling 0 = .ok (.iload_n 3, 1) := by decide +kernel
theorem dX9_falling_1 : decode cX9_falling 1 = .ok (.invokestatic 273, 3) := by decide +kernel
theorem dX9_falling_4 : decode cX9_falling 4 = .ok (.ifCond .ne 5, 3) := by decide +kernel
theorem dX9_falling_7 : decode cX9_falling 7 = .ok (.iconst (-1), 1) := by decide +kernel
theorem dX9_falling_8 : decode cX9_falling 8 = .ok (.ireturn, 1) := by decide +kernel
theorem dX9_falling_9 : decode cX9_falling 9 = .ok (.aload_n 0, 1) := by decide +kernel
theorem dX9_falling_10 : decode cX9_falling 10 = .ok (.iload_n 1, 1) := by decide +kernel
theorem dX9_falling_11 : decode cX9_falling 11 = .ok (.iload_n 2, 1) := by decide +kernel
theorem dX9_falling_12 : decode cX9_falling 12 = .ok (.invokevirtual 230, 3) := by decide +kernel
theorem dX9_falling_15 : decode cX9_falling 15 = .ok (.istore 4, 2) := by decide +kernel
theorem dX9_falling_17 : decode cX9_falling 17 = .ok (.iload 4, 2) := by decide +kernel
theorem dX9_falling_19 : decode cX9_falling 19 = .ok (.ifCond .eq 6, 3) := by decide +kernel
theorem dX9_falling_22 : decode cX9_falling 22 = .ok (.iload 4, 2) := by decide +kernel
theorem dX9_falling_24 : decode cX9_falling 24 = .ok (.ireturn, 1) := by decide +kernel
theorem dX9_falling_25 : decode cX9_falling 25 = .ok (.aload_n 0, 1) := by decide +kernel
theorem dX9_falling_26 : decode cX9_falling 26 = .ok (.getfield 39, 3) := by decide +kernel
theorem dX9_falling_29 : decode cX9_falling 29 = .ok (.aload_n 0, 1) := by decide +kernel
theorem dX9_falling_30 : decode cX9_falling 30 = .ok (.getfield 21, 3) := by decide +kernel
theorem dX9_falling_33 : decode cX9_falling 33 = .ok (.iload_n 1, 1) := by decide +kernel
theorem dX9_falling_34 : decode cX9_falling 34 = .ok (.iload_n 2, 1) := by decide +kernel
theorem dX9_falling_35 : decode cX9_falling 35 = .ok (.invokevirtual 236, 3) := by decide +kernel
theorem dX9_falling_38 : decode cX9_falling 38 = .ok (.aload_n 0, 1) := by decide +kernel
theorem dX9_falling_39 : decode cX9_falling 39 = .ok (.getfield 39, 3) := by decide +kernel
theorem dX9_falling_42 : decode cX9_falling 42 = .ok (.iload_n 3, 1) := by decide +kernel
theorem dX9_falling_43 : decode cX9_falling 43 = .ok (.invokevirtual 276, 3) := by decide +kernel
theorem dX9_falling_46 : decode cX9_falling 46 = .ok (.ireturn, 1) := by decide +kernel
set_option maxRecDepth 20000 in
theorem ggX9_flag_X9_isPlaceSet : GoodIn wsX9_flag wsX9_isPlaceSet := goodIn_r _ [7] (by decide +kernel) (by decide +kernel)
set_option maxRecDepth 20000 in
theorem gX9_flag_X9_isPlaceSet : GoodIn wsX9_flag (va_wsS RX9 273 yX9_isPlaceSet wsX9_isPlaceSet) := goodIn_app (goodIn_of _ (by decide +kernel)) ggX9_flag_X9_isPlaceSet
set_option maxRecDepth 20000 in
theorem ggX9_flag_X9_troubleOf : GoodIn wsX9_flag wsX9_troubleOf := goodIn_r _ [11, 3, 12, 13, 14, 15, 16, 17, 18, 6, 19, 20, 21, 22, 23, 24, 25, 87, 88, 89, 90, 91, 92, 93, 94, 95, 96, 97, 98, 99, 100, 101] (by decide +kernel) (by decide +kernel)
set_option maxRecDepth 20000 in
theorem gX9_flag_X9_troubleOf : GoodIn wsX9_flag (wsV RX9 230 RX9 yX9_troubleOf wsX9_troubleOf) := goodIn_app (goodIn_of _ (by decide +kernel)) ggX9_flag_X9_troubleOf
set_option maxRecDepth 20000 in
theorem ggX9_flag_X6_between : GoodIn wsX9_flag wsX6_between := goodIn_r _ [29, 30, 31, 32, 15, 33, 24, 25, 13, 14, 16, 17, 18, 6, 19, 34, 35, 36, 37, 38, 96, 97, 98, 99, 100, 101] (by decide +kernel) (by decide +kernel)
set_option maxRecDepth 20000 in
theorem gX9_flag_X6_between : GoodIn wsX9_flag (wsV RX9 233 RX6 yX6_between wsX6_between) := goodIn_app (goodIn_of _ (by decide +kernel)) ggX9_flag_X6_between
set_option maxRecDepth 20000 in
theorem ggX9_flag_X8_measure : GoodIn wsX9_flag wsX8_measure := goodIn_r _ [43, 44, 45, 46, 47, 48, 49, 50, 51, 52, 53, 15, 54, 17, 55, 56, 57, 58, 38, 18, 6, 19, 102, 103, 104, 105, 106, 96, 97, 98, 99, 100, 101] (by decide +kernel) (by decide +kernel)
set_option maxRecDepth 20000 in
theorem gX9_flag_X8_measure : GoodIn wsX9_flag (wsV RX9 177 RX8 yX8_measure wsX8_measure) := goodIn_app (goodIn_of _ (by decide +kernel)) ggX9_flag_X8_measure
set_option maxRecDepth 20000 in
theorem ggX9_flag_X6_innerOf : GoodIn wsX9_flag wsX6_innerOf := goodIn_r _ [62, 24, 38, 25, 13, 14, 15, 16, 17, 18, 6, 19, 96, 97, 98, 99, 100, 101] (by decide +kernel) (by decide +kernel)
set_option maxRecDepth 20000 in
theorem gX9_flag_X6_innerOf : GoodIn wsX9_flag (wsV RX9 280 RX6 yX6_innerOf wsX6_innerOf) := goodIn_app (goodIn_of _ (by decide +kernel)) ggX9_flag_X6_innerOf
set_option maxRecDepth 20000 in
theorem ggX9_flag_X8_betaOf : GoodIn wsX9_flag wsX8_betaOf := goodIn_r _ [66, 44, 67, 46, 68, 69, 70, 42, 71, 45, 18, 6, 19, 51, 52, 53, 15, 54, 17, 55, 56, 57, 58, 38, 72, 73, 74, 75, 76, 77, 78, 79, 80, 81, 82, 102, 103, 104, 105, 106, 96, 97, 98, 99, 100, 101] (by decide +kernel) (by decide +kernel)
set_option maxRecDepth 20000 in
theorem gX9_flag_X8_betaOf : GoodIn wsX9_flag (wsV RX9 283 RX8 yX8_betaOf wsX8_betaOf) := goodIn_app (goodIn_of _ (by decide +kernel)) ggX9_flag_X8_betaOf
set_option maxRecDepth 20000 in
theorem ggX9_flag_X8_flagOf : GoodIn wsX9_flag wsX8_flagOf := goodIn_r _ [86, 67, 46, 18, 6, 19, 68, 69, 70, 42, 71, 45, 72, 73, 74, 75, 102, 103, 104, 105, 106, 96, 97, 98, 99, 100, 101] (by decide +kernel) (by decide +kernel)
set_option maxRecDepth 20000 in
theorem gX9_flag_X8_flagOf : GoodIn wsX9_flag (wsV RX9 287 RX8 yX8_flagOf wsX8_flagOf) := goodIn_app (goodIn_of _ (by decide +kernel)) ggX9_flag_X8_flagOf
theorem dX9_flag_0 : decode cX9_flag 0 = .ok (.iload_n 3, 1) := by decide +kernel
theorem dX9_flag_1 : decode cX9_flag 1 = .ok (.invokestatic 273, 3) := by decide +kernel
theorem dX9_flag_4 : decode cX9_flag 4 = .ok (.ifCond .eq 12, 3) := by decide +kernel
theorem dX9_flag_7 : decode cX9_flag 7 = .ok (.aload_n 0, 1) := by decide +kernel
theorem dX9_flag_8 : decode cX9_flag 8 = .ok (.iload_n 1, 1) := by decide +kernel
theorem dX9_flag_9 : decode cX9_flag 9 = .ok (.iload_n 2, 1) := by decide +kernel
theorem dX9_flag_10 : decode cX9_flag 10 = .ok (.invokevirtual 230, 3) := by decide +kernel
theorem dX9_flag_13 : decode cX9_flag 13 = .ok (.ifCond .eq 7, 3) := by decide +kernel
theorem dX9_flag_16 : decode cX9_flag 16 = .ok (.ldc_w 279, 3) := by decide +kernel
theorem dX9_flag_19 : decode cX9_flag 19 = .ok (.ireturn, 1) := by decide +kernel
theorem dX9_flag_20 : decode cX9_flag 20 = .ok (.aload_n 0, 1) := by decide +kernel
theorem dX9_flag_21 : decode cX9_flag 21 = .ok (.getfield 46, 3) := by decide +kernel
theorem dX9_flag_24 : decode cX9_flag 24 = .ok (.aload_n 0, 1) := by decide +kernel
theorem dX9_flag_25 : decode cX9_flag 25 = .ok (.getfield 21, 3) := by decide +kernel
theorem dX9_flag_28 : decode cX9_flag 28 = .ok (.aload_n 0, 1) := by decide +kernel
theorem dX9_flag_29 : decode cX9_flag 29 = .ok (.getfield 21, 3) := by decide +kernel
theorem dX9_flag_32 : decode cX9_flag 32 = .ok (.iload_n 1, 1) := by decide +kernel
theorem dX9_flag_33 : decode cX9_flag 33 = .ok (.iload_n 2, 1) := by decide +kernel
theorem dX9_flag_34 : decode cX9_flag 34 = .ok (.invokevirtual 233, 3) := by decide +kernel
theorem dX9_flag_37 : decode cX9_flag 37 = .ok (.invokevirtual 177, 3) := by decide +kernel
theorem dX9_flag_40 : decode cX9_flag 40 = .ok (.aload_n 0, 1) := by decide +kernel
theorem dX9_flag_41 : decode cX9_flag 41 = .ok (.getfield 21, 3) := by decide +kernel
theorem dX9_flag_44 : decode cX9_flag 44 = .ok (.iload_n 1, 1) := by decide +kernel
theorem dX9_flag_45 : decode cX9_flag 45 = .ok (.iload_n 2, 1) := by decide +kernel
theorem dX9_flag_46 : decode cX9_flag 46 = .ok (.invokevirtual 280, 3) := by decide +kernel
theorem dX9_flag_49 : decode cX9_flag 49 = .ok (.istore 5, 2) := by decide +kernel
theorem dX9_flag_51 : decode cX9_flag 51 = .ok (.iload 4, 2) := by decide +kernel
theorem dX9_flag_53 : decode cX9_flag 53 = .ok (.ifCond .eq 20, 3) := by decide +kernel
theorem dX9_flag_56 : decode cX9_flag 56 = .ok (.aload_n 0, 1) := by decide +kernel
theorem dX9_flag_57 : decode cX9_flag 57 = .ok (.getfield 46, 3) := by decide +kernel
theorem dX9_flag_60 : decode cX9_flag 60 = .ok (.aload_n 0, 1) := by decide +kernel
theorem dX9_flag_61 : decode cX9_flag 61 = .ok (.getfield 21, 3) := by decide +kernel
theorem dX9_flag_64 : decode cX9_flag 64 = .ok (.iload 5, 2) := by decide +kernel
theorem dX9_flag_66 : decode cX9_flag 66 = .ok (.iload_n 3, 1) := by decide +kernel
theorem dX9_flag_67 : decode cX9_flag 67 = .ok (.invokevirtual 283, 3) := by decide +kernel
theorem dX9_flag_70 : decode cX9_flag 70 = .ok (.goto 17, 3) := by decide +kernel
theorem dX9_flag_73 : decode cX9_flag 73 = .ok (.aload_n 0, 1) := by decide +kernel
theorem dX9_flag_74 : decode cX9_flag 74 = .ok (.getfield 46, 3) := by decide +kernel
theorem dX9_flag_77 : decode cX9_flag 77 = .ok (.aload_n 0, 1) := by decide +kernel
theorem dX9_flag_78 : decode cX9_flag 78 = .ok (.getfield 21, 3) := by decide +kernel
theorem dX9_flag_81 : decode cX9_flag 81 = .ok (.iload 5, 2) := by decide +kernel
theorem dX9_flag_83 : decode cX9_flag 83 = .ok (.iload_n 3, 1) := by decide +kernel
theorem dX9_flag_84 : decode cX9_flag 84 = .ok (.invokevirtual 287, 3) := by decide +kernel
theorem dX9_flag_87 : decode cX9_flag 87 = .ok (.ireturn, 1) := by decide +kernel
set_option maxRecDepth 20000 in
theorem ggX9_lexed_X9_isOrder : GoodIn wsX9_lexed wsX9_isOrder := goodIn_r _ [7, 2, 8, 109, 110, 111, 112, 113, 114, 115, 116, 117, 118, 119, 120, 121, 122, 123] (by decide +kernel) (by decide +kernel)
set_option maxRecDepth 20000 in
theorem gX9_lexed_X9_isOrder : GoodIn wsX9_lexed (wsV RX9 129 RX9 yX9_isOrder wsX9_isOrder) := goodIn_app (goodIn_of _ (by decide +kernel)) ggX9_lexed_X9_isOrder
set_option maxRecDepth 20000 in
theorem ggX9_lexed_X9_troubleOf : GoodIn wsX9_lexed wsX9_troubleOf := goodIn_r _ [12, 2, 13, 14, 15, 16, 17, 18, 19, 6, 20, 21, 22, 23, 24, 25, 26, 109, 110, 111, 112, 113, 114, 115, 116, 117, 118, 119, 120, 121, 122, 123] (by decide +kernel) (by decide +kernel)
set_option maxRecDepth 20000 in
theorem gX9_lexed_X9_troubleOf : GoodIn wsX9_lexed (wsV RX9 230 RX9 yX9_troubleOf wsX9_troubleOf) := goodIn_app (goodIn_of _ (by decide +kernel)) ggX9_lexed_X9_troubleOf
set_option maxRecDepth 20000 in
theorem ggX9_lexed_X2_fill : GoodIn wsX9_lexed wsX2_fill := goodIn_r _ [31, 32, 33, 34, 35, 36, 30, 37, 38, 39, 40, 41, 42, 43, 44, 45, 46, 47, 48, 49, 50, 51, 52, 53, 54, 55, 56, 57, 58, 16, 59, 60, 61, 62, 63, 64, 65, 66, 67, 68, 69, 70, 71, 72, 73, 74, 75, 76, 77, 78, 79, 80, 26, 14, 15, 17, 18, 19, 6, 20, 81, 82, 83, 84, 25, 85, 86, 87, 124, 125, 126, 127, 128, 129, 130, 118, 119, 120, 121, 122, 123] (by decide +kernel) (by decide +kernel)
set_option maxRecDepth 20000 in
theorem gX9_lexed_X2_fill : GoodIn wsX9_lexed (wsV RX9 236 RX2 yX2_fill wsX2_fill) := goodIn_app (goodIn_of _ (by decide +kernel)) ggX9_lexed_X2_fill
set_option maxRecDepth 20000 in
theorem ggX9_lexed_X2_isLexed : GoodIn wsX9_lexed wsX2_isLexed := goodIn_r _ [91, 42, 92, 93, 94, 30, 95, 96, 97, 98, 99, 32, 100, 101, 102, 46, 103, 52, 55, 104, 105, 106, 107, 108, 124, 125, 126, 127, 128, 129, 130] (by decide +kernel) (by decide +kernel)
set_option maxRecDepth 20000 in
theorem gX9_lexed_X2_isLexed : GoodIn wsX9_lexed (wsV RX9 290 RX2 yX2_isLexed wsX2_isLexed) := goodIn_app (goodIn_of _ (by decide +kernel)) ggX9_lexed_X2_isLexed
theorem dX9_lexed_0 : decode cX9_lexed 0 = .ok (.aload_n 0, 1) := by decide +kernel
theorem dX9_lexed_1 : decode cX9_lexed 1 = .ok (.invokevirtual 129, 3) := by decide +kernel
theorem dX9_lexed_4 : decode cX9_lexed 4 = .ok (.ifCond .ne 6, 3) := by decide +kernel
theorem dX9_lexed_7 : decode cX9_lexed 7 = .ok (.bipush (-2), 2) := by decide +kernel
theorem dX9_lexed_9 : decode cX9_lexed 9 = .ok (.ireturn, 1) := by decide +kernel
theorem dX9_lexed_10 : decode cX9_lexed 10 = .ok (.iconst 0, 1) := by decide +kernel
theorem dX9_lexed_11 : decode cX9_lexed 11 = .ok (.istore_n 1, 1) := by decide +kernel
theorem dX9_lexed_12 : decode cX9_lexed 12 = .ok (.iload_n 1, 1) := by decide +kernel
theorem dX9_lexed_13 : decode cX9_lexed 13 = .ok (.bipush 9, 2) := by decide +kernel
theorem dX9_lexed_15 : decode cX9_lexed 15 = .ok (.if_icmp .ge 65, 3) := by decide +kernel
theorem dX9_lexed_18 : decode cX9_lexed 18 = .ok (.iconst 0, 1) := by decide +kernel
theorem dX9_lexed_19 : decode cX9_lexed 19 = .ok (.istore_n 2, 1) := by decide +kernel
theorem dX9_lexed_20 : decode cX9_lexed 20 = .ok (.iload_n 2, 1) := by decide +kernel
theorem dX9_lexed_21 : decode cX9_lexed 21 = .ok (.bipush 9, 2) := by decide +kernel
theorem dX9_lexed_23 : decode cX9_lexed 23 = .ok (.if_icmp .ge 51, 3) := by decide +kernel
theorem dX9_lexed_26 : decode cX9_lexed 26 = .ok (.aload_n 0, 1) := by decide +kernel
theorem dX9_lexed_27 : decode cX9_lexed 27 = .ok (.iload_n 1, 1) := by decide +kernel
theorem dX9_lexed_28 : decode cX9_lexed 28 = .ok (.iload_n 2, 1) := by decide +kernel
theorem dX9_lexed_29 : decode cX9_lexed 29 = .ok (.invokevirtual 230, 3) := by decide +kernel
theorem dX9_lexed_32 : decode cX9_lexed 32 = .ok (.ifCond .eq 6, 3) := by decide +kernel
theorem dX9_lexed_35 : decode cX9_lexed 35 = .ok (.goto 33, 3) := by decide +kernel
theorem dX9_lexed_38 : decode cX9_lexed 38 = .ok (.aload_n 0, 1) := by decide +kernel
theorem dX9_lexed_39 : decode cX9_lexed 39 = .ok (.getfield 39, 3) := by decide +kernel
theorem dX9_lexed_42 : decode cX9_lexed 42 = .ok (.aload_n 0, 1) := by decide +kernel
theorem dX9_lexed_43 : decode cX9_lexed 43 = .ok (.getfield 21, 3) := by decide +kernel
theorem dX9_lexed_46 : decode cX9_lexed 46 = .ok (.iload_n 1, 1) := by decide +kernel
theorem dX9_lexed_47 : decode cX9_lexed 47 = .ok (.iload_n 2, 1) := by decide +kernel
theorem dX9_lexed_48 : decode cX9_lexed 48 = .ok (.invokevirtual 236, 3) := by decide +kernel
theorem dX9_lexed_51 : decode cX9_lexed 51 = .ok (.aload_n 0, 1) := by decide +kernel
theorem dX9_lexed_52 : decode cX9_lexed 52 = .ok (.getfield 39, 3) := by decide +kernel
theorem dX9_lexed_55 : decode cX9_lexed 55 = .ok (.invokevirtual 290, 3) := by decide +kernel
theorem dX9_lexed_58 : decode cX9_lexed 58 = .ok (.ifCond .ne 10, 3) := by decide +kernel
theorem dX9_lexed_61 : decode cX9_lexed 61 = .ok (.bipush 10, 2) := by decide +kernel
theorem dX9_lexed_63 : decode cX9_lexed 63 = .ok (.iload_n 1, 1) := by decide +kernel
theorem dX9_lexed_64 : decode cX9_lexed 64 = .ok (.imul, 1) := by decide +kernel
theorem dX9_lexed_65 : decode cX9_lexed 65 = .ok (.iload_n 2, 1) := by decide +kernel
theorem dX9_lexed_66 : decode cX9_lexed 66 = .ok (.iadd, 1) := by decide +kernel
theorem dX9_lexed_67 : decode cX9_lexed 67 = .ok (.ireturn, 1) := by decide +kernel
theorem dX9_lexed_68 : decode cX9_lexed 68 = .ok (.iinc 2 1, 3) := by decide +kernel
theorem dX9_lexed_71 : decode cX9_lexed 71 = .ok (.goto (-51), 3) := by decide +kernel
theorem dX9_lexed_74 : decode cX9_lexed 74 = .ok (.iinc 1 1, 3) := by decide +kernel
theorem dX9_lexed_77 : decode cX9_lexed 77 = .ok (.goto (-65), 3) := by decide +kernel
theorem dX9_lexed_80 : decode cX9_lexed 80 = .ok (.iconst (-1), 1) := by decide +kernel
theorem dX9_lexed_81 : decode cX9_lexed 81 = .ok (.ireturn, 1) := by decide +kernel
set_option maxRecDepth 20000 in
theorem ggX9_moebius_X9_troubleOf : GoodIn wsX9_moebius wsX9_troubleOf := goodIn_r _ [8, 3, 9, 10, 11, 12, 13, 14, 15, 7, 16, 17, 18, 19, 20, 21, 22, 56, 57, 58, 59, 60, 61, 62, 63, 64, 65, 66, 67, 68, 69, 70] (by decide +kernel) (by decide +kernel)
set_option maxRecDepth 20000 in
theorem gX9_moebius_X9_troubleOf : GoodIn wsX9_moebius (wsV RX9 230 RX9 yX9_troubleOf wsX9_troubleOf) := goodIn_app (goodIn_of _ (by decide +kernel)) ggX9_moebius_X9_troubleOf
set_option maxRecDepth 20000 in
theorem ggX9_moebius_X6_between : GoodIn wsX9_moebius wsX6_between := goodIn_r _ [26, 27, 28, 29, 12, 30, 21, 22, 10, 11, 13, 14, 15, 7, 16, 31, 32, 33, 34, 35, 65, 66, 67, 68, 69, 70] (by decide +kernel) (by decide +kernel)
set_option maxRecDepth 20000 in
theorem gX9_moebius_X6_between : GoodIn wsX9_moebius (wsV RX9 233 RX6 yX6_between wsX6_between) := goodIn_app (goodIn_of _ (by decide +kernel)) ggX9_moebius_X6_between
set_option maxRecDepth 20000 in
theorem ggX9_moebius_X8_mobius : GoodIn wsX9_moebius wsX8_mobius := goodIn_r _ [40, 41, 42, 43, 44, 45, 46, 12, 47, 14, 48, 49, 50, 51, 35, 15, 7, 16, 52, 53, 54, 39, 55, 71, 72, 73, 74, 75, 65, 66, 67, 68, 69, 70] (by decide +kernel) (by decide +kernel)
set_option maxRecDepth 20000 in
theorem gX9_moebius_X8_mobius : GoodIn wsX9_moebius (wsV RX9 293 RX8 yX8_mobius wsX8_mobius) := goodIn_app (goodIn_of _ (by decide +kernel)) ggX9_moebius_X8_mobius
theorem dX9_moebius_0 : decode cX9_moebius 0 = .ok (.aload_n 0, 1) := by decide +kernel
theorem dX9_moebius_1 : decode cX9_moebius 1 = .ok (.iload_n 1, 1) := by decide +kernel
theorem dX9_moebius_2 : decode cX9_moebius 2 = .ok (.iload_n 2, 1) := by decide +kernel
theorem dX9_moebius_3 : decode cX9_moebius 3 = .ok (.invokevirtual 230, 3) := by decide +kernel
theorem dX9_moebius_6 : decode cX9_moebius 6 = .ok (.ifCond .eq 7, 3) := by decide +kernel
theorem dX9_moebius_9 : decode cX9_moebius 9 = .ok (.ldc_w 279, 3) := by decide +kernel
theorem dX9_moebius_12 : decode cX9_moebius 12 = .ok (.ireturn, 1) := by decide +kernel
theorem dX9_moebius_13 : decode cX9_moebius 13 = .ok (.aload_n 0, 1) := by decide +kernel
theorem dX9_moebius_14 : decode cX9_moebius 14 = .ok (.getfield 46, 3) := by decide +kernel
theorem dX9_moebius_17 : decode cX9_moebius 17 = .ok (.aload_n 0, 1) := by decide +kernel
theorem dX9_moebius_18 : decode cX9_moebius 18 = .ok (.getfield 21, 3) := by decide +kernel
theorem dX9_moebius_21 : decode cX9_moebius 21 = .ok (.iload_n 1, 1) := by decide +kernel
theorem dX9_moebius_22 : decode cX9_moebius 22 = .ok (.iload_n 2, 1) := by decide +kernel
theorem dX9_moebius_23 : decode cX9_moebius 23 = .ok (.aload_n 0, 1) := by decide +kernel
theorem dX9_moebius_24 : decode cX9_moebius 24 = .ok (.getfield 21, 3) := by decide +kernel
theorem dX9_moebius_27 : decode cX9_moebius 27 = .ok (.iload_n 1, 1) := by decide +kernel
theorem dX9_moebius_28 : decode cX9_moebius 28 = .ok (.iload_n 2, 1) := by decide +kernel
theorem dX9_moebius_29 : decode cX9_moebius 29 = .ok (.invokevirtual 233, 3) := by decide +kernel
theorem dX9_moebius_32 : decode cX9_moebius 32 = .ok (.invokevirtual 293, 3) := by decide +kernel
theorem dX9_moebius_35 : decode cX9_moebius 35 = .ok (.ireturn, 1) := by decide +kernel
set_option maxRecDepth 20000 in
theorem ggX9_whitney_X6_has : GoodIn wsX9_whitney wsX6_has := goodIn_r _ [10, 11, 12, 13, 14, 66, 67, 68, 69, 70, 71] (by decide +kernel) (by decide +kernel)
set_option maxRecDepth 20000 in
theorem gX9_whitney_X6_has : GoodIn wsX9_whitney (wsV RX9 104 RX6 yX6_has wsX6_has) := goodIn_app (goodIn_of _ (by decide +kernel)) ggX9_whitney_X6_has
set_option maxRecDepth 20000 in
theorem ggX9_whitney_X6_atLeast : GoodIn wsX9_whitney wsX6_atLeast := goodIn_r _ [18, 19, 20, 7, 8, 9, 10, 11, 12, 13, 14, 66, 67, 68, 69, 70, 71] (by decide +kernel) (by decide +kernel)
set_option maxRecDepth 20000 in
theorem gX9_whitney_X6_atLeast : GoodIn wsX9_whitney (wsV RX9 184 RX6 yX6_atLeast wsX6_atLeast) := goodIn_app (goodIn_of _ (by decide +kernel)) ggX9_whitney_X6_atLeast
set_option maxRecDepth 20000 in
theorem ggX9_whitney_X8_measure : GoodIn wsX9_whitney wsX8_measure := goodIn_r _ [25, 26, 27, 28, 29, 30, 31, 32, 33, 34, 35, 9, 36, 11, 37, 38, 39, 40, 41, 12, 13, 14, 61, 62, 63, 64, 65, 66, 67, 68, 69, 70, 71] (by decide +kernel) (by decide +kernel)
set_option maxRecDepth 20000 in
theorem gX9_whitney_X8_measure : GoodIn wsX9_whitney (wsV RX9 177 RX8 yX8_measure wsX8_measure) := goodIn_app (goodIn_of _ (by decide +kernel)) ggX9_whitney_X8_measure
set_option maxRecDepth 20000 in
theorem ggX9_whitney_X8_mobius : GoodIn wsX9_whitney wsX8_mobius := goodIn_r _ [45, 26, 46, 28, 33, 34, 35, 9, 36, 11, 37, 38, 39, 40, 41, 12, 13, 14, 47, 48, 49, 24, 50, 61, 62, 63, 64, 65, 66, 67, 68, 69, 70, 71] (by decide +kernel) (by decide +kernel)
set_option maxRecDepth 20000 in
theorem gX9_whitney_X8_mobius : GoodIn wsX9_whitney (wsV RX9 293 RX8 yX8_mobius wsX8_mobius) := goodIn_app (goodIn_of _ (by decide +kernel)) ggX9_whitney_X8_mobius
set_option maxRecDepth 20000 in
theorem ggX9_whitney_X9_isIn : GoodIn wsX9_whitney wsX9_isIn := goodIn_r _ [14] (by decide +kernel) (by decide +kernel)
set_option maxRecDepth 20000 in
theorem gX9_whitney_X9_isIn : GoodIn wsX9_whitney (va_wsS RX9 297 yX9_isIn wsX9_isIn) := goodIn_app (goodIn_of _ (by decide +kernel)) ggX9_whitney_X9_isIn
theorem dX9_whitney_0 : decode cX9_whitney 0 = .ok (.aload_n 0, 1) := by decide +kernel
theorem dX9_whitney_1 : decode cX9_whitney 1 = .ok (.getfield 21, 3) := by decide +kernel
theorem dX9_whitney_4 : decode cX9_whitney 4 = .ok (.iload_n 1, 1) := by decide +kernel
theorem dX9_whitney_5 : decode cX9_whitney 5 = .ok (.invokevirtual 104, 3) := by decide +kernel
theorem dX9_whitney_8 : decode cX9_whitney 8 = .ok (.ifCond .eq 16, 3) := by decide +kernel
theorem dX9_whitney_11 : decode cX9_whitney 11 = .ok (.iload_n 2, 1) := by decide +kernel
theorem dX9_whitney_12 : decode cX9_whitney 12 = .ok (.ifCond .lt 12, 3) := by decide +kernel
theorem dX9_whitney_15 : decode cX9_whitney 15 = .ok (.iload_n 3, 1) := by decide +kernel
theorem dX9_whitney_16 : decode cX9_whitney 16 = .ok (.ifCond .lt 8, 3) := by decide +kernel
theorem dX9_whitney_19 : decode cX9_whitney 19 = .ok (.iload_n 3, 1) := by decide +kernel
theorem dX9_whitney_20 : decode cX9_whitney 20 = .ok (.iconst 1, 1) := by decide +kernel
theorem dX9_whitney_21 : decode cX9_whitney 21 = .ok (.if_icmp .le 7, 3) := by decide +kernel
theorem dX9_whitney_24 : decode cX9_whitney 24 = .ok (.ldc_w 279, 3) := by decide +kernel
theorem dX9_whitney_27 : decode cX9_whitney 27 = .ok (.ireturn, 1) := by decide +kernel
theorem dX9_whitney_28 : decode cX9_whitney 28 = .ok (.aload_n 0, 1) := by decide +kernel
theorem dX9_whitney_29 : decode cX9_whitney 29 = .ok (.getfield 21, 3) := by decide +kernel
theorem dX9_whitney_32 : decode cX9_whitney 32 = .ok (.iload_n 1, 1) := by decide +kernel
theorem dX9_whitney_33 : decode cX9_whitney 33 = .ok (.invokevirtual 184, 3) := by decide +kernel
theorem dX9_whitney_36 : decode cX9_whitney 36 = .ok (.istore 4, 2) := by decide +kernel
theorem dX9_whitney_38 : decode cX9_whitney 38 = .ok (.aload_n 0, 1) := by decide +kernel
theorem dX9_whitney_39 : decode cX9_whitney 39 = .ok (.getfield 46, 3) := by decide +kernel
theorem dX9_whitney_42 : decode cX9_whitney 42 = .ok (.aload_n 0, 1) := by decide +kernel
theorem dX9_whitney_43 : decode cX9_whitney 43 = .ok (.getfield 21, 3) := by decide +kernel
theorem dX9_whitney_46 : decode cX9_whitney 46 = .ok (.iload 4, 2) := by decide +kernel
theorem dX9_whitney_48 : decode cX9_whitney 48 = .ok (.invokevirtual 177, 3) := by decide +kernel
theorem dX9_whitney_51 : decode cX9_whitney 51 = .ok (.aload_n 0, 1) := by decide +kernel
theorem dX9_whitney_52 : decode cX9_whitney 52 = .ok (.getfield 46, 3) := by decide +kernel
theorem dX9_whitney_55 : decode cX9_whitney 55 = .ok (.aload_n 0, 1) := by decide +kernel
theorem dX9_whitney_56 : decode cX9_whitney 56 = .ok (.getfield 21, 3) := by decide +kernel
theorem dX9_whitney_59 : decode cX9_whitney 59 = .ok (.iload_n 1, 1) := by decide +kernel
theorem dX9_whitney_60 : decode cX9_whitney 60 = .ok (.iload_n 1, 1) := by decide +kernel
theorem dX9_whitney_61 : decode cX9_whitney 61 = .ok (.iload 4, 2) := by decide +kernel
theorem dX9_whitney_63 : decode cX9_whitney 63 = .ok (.invokevirtual 293, 3) := by decide +kernel
theorem dX9_whitney_66 : decode cX9_whitney 66 = .ok (.pop, 1) := by decide +kernel
theorem dX9_whitney_67 : decode cX9_whitney 67 = .ok (.iconst 0, 1) := by decide +kernel
theorem dX9_whitney_68 : decode cX9_whitney 68 = .ok (.istore 5, 2) := by decide +kernel
theorem dX9_whitney_70 : decode cX9_whitney 70 = .ok (.iconst 0, 1) := by decide +kernel
theorem dX9_whitney_71 : decode cX9_whitney 71 = .ok (.istore 6, 2) := by decide +kernel
theorem dX9_whitney_73 : decode cX9_whitney 73 = .ok (.iload 6, 2) := by decide +kernel
theorem dX9_whitney_75 : decode cX9_whitney 75 = .ok (.bipush 9, 2) := by decide +kernel
theorem dX9_whitney_77 : decode cX9_whitney 77 = .ok (.if_icmp .ge 56, 3) := by decide +kernel
theorem dX9_whitney_80 : decode cX9_whitney 80 = .ok (.iload 4, 2) := by decide +kernel
theorem dX9_whitney_82 : decode cX9_whitney 82 = .ok (.iload 6, 2) := by decide +kernel
theorem dX9_whitney_84 : decode cX9_whitney 84 = .ok (.invokestatic 297, 3) := by decide +kernel
theorem dX9_whitney_87 : decode cX9_whitney 87 = .ok (.ifCond .eq 40, 3) := by decide +kernel
theorem dX9_whitney_90 : decode cX9_whitney 90 = .ok (.aload_n 0, 1) := by decide +kernel
theorem dX9_whitney_91 : decode cX9_whitney 91 = .ok (.getfield 46, 3) := by decide +kernel
theorem dX9_whitney_94 : decode cX9_whitney 94 = .ok (.getfield 181, 3) := by decide +kernel
theorem dX9_whitney_97 : decode cX9_whitney 97 = .ok (.iload 6, 2) := by decide +kernel
theorem dX9_whitney_99 : decode cX9_whitney 99 = .ok (.iaload, 1) := by decide +kernel
theorem dX9_whitney_100 : decode cX9_whitney 100 = .ok (.iload_n 2, 1) := by decide +kernel
theorem dX9_whitney_101 : decode cX9_whitney 101 = .ok (.if_icmp .ne 26, 3) := by decide +kernel
theorem dX9_whitney_104 : decode cX9_whitney 104 = .ok (.iload 5, 2) := by decide +kernel
theorem dX9_whitney_106 : decode cX9_whitney 106 = .ok (.iload_n 3, 1) := by decide +kernel
theorem dX9_whitney_107 : decode cX9_whitney 107 = .ok (.ifCond .ne 7, 3) := by decide +kernel
theorem dX9_whitney_110 : decode cX9_whitney 110 = .ok (.iconst 1, 1) := by decide +kernel
theorem dX9_whitney_111 : decode cX9_whitney 111 = .ok (.goto 13, 3) := by decide +kernel
theorem dX9_whitney_114 : decode cX9_whitney 114 = .ok (.aload_n 0, 1) := by decide +kernel
theorem dX9_whitney_115 : decode cX9_whitney 115 = .ok (.getfield 46, 3) := by decide +kernel
theorem dX9_whitney_118 : decode cX9_whitney 118 = .ok (.getfield 300, 3) := by decide +kernel
theorem dX9_whitney_121 : decode cX9_whitney 121 = .ok (.iload 6, 2) := by decide +kernel
theorem dX9_whitney_123 : decode cX9_whitney 123 = .ok (.iaload, 1) := by decide +kernel
theorem dX9_whitney_124 : decode cX9_whitney 124 = .ok (.iadd, 1) := by decide +kernel
theorem dX9_whitney_125 : decode cX9_whitney 125 = .ok (.istore 5, 2) := by decide +kernel
theorem dX9_whitney_127 : decode cX9_whitney 127 = .ok (.iinc 6 1, 3) := by decide +kernel
theorem dX9_whitney_130 : decode cX9_whitney 130 = .ok (.goto (-57), 3) := by decide +kernel
theorem dX9_whitney_133 : decode cX9_whitney 133 = .ok (.iload 5, 2) := by decide +kernel
theorem dX9_whitney_135 : decode cX9_whitney 135 = .ok (.ireturn, 1) := by decide +kernel
set_option maxRecDepth 20000 in
theorem ggX9_zeta_X9_troubleOf : GoodIn wsX9_zeta wsX9_troubleOf := goodIn_r _ [9, 3, 10, 11, 12, 13, 14, 15, 16, 8, 17, 18, 19, 20, 21, 22, 23, 74, 75, 76, 77, 78, 79, 80, 81, 82, 83, 84, 85, 86, 87, 88] (by decide +kernel) (by decide +kernel)
set_option maxRecDepth 20000 in
theorem gX9_zeta_X9_troubleOf : GoodIn wsX9_zeta (wsV RX9 230 RX9 yX9_troubleOf wsX9_troubleOf) := goodIn_app (goodIn_of _ (by decide +kernel)) ggX9_zeta_X9_troubleOf
set_option maxRecDepth 20000 in
theorem ggX9_zeta_X6_between : GoodIn wsX9_zeta wsX6_between := goodIn_r _ [27, 28, 29, 30, 13, 31, 22, 23, 11, 12, 14, 15, 16, 8, 17, 32, 33, 34, 35, 36, 83, 84, 85, 86, 87, 88] (by decide +kernel) (by decide +kernel)
set_option maxRecDepth 20000 in
theorem gX9_zeta_X6_between : GoodIn wsX9_zeta (wsV RX9 233 RX6 yX6_between wsX6_between) := goodIn_app (goodIn_of _ (by decide +kernel)) ggX9_zeta_X6_between
set_option maxRecDepth 20000 in
theorem ggX9_zeta_X8_walk : GoodIn wsX9_zeta wsX8_walk := goodIn_r _ [41, 42, 43, 44, 45, 46, 47, 48, 49, 50, 51, 13, 52, 15, 53, 54, 55, 56, 36, 16, 8, 17, 57, 58, 59, 40, 60, 89, 90, 91, 92, 93, 83, 84, 85, 86, 87, 88] (by decide +kernel) (by decide +kernel)
set_option maxRecDepth 20000 in
theorem gX9_zeta_X8_walk : GoodIn wsX9_zeta (wsV RX9 305 RX8 yX8_walk wsX8_walk) := goodIn_app (goodIn_of _ (by decide +kernel)) ggX9_zeta_X8_walk
set_option maxRecDepth 20000 in
theorem ggX9_zeta_X8_zetaOf : GoodIn wsX9_zeta wsX8_zetaOf := goodIn_r _ [64, 65, 66, 67, 68, 40, 69, 70, 71, 72, 73, 42, 89, 90, 91, 92, 93] (by decide +kernel) (by decide +kernel)
set_option maxRecDepth 20000 in
theorem gX9_zeta_X8_zetaOf : GoodIn wsX9_zeta (wsV RX9 308 RX8 yX8_zetaOf wsX8_zetaOf) := goodIn_app (goodIn_of _ (by decide +kernel)) ggX9_zeta_X8_zetaOf
theorem dX9_zeta_0 : decode cX9_zeta 0 = .ok (.iload_n 3, 1) := by decide +kernel
theorem dX9_zeta_1 : decode cX9_zeta 1 = .ok (.iconst 1, 1) := by decide +kernel
theorem dX9_zeta_2 : decode cX9_zeta 2 = .ok (.if_icmp .lt 10, 3) := by decide +kernel
theorem dX9_zeta_5 : decode cX9_zeta 5 = .ok (.iload_n 3, 1) := by decide +kernel
theorem dX9_zeta_6 : decode cX9_zeta 6 = .ok (.sipush 1000, 3) := by decide +kernel
theorem dX9_zeta_9 : decode cX9_zeta 9 = .ok (.if_icmp .le 7, 3) := by decide +kernel
theorem dX9_zeta_12 : decode cX9_zeta 12 = .ok (.ldc2_w 303, 3) := by decide +kernel
theorem dX9_zeta_15 : decode cX9_zeta 15 = .ok (.lreturn, 1) := by decide +kernel
theorem dX9_zeta_16 : decode cX9_zeta 16 = .ok (.aload_n 0, 1) := by decide +kernel
theorem dX9_zeta_17 : decode cX9_zeta 17 = .ok (.iload_n 1, 1) := by decide +kernel
theorem dX9_zeta_18 : decode cX9_zeta 18 = .ok (.iload_n 2, 1) := by decide +kernel
theorem dX9_zeta_19 : decode cX9_zeta 19 = .ok (.invokevirtual 230, 3) := by decide +kernel
theorem dX9_zeta_22 : decode cX9_zeta 22 = .ok (.istore 4, 2) := by decide +kernel
theorem dX9_zeta_24 : decode cX9_zeta 24 = .ok (.iload 4, 2) := by decide +kernel
theorem dX9_zeta_26 : decode cX9_zeta 26 = .ok (.ifCond .eq 7, 3) := by decide +kernel
theorem dX9_zeta_29 : decode cX9_zeta 29 = .ok (.iload 4, 2) := by decide +kernel
theorem dX9_zeta_31 : decode cX9_zeta 31 = .ok (.i2l, 1) := by decide +kernel
theorem dX9_zeta_32 : decode cX9_zeta 32 = .ok (.lreturn, 1) := by decide +kernel
theorem dX9_zeta_33 : decode cX9_zeta 33 = .ok (.aload_n 0, 1) := by decide +kernel
theorem dX9_zeta_34 : decode cX9_zeta 34 = .ok (.getfield 46, 3) := by decide +kernel
theorem dX9_zeta_37 : decode cX9_zeta 37 = .ok (.aload_n 0, 1) := by decide +kernel
theorem dX9_zeta_38 : decode cX9_zeta 38 = .ok (.getfield 21, 3) := by decide +kernel
theorem dX9_zeta_41 : decode cX9_zeta 41 = .ok (.iload_n 1, 1) := by decide +kernel
theorem dX9_zeta_42 : decode cX9_zeta 42 = .ok (.aload_n 0, 1) := by decide +kernel
theorem dX9_zeta_43 : decode cX9_zeta 43 = .ok (.getfield 21, 3) := by decide +kernel
theorem dX9_zeta_46 : decode cX9_zeta 46 = .ok (.iload_n 1, 1) := by decide +kernel
theorem dX9_zeta_47 : decode cX9_zeta 47 = .ok (.iload_n 2, 1) := by decide +kernel
theorem dX9_zeta_48 : decode cX9_zeta 48 = .ok (.invokevirtual 233, 3) := by decide +kernel
theorem dX9_zeta_51 : decode cX9_zeta 51 = .ok (.invokevirtual 305, 3) := by decide +kernel
theorem dX9_zeta_54 : decode cX9_zeta 54 = .ok (.aload_n 0, 1) := by decide +kernel
theorem dX9_zeta_55 : decode cX9_zeta 55 = .ok (.getfield 46, 3) := by decide +kernel
theorem dX9_zeta_58 : decode cX9_zeta 58 = .ok (.iload_n 2, 1) := by decide +kernel
theorem dX9_zeta_59 : decode cX9_zeta 59 = .ok (.iload_n 3, 1) := by decide +kernel
theorem dX9_zeta_60 : decode cX9_zeta 60 = .ok (.invokevirtual 308, 3) := by decide +kernel
theorem dX9_zeta_63 : decode cX9_zeta 63 = .ok (.lstore 5, 2) := by decide +kernel
theorem dX9_zeta_65 : decode cX9_zeta 65 = .ok (.lload 5, 2) := by decide +kernel
theorem dX9_zeta_67 : decode cX9_zeta 67 = .ok (.lconst 0, 1) := by decide +kernel
theorem dX9_zeta_68 : decode cX9_zeta 68 = .ok (.lcmp, 1) := by decide +kernel
theorem dX9_zeta_69 : decode cX9_zeta 69 = .ok (.ifCond .ge 9, 3) := by decide +kernel
theorem dX9_zeta_72 : decode cX9_zeta 72 = .ok (.ldc2_w 312, 3) := by decide +kernel
theorem dX9_zeta_75 : decode cX9_zeta 75 = .ok (.goto 5, 3) := by decide +kernel
theorem dX9_zeta_78 : decode cX9_zeta 78 = .ok (.lload 5, 2) := by decide +kernel
theorem dX9_zeta_80 : decode cX9_zeta 80 = .ok (.lreturn, 1) := by decide +kernel
set_option maxRecDepth 20000 in
theorem ggX9_steps_X9_troubleOf : GoodIn wsX9_steps wsX9_troubleOf := goodIn_r _ [7, 2, 8, 9, 10, 11, 12, 13, 14, 6, 15, 16, 17, 18, 19, 20, 21, 63, 64, 65, 66, 67, 68, 69, 70, 71, 72, 73, 74, 75, 76, 77] (by decide +kernel) (by decide +kernel)
set_option maxRecDepth 20000 in
theorem gX9_steps_X9_troubleOf : GoodIn wsX9_steps (wsV RX9 230 RX9 yX9_troubleOf wsX9_troubleOf) := goodIn_app (goodIn_of _ (by decide +kernel)) ggX9_steps_X9_troubleOf
set_option maxRecDepth 20000 in
theorem ggX9_steps_X6_between : GoodIn wsX9_steps wsX6_between := goodIn_r _ [25, 26, 27, 28, 11, 29, 20, 21, 9, 10, 12, 13, 14, 6, 15, 30, 31, 32, 33, 34, 72, 73, 74, 75, 76, 77] (by decide +kernel) (by decide +kernel)
set_option maxRecDepth 20000 in
theorem gX9_steps_X6_between : GoodIn wsX9_steps (wsV RX9 233 RX6 yX6_between wsX6_between) := goodIn_app (goodIn_of _ (by decide +kernel)) ggX9_steps_X6_between
set_option maxRecDepth 20000 in
theorem ggX9_steps_X8_walk : GoodIn wsX9_steps wsX8_walk := goodIn_r _ [39, 40, 41, 42, 43, 44, 45, 46, 47, 48, 49, 11, 50, 13, 51, 52, 53, 54, 34, 14, 6, 15, 55, 56, 57, 38, 58, 78, 79, 80, 81, 82, 72, 73, 74, 75, 76, 77] (by decide +kernel) (by decide +kernel)
set_option maxRecDepth 20000 in
theorem gX9_steps_X8_walk : GoodIn wsX9_steps (wsV RX9 305 RX8 yX8_walk wsX8_walk) := goodIn_app (goodIn_of _ (by decide +kernel)) ggX9_steps_X8_walk
set_option maxRecDepth 20000 in
theorem ggX9_steps_X8_walksTo : GoodIn wsX9_steps wsX8_walksTo := goodIn_r _ [62, 40, 78, 79, 80, 81, 82] (by decide +kernel) (by decide +kernel)
set_option maxRecDepth 20000 in
theorem gX9_steps_X8_walksTo : GoodIn wsX9_steps (wsV RX9 314 RX8 yX8_walksTo wsX8_walksTo) := goodIn_app (goodIn_of _ (by decide +kernel)) ggX9_steps_X8_walksTo
theorem dX9_steps_0 : decode cX9_steps 0 = .ok (.iload_n 3, 1) := by decide +kernel
theorem dX9_steps_1 : decode cX9_steps 1 = .ok (.ifCond .ge 5, 3) := by decide +kernel
theorem dX9_steps_4 : decode cX9_steps 4 = .ok (.iconst (-1), 1) := by decide +kernel
theorem dX9_steps_5 : decode cX9_steps 5 = .ok (.ireturn, 1) := by decide +kernel
theorem dX9_steps_6 : decode cX9_steps 6 = .ok (.aload_n 0, 1) := by decide +kernel
theorem dX9_steps_7 : decode cX9_steps 7 = .ok (.iload_n 1, 1) := by decide +kernel
theorem dX9_steps_8 : decode cX9_steps 8 = .ok (.iload_n 2, 1) := by decide +kernel
theorem dX9_steps_9 : decode cX9_steps 9 = .ok (.invokevirtual 230, 3) := by decide +kernel
theorem dX9_steps_12 : decode cX9_steps 12 = .ok (.istore 4, 2) := by decide +kernel
theorem dX9_steps_14 : decode cX9_steps 14 = .ok (.iload 4, 2) := by decide +kernel
theorem dX9_steps_16 : decode cX9_steps 16 = .ok (.ifCond .eq 6, 3) := by decide +kernel
theorem dX9_steps_19 : decode cX9_steps 19 = .ok (.iload 4, 2) := by decide +kernel
theorem dX9_steps_21 : decode cX9_steps 21 = .ok (.ireturn, 1) := by decide +kernel
theorem dX9_steps_22 : decode cX9_steps 22 = .ok (.aload_n 0, 1) := by decide +kernel
theorem dX9_steps_23 : decode cX9_steps 23 = .ok (.getfield 46, 3) := by decide +kernel
theorem dX9_steps_26 : decode cX9_steps 26 = .ok (.aload_n 0, 1) := by decide +kernel
theorem dX9_steps_27 : decode cX9_steps 27 = .ok (.getfield 21, 3) := by decide +kernel
theorem dX9_steps_30 : decode cX9_steps 30 = .ok (.iload_n 1, 1) := by decide +kernel
theorem dX9_steps_31 : decode cX9_steps 31 = .ok (.aload_n 0, 1) := by decide +kernel
theorem dX9_steps_32 : decode cX9_steps 32 = .ok (.getfield 21, 3) := by decide +kernel
theorem dX9_steps_35 : decode cX9_steps 35 = .ok (.iload_n 1, 1) := by decide +kernel
theorem dX9_steps_36 : decode cX9_steps 36 = .ok (.iload_n 2, 1) := by decide +kernel
theorem dX9_steps_37 : decode cX9_steps 37 = .ok (.invokevirtual 233, 3) := by decide +kernel
theorem dX9_steps_40 : decode cX9_steps 40 = .ok (.invokevirtual 305, 3) := by decide +kernel
theorem dX9_steps_43 : decode cX9_steps 43 = .ok (.aload_n 0, 1) := by decide +kernel
theorem dX9_steps_44 : decode cX9_steps 44 = .ok (.getfield 46, 3) := by decide +kernel
theorem dX9_steps_47 : decode cX9_steps 47 = .ok (.iload_n 2, 1) := by decide +kernel
theorem dX9_steps_48 : decode cX9_steps 48 = .ok (.iload_n 3, 1) := by decide +kernel
theorem dX9_steps_49 : decode cX9_steps 49 = .ok (.invokevirtual 314, 3) := by decide +kernel
theorem dX9_steps_52 : decode cX9_steps 52 = .ok (.ireturn, 1) := by decide +kernel
set_option maxRecDepth 20000 in
theorem ggX9_faces_X9_troubleWithin : GoodIn wsX9_faces wsX9_troubleWithin := goodIn_r _ [7, 8, 9, 10, 6, 11, 2, 12, 13, 14, 15, 16, 17, 18, 19, 20, 21, 22, 23, 24, 25, 67, 68, 69, 70, 71, 72, 73, 74, 75, 76, 77, 78, 79, 80, 81] (by decide +kernel) (by decide +kernel)
set_option maxRecDepth 20000 in
theorem gX9_faces_X9_troubleWithin : GoodIn wsX9_faces (wsV RX9 317 RX9 yX9_troubleWithin wsX9_troubleWithin) := goodIn_app (goodIn_of _ (by decide +kernel)) ggX9_faces_X9_troubleWithin
set_option maxRecDepth 20000 in
theorem ggX9_faces_X6_between : GoodIn wsX9_faces wsX6_between := goodIn_r _ [29, 30, 31, 32, 15, 33, 24, 25, 13, 14, 16, 17, 18, 6, 19, 34, 35, 36, 37, 38, 76, 77, 78, 79, 80, 81] (by decide +kernel) (by decide +kernel)
set_option maxRecDepth 20000 in
theorem gX9_faces_X6_between : GoodIn wsX9_faces (wsV RX9 233 RX6 yX6_between wsX6_between) := goodIn_app (goodIn_of _ (by decide +kernel)) ggX9_faces_X6_between
set_option maxRecDepth 20000 in
theorem ggX9_faces_X8_walk : GoodIn wsX9_faces wsX8_walk := goodIn_r _ [43, 44, 45, 46, 47, 48, 49, 50, 51, 52, 53, 15, 54, 17, 55, 56, 57, 58, 38, 18, 6, 19, 59, 60, 61, 42, 62, 82, 83, 84, 85, 86, 76, 77, 78, 79, 80, 81] (by decide +kernel) (by decide +kernel)
set_option maxRecDepth 20000 in
theorem gX9_faces_X8_walk : GoodIn wsX9_faces (wsV RX9 305 RX8 yX8_walk wsX8_walk) := goodIn_app (goodIn_of _ (by decide +kernel)) ggX9_faces_X8_walk
set_option maxRecDepth 20000 in
theorem ggX9_faces_X8_walksTo : GoodIn wsX9_faces wsX8_walksTo := goodIn_r _ [66, 44, 82, 83, 84, 85, 86] (by decide +kernel) (by decide +kernel)
set_option maxRecDepth 20000 in
theorem gX9_faces_X8_walksTo : GoodIn wsX9_faces (wsV RX9 314 RX8 yX8_walksTo wsX8_walksTo) := goodIn_app (goodIn_of _ (by decide +kernel)) ggX9_faces_X8_walksTo
theorem dX9_faces_0 : decode cX9_faces 0 = .ok (.iload_n 3, 1) := by decide +kernel
theorem dX9_faces_1 : decode cX9_faces 1 = .ok (.iconst (-1), 1) := by decide +kernel
theorem dX9_faces_2 : decode cX9_faces 2 = .ok (.if_icmp .ge 5, 3) := by decide +kernel
theorem dX9_faces_5 : decode cX9_faces 5 = .ok (.iconst (-1), 1) := by decide +kernel
theorem dX9_faces_6 : decode cX9_faces 6 = .ok (.ireturn, 1) := by decide +kernel
theorem dX9_faces_7 : decode cX9_faces 7 = .ok (.aload_n 0, 1) := by decide +kernel
theorem dX9_faces_8 : decode cX9_faces 8 = .ok (.iload_n 1, 1) := by decide +kernel
theorem dX9_faces_9 : decode cX9_faces 9 = .ok (.iload_n 2, 1) := by decide +kernel
theorem dX9_faces_10 : decode cX9_faces 10 = .ok (.invokevirtual 317, 3) := by decide +kernel
theorem dX9_faces_13 : decode cX9_faces 13 = .ok (.istore 4, 2) := by decide +kernel
theorem dX9_faces_15 : decode cX9_faces 15 = .ok (.iload 4, 2) := by decide +kernel
theorem dX9_faces_17 : decode cX9_faces 17 = .ok (.ifCond .eq 6, 3) := by decide +kernel
theorem dX9_faces_20 : decode cX9_faces 20 = .ok (.iload 4, 2) := by decide +kernel
theorem dX9_faces_22 : decode cX9_faces 22 = .ok (.ireturn, 1) := by decide +kernel
theorem dX9_faces_23 : decode cX9_faces 23 = .ok (.iload_n 3, 1) := by decide +kernel
theorem dX9_faces_24 : decode cX9_faces 24 = .ok (.bipush 8, 2) := by decide +kernel
theorem dX9_faces_26 : decode cX9_faces 26 = .ok (.if_icmp .le 5, 3) := by decide +kernel
theorem dX9_faces_29 : decode cX9_faces 29 = .ok (.iconst 0, 1) := by decide +kernel
theorem dX9_faces_30 : decode cX9_faces 30 = .ok (.ireturn, 1) := by decide +kernel
theorem dX9_faces_31 : decode cX9_faces 31 = .ok (.aload_n 0, 1) := by decide +kernel
theorem dX9_faces_32 : decode cX9_faces 32 = .ok (.getfield 46, 3) := by decide +kernel
theorem dX9_faces_35 : decode cX9_faces 35 = .ok (.aload_n 0, 1) := by decide +kernel
theorem dX9_faces_36 : decode cX9_faces 36 = .ok (.getfield 21, 3) := by decide +kernel
theorem dX9_faces_39 : decode cX9_faces 39 = .ok (.iload_n 1, 1) := by decide +kernel
theorem dX9_faces_40 : decode cX9_faces 40 = .ok (.aload_n 0, 1) := by decide +kernel
theorem dX9_faces_41 : decode cX9_faces 41 = .ok (.getfield 21, 3) := by decide +kernel
theorem dX9_faces_44 : decode cX9_faces 44 = .ok (.iload_n 1, 1) := by decide +kernel
theorem dX9_faces_45 : decode cX9_faces 45 = .ok (.iload_n 2, 1) := by decide +kernel
theorem dX9_faces_46 : decode cX9_faces 46 = .ok (.invokevirtual 233, 3) := by decide +kernel
theorem dX9_faces_49 : decode cX9_faces 49 = .ok (.invokevirtual 305, 3) := by decide +kernel
theorem dX9_faces_52 : decode cX9_faces 52 = .ok (.aload_n 0, 1) := by decide +kernel
theorem dX9_faces_53 : decode cX9_faces 53 = .ok (.getfield 46, 3) := by decide +kernel
theorem dX9_faces_56 : decode cX9_faces 56 = .ok (.iload_n 2, 1) := by decide +kernel
theorem dX9_faces_57 : decode cX9_faces 57 = .ok (.iload_n 3, 1) := by decide +kernel
theorem dX9_faces_58 : decode cX9_faces 58 = .ok (.iconst 2, 1) := by decide +kernel
theorem dX9_faces_59 : decode cX9_faces 59 = .ok (.iadd, 1) := by decide +kernel
theorem dX9_faces_60 : decode cX9_faces 60 = .ok (.invokevirtual 314, 3) := by decide +kernel
theorem dX9_faces_63 : decode cX9_faces 63 = .ok (.ireturn, 1) := by decide +kernel
set_option maxRecDepth 20000 in
theorem ggX9_holes_X9_troubleWithin : GoodIn wsX9_holes wsX9_troubleWithin := goodIn_r _ [7, 8, 9, 10, 6, 11, 1, 12, 13, 14, 15, 16, 17, 18, 19, 20, 21, 22, 23, 24, 25, 85, 86, 87, 88, 89, 90, 91, 92, 93, 94, 95, 96, 97, 98, 99] (by decide +kernel) (by decide +kernel)
set_option maxRecDepth 20000 in
theorem gX9_holes_X9_troubleWithin : GoodIn wsX9_holes (wsV RX9 317 RX9 yX9_troubleWithin wsX9_troubleWithin) := goodIn_app (goodIn_of _ (by decide +kernel)) ggX9_holes_X9_troubleWithin
set_option maxRecDepth 20000 in
theorem ggX9_holes_X6_innerOf : GoodIn wsX9_holes wsX6_innerOf := goodIn_r _ [29, 24, 30, 25, 13, 14, 15, 16, 17, 18, 6, 19, 94, 95, 96, 97, 98, 99] (by decide +kernel) (by decide +kernel)
set_option maxRecDepth 20000 in
theorem gX9_holes_X6_innerOf : GoodIn wsX9_holes (wsV RX9 280 RX6 yX6_innerOf wsX6_innerOf) := goodIn_app (goodIn_of _ (by decide +kernel)) ggX9_holes_X6_innerOf
set_option maxRecDepth 20000 in
theorem ggX9_holes_X3_list : GoodIn wsX9_holes wsX3_list := goodIn_r _ [35, 36, 37, 38, 34, 39, 40, 41, 42, 43, 44, 45, 46, 47, 48, 49, 15, 50, 24, 30, 18, 6, 19, 100, 101, 102, 94, 95, 96, 97, 98, 99] (by decide +kernel) (by decide +kernel)
set_option maxRecDepth 20000 in
theorem gX9_holes_X3_list : GoodIn wsX9_holes (wsV RX9 320 RX3 yX3_list wsX3_list) := goodIn_app (goodIn_of _ (by decide +kernel)) ggX9_holes_X3_list
set_option maxRecDepth 20000 in
theorem ggX9_holes_X3_rank : GoodIn wsX9_holes wsX3_rank := goodIn_r _ [54, 55, 56, 57, 58, 59, 60, 32, 33, 34, 35, 36, 37, 38, 39, 40, 41, 42, 43, 44, 45, 46, 47, 48, 49, 15, 50, 24, 30, 18, 6, 19, 61, 62, 63, 64, 65, 66, 67, 68, 69, 70, 71, 72, 73, 74, 75, 76, 77, 78, 79, 80, 81, 82, 83, 84, 100, 101, 102, 94, 95, 96, 97, 98, 99] (by decide +kernel) (by decide +kernel)
set_option maxRecDepth 20000 in
theorem gX9_holes_X3_rank : GoodIn wsX9_holes (wsV RX9 322 RX3 yX3_rank wsX3_rank) := goodIn_app (goodIn_of _ (by decide +kernel)) ggX9_holes_X3_rank
theorem dX9_holes_0 : decode cX9_holes 0 = .ok (.iload_n 3, 1) := by decide +kernel
theorem dX9_holes_1 : decode cX9_holes 1 = .ok (.iconst (-1), 1) := by decide +kernel
theorem dX9_holes_2 : decode cX9_holes 2 = .ok (.if_icmp .lt 28, 3) := by decide +kernel
theorem dX9_holes_5 : decode cX9_holes 5 = .ok (.iload 4, 2) := by decide +kernel
theorem dX9_holes_7 : decode cX9_holes 7 = .ok (.iconst 2, 1) := by decide +kernel
theorem dX9_holes_8 : decode cX9_holes 8 = .ok (.if_icmp .eq 24, 3) := by decide +kernel
theorem dX9_holes_11 : decode cX9_holes 11 = .ok (.iload 4, 2) := by decide +kernel
theorem dX9_holes_13 : decode cX9_holes 13 = .ok (.iconst 3, 1) := by decide +kernel
theorem dX9_holes_14 : decode cX9_holes 14 = .ok (.if_icmp .eq 18, 3) := by decide +kernel
theorem dX9_holes_17 : decode cX9_holes 17 = .ok (.iload 4, 2) := by decide +kernel
theorem dX9_holes_19 : decode cX9_holes 19 = .ok (.iconst 5, 1) := by decide +kernel
theorem dX9_holes_20 : decode cX9_holes 20 = .ok (.if_icmp .eq 12, 3) := by decide +kernel
theorem dX9_holes_23 : decode cX9_holes 23 = .ok (.iload 4, 2) := by decide +kernel
theorem dX9_holes_25 : decode cX9_holes 25 = .ok (.bipush 7, 2) := by decide +kernel
theorem dX9_holes_27 : decode cX9_holes 27 = .ok (.if_icmp .eq 5, 3) := by decide +kernel
theorem dX9_holes_30 : decode cX9_holes 30 = .ok (.iconst (-1), 1) := by decide +kernel
theorem dX9_holes_31 : decode cX9_holes 31 = .ok (.ireturn, 1) := by decide +kernel
theorem dX9_holes_32 : decode cX9_holes 32 = .ok (.aload_n 0, 1) := by decide +kernel
theorem dX9_holes_33 : decode cX9_holes 33 = .ok (.iload_n 1, 1) := by decide +kernel
theorem dX9_holes_34 : decode cX9_holes 34 = .ok (.iload_n 2, 1) := by decide +kernel
theorem dX9_holes_35 : decode cX9_holes 35 = .ok (.invokevirtual 317, 3) := by decide +kernel
theorem dX9_holes_38 : decode cX9_holes 38 = .ok (.istore 5, 2) := by decide +kernel
theorem dX9_holes_40 : decode cX9_holes 40 = .ok (.iload 5, 2) := by decide +kernel
theorem dX9_holes_42 : decode cX9_holes 42 = .ok (.ifCond .eq 6, 3) := by decide +kernel
theorem dX9_holes_45 : decode cX9_holes 45 = .ok (.iload 5, 2) := by decide +kernel
theorem dX9_holes_47 : decode cX9_holes 47 = .ok (.ireturn, 1) := by decide +kernel
theorem dX9_holes_48 : decode cX9_holes 48 = .ok (.iload_n 3, 1) := by decide +kernel
theorem dX9_holes_49 : decode cX9_holes 49 = .ok (.bipush 8, 2) := by decide +kernel
theorem dX9_holes_51 : decode cX9_holes 51 = .ok (.if_icmp .le 5, 3) := by decide +kernel
theorem dX9_holes_54 : decode cX9_holes 54 = .ok (.iconst 0, 1) := by decide +kernel
theorem dX9_holes_55 : decode cX9_holes 55 = .ok (.ireturn, 1) := by decide +kernel
theorem dX9_holes_56 : decode cX9_holes 56 = .ok (.aload_n 0, 1) := by decide +kernel
theorem dX9_holes_57 : decode cX9_holes 57 = .ok (.getfield 21, 3) := by decide +kernel
theorem dX9_holes_60 : decode cX9_holes 60 = .ok (.iload_n 1, 1) := by decide +kernel
theorem dX9_holes_61 : decode cX9_holes 61 = .ok (.iload_n 2, 1) := by decide +kernel
theorem dX9_holes_62 : decode cX9_holes 62 = .ok (.invokevirtual 280, 3) := by decide +kernel
theorem dX9_holes_65 : decode cX9_holes 65 = .ok (.istore 6, 2) := by decide +kernel
theorem dX9_holes_67 : decode cX9_holes 67 = .ok (.iload_n 3, 1) := by decide +kernel
theorem dX9_holes_68 : decode cX9_holes 68 = .ok (.iconst 1, 1) := by decide +kernel
theorem dX9_holes_69 : decode cX9_holes 69 = .ok (.iadd, 1) := by decide +kernel
theorem dX9_holes_70 : decode cX9_holes 70 = .ok (.istore 7, 2) := by decide +kernel
theorem dX9_holes_72 : decode cX9_holes 72 = .ok (.aload_n 0, 1) := by decide +kernel
theorem dX9_holes_73 : decode cX9_holes 73 = .ok (.getfield 60, 3) := by decide +kernel
theorem dX9_holes_76 : decode cX9_holes 76 = .ok (.aload_n 0, 1) := by decide +kernel
theorem dX9_holes_77 : decode cX9_holes 77 = .ok (.getfield 21, 3) := by decide +kernel
theorem dX9_holes_80 : decode cX9_holes 80 = .ok (.iload 6, 2) := by decide +kernel
theorem dX9_holes_82 : decode cX9_holes 82 = .ok (.iload 7, 2) := by decide +kernel
theorem dX9_holes_84 : decode cX9_holes 84 = .ok (.invokevirtual 320, 3) := by decide +kernel
theorem dX9_holes_87 : decode cX9_holes 87 = .ok (.aload_n 0, 1) := by decide +kernel
theorem dX9_holes_88 : decode cX9_holes 88 = .ok (.getfield 60, 3) := by decide +kernel
theorem dX9_holes_91 : decode cX9_holes 91 = .ok (.aload_n 0, 1) := by decide +kernel
theorem dX9_holes_92 : decode cX9_holes 92 = .ok (.getfield 21, 3) := by decide +kernel
theorem dX9_holes_95 : decode cX9_holes 95 = .ok (.iload 6, 2) := by decide +kernel
theorem dX9_holes_97 : decode cX9_holes 97 = .ok (.iload 7, 2) := by decide +kernel
theorem dX9_holes_99 : decode cX9_holes 99 = .ok (.iload 4, 2) := by decide +kernel
theorem dX9_holes_101 : decode cX9_holes 101 = .ok (.invokevirtual 322, 3) := by decide +kernel
theorem dX9_holes_104 : decode cX9_holes 104 = .ok (.isub, 1) := by decide +kernel
theorem dX9_holes_105 : decode cX9_holes 105 = .ok (.aload_n 0, 1) := by decide +kernel
theorem dX9_holes_106 : decode cX9_holes 106 = .ok (.getfield 60, 3) := by decide +kernel
theorem dX9_holes_109 : decode cX9_holes 109 = .ok (.aload_n 0, 1) := by decide +kernel
theorem dX9_holes_110 : decode cX9_holes 110 = .ok (.getfield 21, 3) := by decide +kernel
theorem dX9_holes_113 : decode cX9_holes 113 = .ok (.iload 6, 2) := by decide +kernel
theorem dX9_holes_115 : decode cX9_holes 115 = .ok (.iload 7, 2) := by decide +kernel
theorem dX9_holes_117 : decode cX9_holes 117 = .ok (.iconst 1, 1) := by decide +kernel
theorem dX9_holes_118 : decode cX9_holes 118 = .ok (.iadd, 1) := by decide +kernel
theorem dX9_holes_119 : decode cX9_holes 119 = .ok (.iload 4, 2) := by decide +kernel
theorem dX9_holes_121 : decode cX9_holes 121 = .ok (.invokevirtual 322, 3) := by decide +kernel
theorem dX9_holes_124 : decode cX9_holes 124 = .ok (.isub, 1) := by decide +kernel
theorem dX9_holes_125 : decode cX9_holes 125 = .ok (.ireturn, 1) := by decide +kernel
set_option maxRecDepth 20000 in
theorem ggX9_shelled_X9_troubleWithin : GoodIn wsX9_shelled wsX9_troubleWithin := goodIn_r _ [8, 9, 10, 11, 7, 12, 2, 13, 14, 15, 16, 17, 18, 19, 20, 21, 22, 23, 24, 25, 26, 108, 109, 110, 111, 112, 113, 114, 115, 116, 120, 121, 122, 123, 124, 125] (by decide +kernel) (by decide +kernel)
set_option maxRecDepth 20000 in
theorem gX9_shelled_X9_troubleWithin : GoodIn wsX9_shelled (wsV RX9 317 RX9 yX9_troubleWithin wsX9_troubleWithin) := goodIn_app (goodIn_of _ (by decide +kernel)) ggX9_shelled_X9_troubleWithin
set_option maxRecDepth 20000 in
theorem ggX9_shelled_X2_fill : GoodIn wsX9_shelled wsX2_fill := goodIn_r _ [31, 32, 33, 34, 35, 36, 30, 37, 38, 39, 40, 41, 42, 43, 44, 45, 46, 47, 48, 49, 50, 51, 52, 53, 54, 55, 56, 57, 58, 16, 59, 60, 61, 62, 63, 64, 65, 66, 67, 68, 69, 70, 71, 72, 73, 74, 75, 76, 77, 78, 79, 80, 26, 14, 15, 17, 18, 19, 7, 20, 81, 82, 83, 84, 25, 85, 86, 87, 117, 118, 119, 126, 127, 128, 129, 120, 121, 122, 123, 124, 125] (by decide +kernel) (by decide +kernel)
set_option maxRecDepth 20000 in
theorem gX9_shelled_X2_fill : GoodIn wsX9_shelled (wsV RX9 236 RX2 yX2_fill wsX2_fill) := goodIn_app (goodIn_of _ (by decide +kernel)) ggX9_shelled_X2_fill
set_option maxRecDepth 20000 in
theorem ggX9_shelled_X2_isShell : GoodIn wsX9_shelled wsX2_isShell := goodIn_r _ [91, 42, 92, 93, 94, 95, 30, 96, 97, 98, 99, 100, 101, 102, 103, 104, 105, 106, 107, 117, 118, 119, 126, 127, 128, 129] (by decide +kernel) (by decide +kernel)
set_option maxRecDepth 20000 in
theorem gX9_shelled_X2_isShell : GoodIn wsX9_shelled (wsV RX9 325 RX2 yX2_isShell wsX2_isShell) := goodIn_app (goodIn_of _ (by decide +kernel)) ggX9_shelled_X2_isShell
theorem dX9_shelled_0 : decode cX9_shelled 0 = .ok (.aload_n 0, 1) := by decide +kernel
theorem dX9_shelled_1 : decode cX9_shelled 1 = .ok (.iload_n 1, 1) := by decide +kernel
theorem dX9_shelled_2 : decode cX9_shelled 2 = .ok (.iload_n 2, 1) := by decide +kernel
theorem dX9_shelled_3 : decode cX9_shelled 3 = .ok (.invokevirtual 317, 3) := by decide +kernel
theorem dX9_shelled_6 : decode cX9_shelled 6 = .ok (.istore_n 3, 1) := by decide +kernel
theorem dX9_shelled_7 : decode cX9_shelled 7 = .ok (.iload_n 3, 1) := by decide +kernel
theorem dX9_shelled_8 : decode cX9_shelled 8 = .ok (.ifCond .eq 15, 3) := by decide +kernel
theorem dX9_shelled_11 : decode cX9_shelled 11 = .ok (.iload_n 3, 1) := by decide +kernel
theorem dX9_shelled_12 : decode cX9_shelled 12 = .ok (.iconst (-1), 1) := by decide +kernel
theorem dX9_shelled_13 : decode cX9_shelled 13 = .ok (.if_icmp .ne 8, 3) := by decide +kernel
theorem dX9_shelled_16 : decode cX9_shelled 16 = .ok (.bipush (-3), 2) := by decide +kernel
theorem dX9_shelled_18 : decode cX9_shelled 18 = .ok (.goto 4, 3) := by decide +kernel
theorem dX9_shelled_21 : decode cX9_shelled 21 = .ok (.iload_n 3, 1) := by decide +kernel
theorem dX9_shelled_22 : decode cX9_shelled 22 = .ok (.ireturn, 1) := by decide +kernel
theorem dX9_shelled_23 : decode cX9_shelled 23 = .ok (.aload_n 0, 1) := by decide +kernel
theorem dX9_shelled_24 : decode cX9_shelled 24 = .ok (.getfield 39, 3) := by decide +kernel
theorem dX9_shelled_27 : decode cX9_shelled 27 = .ok (.aload_n 0, 1) := by decide +kernel
theorem dX9_shelled_28 : decode cX9_shelled 28 = .ok (.getfield 21, 3) := by decide +kernel
theorem dX9_shelled_31 : decode cX9_shelled 31 = .ok (.iload_n 1, 1) := by decide +kernel
theorem dX9_shelled_32 : decode cX9_shelled 32 = .ok (.iload_n 2, 1) := by decide +kernel
theorem dX9_shelled_33 : decode cX9_shelled 33 = .ok (.invokevirtual 236, 3) := by decide +kernel
theorem dX9_shelled_36 : decode cX9_shelled 36 = .ok (.iconst 1, 1) := by decide +kernel
theorem dX9_shelled_37 : decode cX9_shelled 37 = .ok (.istore 4, 2) := by decide +kernel
theorem dX9_shelled_39 : decode cX9_shelled 39 = .ok (.iload 4, 2) := by decide +kernel
theorem dX9_shelled_41 : decode cX9_shelled 41 = .ok (.aload_n 0, 1) := by decide +kernel
theorem dX9_shelled_42 : decode cX9_shelled 42 = .ok (.getfield 39, 3) := by decide +kernel
theorem dX9_shelled_45 : decode cX9_shelled 45 = .ok (.getfield 239, 3) := by decide +kernel
theorem dX9_shelled_48 : decode cX9_shelled 48 = .ok (.if_icmp .ge 24, 3) := by decide +kernel
theorem dX9_shelled_51 : decode cX9_shelled 51 = .ok (.aload_n 0, 1) := by decide +kernel
theorem dX9_shelled_52 : decode cX9_shelled 52 = .ok (.getfield 39, 3) := by decide +kernel
theorem dX9_shelled_55 : decode cX9_shelled 55 = .ok (.iload 4, 2) := by decide +kernel
theorem dX9_shelled_57 : decode cX9_shelled 57 = .ok (.invokevirtual 325, 3) := by decide +kernel
theorem dX9_shelled_60 : decode cX9_shelled 60 = .ok (.ifCond .ne 6, 3) := by decide +kernel
theorem dX9_shelled_63 : decode cX9_shelled 63 = .ok (.iload 4, 2) := by decide +kernel
theorem dX9_shelled_65 : decode cX9_shelled 65 = .ok (.ireturn, 1) := by decide +kernel
theorem dX9_shelled_66 : decode cX9_shelled 66 = .ok (.iinc 4 1, 3) := by decide +kernel
theorem dX9_shelled_69 : decode cX9_shelled 69 = .ok (.goto (-30), 3) := by decide +kernel
theorem dX9_shelled_72 : decode cX9_shelled 72 = .ok (.iconst (-1), 1) := by decide +kernel
theorem dX9_shelled_73 : decode cX9_shelled 73 = .ok (.ireturn, 1) := by decide +kernel
set_option maxRecDepth 20000 in
theorem ggX9_crease_X9_troubleWithin : GoodIn wsX9_crease wsX9_troubleWithin := goodIn_r _ [7, 8, 9, 10, 6, 11, 2, 12, 13, 14, 15, 16, 17, 18, 19, 20, 21, 22, 23, 24, 25, 107, 108, 109, 110, 111, 112, 113, 114, 115, 116, 117, 118, 119, 120, 121] (by decide +kernel) (by decide +kernel)
set_option maxRecDepth 20000 in
theorem gX9_crease_X9_troubleWithin : GoodIn wsX9_crease (wsV RX9 317 RX9 yX9_troubleWithin wsX9_troubleWithin) := goodIn_app (goodIn_of _ (by decide +kernel)) ggX9_crease_X9_troubleWithin
set_option maxRecDepth 20000 in
theorem ggX9_crease_X2_fill : GoodIn wsX9_crease wsX2_fill := goodIn_r _ [30, 31, 32, 33, 34, 35, 29, 36, 37, 38, 39, 40, 41, 42, 43, 44, 45, 46, 47, 48, 49, 50, 51, 52, 53, 54, 55, 56, 57, 15, 58, 59, 60, 61, 62, 63, 64, 65, 66, 67, 68, 69, 70, 71, 72, 73, 74, 75, 76, 77, 78, 79, 25, 13, 14, 16, 17, 18, 6, 19, 80, 81, 82, 83, 24, 84, 85, 86, 122, 123, 124, 125, 126, 127, 128, 116, 117, 118, 119, 120, 121] (by decide +kernel) (by decide +kernel)
set_option maxRecDepth 20000 in
theorem gX9_crease_X2_fill : GoodIn wsX9_crease (wsV RX9 236 RX2 yX2_fill wsX2_fill) := goodIn_app (goodIn_of _ (by decide +kernel)) ggX9_crease_X2_fill
set_option maxRecDepth 20000 in
theorem ggX9_crease_X2_hasChain : GoodIn wsX9_crease wsX2_hasChain := goodIn_r _ [90, 31, 122, 123, 124] (by decide +kernel) (by decide +kernel)
set_option maxRecDepth 20000 in
theorem gX9_crease_X2_hasChain : GoodIn wsX9_crease (wsV RX9 252 RX2 yX2_hasChain wsX2_hasChain) := goodIn_app (goodIn_of _ (by decide +kernel)) ggX9_crease_X2_hasChain
set_option maxRecDepth 20000 in
theorem ggX9_crease_X2_creaseSet : GoodIn wsX9_crease wsX2_creaseSet := goodIn_r _ [94, 41, 95, 96, 97, 98, 29, 99, 100, 101, 102, 103, 104, 105, 106, 122, 123, 124, 125, 126, 127, 128] (by decide +kernel) (by decide +kernel)
set_option maxRecDepth 20000 in
theorem gX9_crease_X2_creaseSet : GoodIn wsX9_crease (wsV RX9 328 RX2 yX2_creaseSet wsX2_creaseSet) := goodIn_app (goodIn_of _ (by decide +kernel)) ggX9_crease_X2_creaseSet
theorem dX9_crease_0 : decode cX9_crease 0 = .ok (.aload_n 0, 1) := by decide +kernel
theorem dX9_crease_1 : decode cX9_crease 1 = .ok (.iload_n 1, 1) := by decide +kernel
theorem dX9_crease_2 : decode cX9_crease 2 = .ok (.iload_n 2, 1) := by decide +kernel
theorem dX9_crease_3 : decode cX9_crease 3 = .ok (.invokevirtual 317, 3) := by decide +kernel
theorem dX9_crease_6 : decode cX9_crease 6 = .ok (.istore 4, 2) := by decide +kernel
theorem dX9_crease_8 : decode cX9_crease 8 = .ok (.iload 4, 2) := by decide +kernel
theorem dX9_crease_10 : decode cX9_crease 10 = .ok (.ifCond .eq 6, 3) := by decide +kernel
theorem dX9_crease_13 : decode cX9_crease 13 = .ok (.iload 4, 2) := by decide +kernel
theorem dX9_crease_15 : decode cX9_crease 15 = .ok (.ireturn, 1) := by decide +kernel
theorem dX9_crease_16 : decode cX9_crease 16 = .ok (.aload_n 0, 1) := by decide +kernel
theorem dX9_crease_17 : decode cX9_crease 17 = .ok (.getfield 39, 3) := by decide +kernel
theorem dX9_crease_20 : decode cX9_crease 20 = .ok (.aload_n 0, 1) := by decide +kernel
theorem dX9_crease_21 : decode cX9_crease 21 = .ok (.getfield 21, 3) := by decide +kernel
theorem dX9_crease_24 : decode cX9_crease 24 = .ok (.iload_n 1, 1) := by decide +kernel
theorem dX9_crease_25 : decode cX9_crease 25 = .ok (.iload_n 2, 1) := by decide +kernel
theorem dX9_crease_26 : decode cX9_crease 26 = .ok (.invokevirtual 236, 3) := by decide +kernel
theorem dX9_crease_29 : decode cX9_crease 29 = .ok (.aload_n 0, 1) := by decide +kernel
theorem dX9_crease_30 : decode cX9_crease 30 = .ok (.getfield 39, 3) := by decide +kernel
theorem dX9_crease_33 : decode cX9_crease 33 = .ok (.iload_n 3, 1) := by decide +kernel
theorem dX9_crease_34 : decode cX9_crease 34 = .ok (.invokevirtual 252, 3) := by decide +kernel
theorem dX9_crease_37 : decode cX9_crease 37 = .ok (.ifCond .eq 14, 3) := by decide +kernel
theorem dX9_crease_40 : decode cX9_crease 40 = .ok (.aload_n 0, 1) := by decide +kernel
theorem dX9_crease_41 : decode cX9_crease 41 = .ok (.getfield 39, 3) := by decide +kernel
theorem dX9_crease_44 : decode cX9_crease 44 = .ok (.iload_n 3, 1) := by decide +kernel
theorem dX9_crease_45 : decode cX9_crease 45 = .ok (.invokevirtual 328, 3) := by decide +kernel
theorem dX9_crease_48 : decode cX9_crease 48 = .ok (.goto 5, 3) := by decide +kernel
theorem dX9_crease_51 : decode cX9_crease 51 = .ok (.bipush (-2), 2) := by decide +kernel
theorem dX9_crease_53 : decode cX9_crease 53 = .ok (.ireturn, 1) := by decide +kernel
set_option maxRecDepth 20000 in
theorem ggX9_creased_X9_troubleWithin : GoodIn wsX9_creased wsX9_troubleWithin := goodIn_r _ [8, 9, 10, 11, 7, 12, 2, 13, 14, 15, 16, 17, 18, 19, 20, 21, 22, 23, 24, 25, 26, 105, 106, 107, 108, 109, 110, 111, 112, 113, 117, 118, 119, 120, 121, 122] (by decide +kernel) (by decide +kernel)
set_option maxRecDepth 20000 in
theorem gX9_creased_X9_troubleWithin : GoodIn wsX9_creased (wsV RX9 317 RX9 yX9_troubleWithin wsX9_troubleWithin) := goodIn_app (goodIn_of _ (by decide +kernel)) ggX9_creased_X9_troubleWithin
set_option maxRecDepth 20000 in
theorem ggX9_creased_X2_fill : GoodIn wsX9_creased wsX2_fill := goodIn_r _ [31, 32, 33, 34, 35, 36, 30, 37, 38, 39, 40, 41, 42, 43, 44, 45, 46, 47, 48, 49, 50, 51, 52, 53, 54, 55, 56, 57, 58, 16, 59, 60, 61, 62, 63, 64, 65, 66, 67, 68, 69, 70, 71, 72, 73, 74, 75, 76, 77, 78, 79, 80, 26, 14, 15, 17, 18, 19, 7, 20, 81, 82, 83, 84, 25, 85, 86, 87, 114, 115, 116, 123, 124, 125, 126, 117, 118, 119, 120, 121, 122] (by decide +kernel) (by decide +kernel)
set_option maxRecDepth 20000 in
theorem gX9_creased_X2_fill : GoodIn wsX9_creased (wsV RX9 236 RX2 yX2_fill wsX2_fill) := goodIn_app (goodIn_of _ (by decide +kernel)) ggX9_creased_X2_fill
set_option maxRecDepth 20000 in
theorem ggX9_creased_X2_creaseSet : GoodIn wsX9_creased wsX2_creaseSet := goodIn_r _ [91, 42, 92, 93, 94, 95, 30, 96, 97, 98, 99, 100, 101, 102, 103, 114, 115, 116, 123, 124, 125, 126] (by decide +kernel) (by decide +kernel)
set_option maxRecDepth 20000 in
theorem gX9_creased_X2_creaseSet : GoodIn wsX9_creased (wsV RX9 328 RX2 yX2_creaseSet wsX2_creaseSet) := goodIn_app (goodIn_of _ (by decide +kernel)) ggX9_creased_X2_creaseSet
set_option maxRecDepth 20000 in
theorem ggX9_creased_J6_bitCount_0f7a4 : GoodIn wsX9_creased wsJ6_bitCount_0f7a4 := goodIn_r _ [100, 101, 102, 103] (by decide +kernel) (by decide +kernel)
set_option maxRecDepth 20000 in
theorem gX9_creased_J6_bitCount_0f7a4 : GoodIn wsX9_creased (va_wsS RX9 139 yJ6_bitCount_0f7a4 wsJ6_bitCount_0f7a4) := goodIn_app (goodIn_of _ (by decide +kernel)) ggX9_creased_J6_bitCount_0f7a4
theorem dX9_creased_0 : decode cX9_creased 0 = .ok (.iload_n 3, 1) := by decide +kernel
theorem dX9_creased_1 : decode cX9_creased 1 = .ok (.ifCond .ge 5, 3) := by decide +kernel
theorem dX9_creased_4 : decode cX9_creased 4 = .ok (.iconst (-1), 1) := by decide +kernel
theorem dX9_creased_5 : decode cX9_creased 5 = .ok (.ireturn, 1) := by decide +kernel
theorem dX9_creased_6 : decode cX9_creased 6 = .ok (.aload_n 0, 1) := by decide +kernel
theorem dX9_creased_7 : decode cX9_creased 7 = .ok (.iload_n 1, 1) := by decide +kernel
theorem dX9_creased_8 : decode cX9_creased 8 = .ok (.iload_n 2, 1) := by decide +kernel
theorem dX9_creased_9 : decode cX9_creased 9 = .ok (.invokevirtual 317, 3) := by decide +kernel
theorem dX9_creased_12 : decode cX9_creased 12 = .ok (.istore 4, 2) := by decide +kernel
theorem dX9_creased_14 : decode cX9_creased 14 = .ok (.iload 4, 2) := by decide +kernel
theorem dX9_creased_16 : decode cX9_creased 16 = .ok (.ifCond .eq 6, 3) := by decide +kernel
theorem dX9_creased_19 : decode cX9_creased 19 = .ok (.iload 4, 2) := by decide +kernel
theorem dX9_creased_21 : decode cX9_creased 21 = .ok (.ireturn, 1) := by decide +kernel
theorem dX9_creased_22 : decode cX9_creased 22 = .ok (.aload_n 0, 1) := by decide +kernel
theorem dX9_creased_23 : decode cX9_creased 23 = .ok (.getfield 39, 3) := by decide +kernel
theorem dX9_creased_26 : decode cX9_creased 26 = .ok (.aload_n 0, 1) := by decide +kernel
theorem dX9_creased_27 : decode cX9_creased 27 = .ok (.getfield 21, 3) := by decide +kernel
theorem dX9_creased_30 : decode cX9_creased 30 = .ok (.iload_n 1, 1) := by decide +kernel
theorem dX9_creased_31 : decode cX9_creased 31 = .ok (.iload_n 2, 1) := by decide +kernel
theorem dX9_creased_32 : decode cX9_creased 32 = .ok (.invokevirtual 236, 3) := by decide +kernel
theorem dX9_creased_35 : decode cX9_creased 35 = .ok (.iconst 0, 1) := by decide +kernel
theorem dX9_creased_36 : decode cX9_creased 36 = .ok (.istore 5, 2) := by decide +kernel
theorem dX9_creased_38 : decode cX9_creased 38 = .ok (.iconst 0, 1) := by decide +kernel
theorem dX9_creased_39 : decode cX9_creased 39 = .ok (.istore 6, 2) := by decide +kernel
theorem dX9_creased_41 : decode cX9_creased 41 = .ok (.iload 6, 2) := by decide +kernel
theorem dX9_creased_43 : decode cX9_creased 43 = .ok (.aload_n 0, 1) := by decide +kernel
theorem dX9_creased_44 : decode cX9_creased 44 = .ok (.getfield 39, 3) := by decide +kernel
theorem dX9_creased_47 : decode cX9_creased 47 = .ok (.getfield 239, 3) := by decide +kernel
theorem dX9_creased_50 : decode cX9_creased 50 = .ok (.if_icmp .ge 28, 3) := by decide +kernel
theorem dX9_creased_53 : decode cX9_creased 53 = .ok (.aload_n 0, 1) := by decide +kernel
theorem dX9_creased_54 : decode cX9_creased 54 = .ok (.getfield 39, 3) := by decide +kernel
theorem dX9_creased_57 : decode cX9_creased 57 = .ok (.iload 6, 2) := by decide +kernel
theorem dX9_creased_59 : decode cX9_creased 59 = .ok (.invokevirtual 328, 3) := by decide +kernel
theorem dX9_creased_62 : decode cX9_creased 62 = .ok (.invokestatic 139, 3) := by decide +kernel
theorem dX9_creased_65 : decode cX9_creased 65 = .ok (.iload_n 3, 1) := by decide +kernel
theorem dX9_creased_66 : decode cX9_creased 66 = .ok (.if_icmp .ne 6, 3) := by decide +kernel
theorem dX9_creased_69 : decode cX9_creased 69 = .ok (.iinc 5 1, 3) := by decide +kernel
theorem dX9_creased_72 : decode cX9_creased 72 = .ok (.iinc 6 1, 3) := by decide +kernel
theorem dX9_creased_75 : decode cX9_creased 75 = .ok (.goto (-34), 3) := by decide +kernel
theorem dX9_creased_78 : decode cX9_creased 78 = .ok (.iload 5, 2) := by decide +kernel
theorem dX9_creased_80 : decode cX9_creased 80 = .ok (.ireturn, 1) := by decide +kernel
set_option maxRecDepth 20000 in
theorem ggX9_without_X9_troubleOf : GoodIn wsX9_without wsX9_troubleOf := goodIn_r _ [8, 1, 9, 10, 11, 12, 13, 14, 15, 7, 16, 17, 18, 19, 20, 21, 22, 61, 62, 63, 64, 65, 66, 67, 68, 69, 70, 71, 72, 73, 74, 75] (by decide +kernel) (by decide +kernel)
set_option maxRecDepth 20000 in
theorem gX9_without_X9_troubleOf : GoodIn wsX9_without (wsV RX9 230 RX9 yX9_troubleOf wsX9_troubleOf) := goodIn_app (goodIn_of _ (by decide +kernel)) ggX9_without_X9_troubleOf
set_option maxRecDepth 20000 in
theorem ggX9_without_X6_innerOf : GoodIn wsX9_without wsX6_innerOf := goodIn_r _ [26, 21, 27, 22, 10, 11, 12, 13, 14, 15, 7, 16, 70, 71, 72, 73, 74, 75] (by decide +kernel) (by decide +kernel)
set_option maxRecDepth 20000 in
theorem gX9_without_X6_innerOf : GoodIn wsX9_without (wsV RX9 280 RX6 yX6_innerOf wsX6_innerOf) := goodIn_app (goodIn_of _ (by decide +kernel)) ggX9_without_X6_innerOf
set_option maxRecDepth 20000 in
theorem ggX9_without_X9_isIn : GoodIn wsX9_without wsX9_isIn := goodIn_r _ [16] (by decide +kernel) (by decide +kernel)
set_option maxRecDepth 20000 in
theorem gX9_without_X9_isIn : GoodIn wsX9_without (va_wsS RX9 297 yX9_isIn wsX9_isIn) := goodIn_app (goodIn_of _ (by decide +kernel)) ggX9_without_X9_isIn
set_option maxRecDepth 20000 in
theorem ggX9_without_X6_between : GoodIn wsX9_without wsX6_between := goodIn_r _ [32, 33, 34, 35, 12, 36, 21, 22, 10, 11, 13, 14, 15, 7, 16, 37, 38, 39, 40, 27, 70, 71, 72, 73, 74, 75] (by decide +kernel) (by decide +kernel)
set_option maxRecDepth 20000 in
theorem gX9_without_X6_between : GoodIn wsX9_without (wsV RX9 233 RX6 yX6_between wsX6_between) := goodIn_app (goodIn_of _ (by decide +kernel)) ggX9_without_X6_between
set_option maxRecDepth 20000 in
theorem ggX9_without_X8_mobius : GoodIn wsX9_without wsX8_mobius := goodIn_r _ [45, 46, 47, 48, 49, 50, 51, 12, 52, 14, 53, 54, 55, 56, 27, 15, 7, 16, 57, 58, 59, 44, 60, 76, 77, 78, 79, 80, 70, 71, 72, 73, 74, 75] (by decide +kernel) (by decide +kernel)
set_option maxRecDepth 20000 in
theorem gX9_without_X8_mobius : GoodIn wsX9_without (wsV RX9 293 RX8 yX8_mobius wsX8_mobius) := goodIn_app (goodIn_of _ (by decide +kernel)) ggX9_without_X8_mobius
theorem dX9_without_0 : decode cX9_without 0 = .ok (.aload_n 0, 1) := by decide +kernel
theorem dX9_without_1 : decode cX9_without 1 = .ok (.iload_n 1, 1) := by decide +kernel
theorem dX9_without_2 : decode cX9_without 2 = .ok (.iload_n 2, 1) := by decide +kernel
theorem dX9_without_3 : decode cX9_without 3 = .ok (.invokevirtual 230, 3) := by decide +kernel
theorem dX9_without_6 : decode cX9_without 6 = .ok (.ifCond .ne 19, 3) := by decide +kernel
theorem dX9_without_9 : decode cX9_without 9 = .ok (.aload_n 0, 1) := by decide +kernel
theorem dX9_without_10 : decode cX9_without 10 = .ok (.getfield 21, 3) := by decide +kernel
theorem dX9_without_13 : decode cX9_without 13 = .ok (.iload_n 1, 1) := by decide +kernel
theorem dX9_without_14 : decode cX9_without 14 = .ok (.iload_n 2, 1) := by decide +kernel
theorem dX9_without_15 : decode cX9_without 15 = .ok (.invokevirtual 280, 3) := by decide +kernel
theorem dX9_without_18 : decode cX9_without 18 = .ok (.iload_n 3, 1) := by decide +kernel
theorem dX9_without_19 : decode cX9_without 19 = .ok (.invokestatic 297, 3) := by decide +kernel
theorem dX9_without_22 : decode cX9_without 22 = .ok (.ifCond .ne 7, 3) := by decide +kernel
theorem dX9_without_25 : decode cX9_without 25 = .ok (.ldc_w 279, 3) := by decide +kernel
theorem dX9_without_28 : decode cX9_without 28 = .ok (.ireturn, 1) := by decide +kernel
theorem dX9_without_29 : decode cX9_without 29 = .ok (.aload_n 0, 1) := by decide +kernel
theorem dX9_without_30 : decode cX9_without 30 = .ok (.getfield 46, 3) := by decide +kernel
theorem dX9_without_33 : decode cX9_without 33 = .ok (.aload_n 0, 1) := by decide +kernel
theorem dX9_without_34 : decode cX9_without 34 = .ok (.getfield 21, 3) := by decide +kernel
theorem dX9_without_37 : decode cX9_without 37 = .ok (.iload_n 1, 1) := by decide +kernel
theorem dX9_without_38 : decode cX9_without 38 = .ok (.iload_n 2, 1) := by decide +kernel
theorem dX9_without_39 : decode cX9_without 39 = .ok (.aload_n 0, 1) := by decide +kernel
theorem dX9_without_40 : decode cX9_without 40 = .ok (.getfield 21, 3) := by decide +kernel
theorem dX9_without_43 : decode cX9_without 43 = .ok (.iload_n 1, 1) := by decide +kernel
theorem dX9_without_44 : decode cX9_without 44 = .ok (.iload_n 2, 1) := by decide +kernel
theorem dX9_without_45 : decode cX9_without 45 = .ok (.invokevirtual 233, 3) := by decide +kernel
theorem dX9_without_48 : decode cX9_without 48 = .ok (.iconst 1, 1) := by decide +kernel
theorem dX9_without_49 : decode cX9_without 49 = .ok (.iload_n 3, 1) := by decide +kernel
theorem dX9_without_50 : decode cX9_without 50 = .ok (.ishl, 1) := by decide +kernel
theorem dX9_without_51 : decode cX9_without 51 = .ok (.iconst (-1), 1) := by decide +kernel
theorem dX9_without_52 : decode cX9_without 52 = .ok (.ixor, 1) := by decide +kernel
theorem dX9_without_53 : decode cX9_without 53 = .ok (.iand, 1) := by decide +kernel
theorem dX9_without_54 : decode cX9_without 54 = .ok (.invokevirtual 293, 3) := by decide +kernel
theorem dX9_without_57 : decode cX9_without 57 = .ok (.ireturn, 1) := by decide +kernel
set_option maxRecDepth 20000 in
theorem ggX9_counted_X9_troubleOf : GoodIn wsX9_counted wsX9_troubleOf := goodIn_r _ [7, 1, 8, 9, 10, 11, 12, 13, 14, 6, 15, 16, 17, 18, 19, 20, 21, 60, 61, 62, 63, 64, 65, 66, 67, 68, 69, 70, 71, 72, 73, 74] (by decide +kernel) (by decide +kernel)
set_option maxRecDepth 20000 in
theorem gX9_counted_X9_troubleOf : GoodIn wsX9_counted (wsV RX9 230 RX9 yX9_troubleOf wsX9_troubleOf) := goodIn_app (goodIn_of _ (by decide +kernel)) ggX9_counted_X9_troubleOf
set_option maxRecDepth 20000 in
theorem ggX9_counted_X6_between : GoodIn wsX9_counted wsX6_between := goodIn_r _ [25, 26, 27, 28, 11, 29, 20, 21, 9, 10, 12, 13, 14, 6, 15, 30, 31, 32, 33, 34, 69, 70, 71, 72, 73, 74] (by decide +kernel) (by decide +kernel)
set_option maxRecDepth 20000 in
theorem gX9_counted_X6_between : GoodIn wsX9_counted (wsV RX9 233 RX6 yX6_between wsX6_between) := goodIn_app (goodIn_of _ (by decide +kernel)) ggX9_counted_X6_between
set_option maxRecDepth 20000 in
theorem ggX9_counted_X6_innerOf : GoodIn wsX9_counted wsX6_innerOf := goodIn_r _ [38, 20, 34, 21, 9, 10, 11, 12, 13, 14, 6, 15, 69, 70, 71, 72, 73, 74] (by decide +kernel) (by decide +kernel)
set_option maxRecDepth 20000 in
theorem gX9_counted_X6_innerOf : GoodIn wsX9_counted (wsV RX9 280 RX6 yX6_innerOf wsX6_innerOf) := goodIn_app (goodIn_of _ (by decide +kernel)) ggX9_counted_X6_innerOf
set_option maxRecDepth 20000 in
theorem ggX9_counted_X8_mobius : GoodIn wsX9_counted wsX8_mobius := goodIn_r _ [43, 44, 45, 46, 47, 48, 49, 11, 50, 13, 51, 52, 53, 54, 34, 14, 6, 15, 55, 56, 57, 42, 58, 75, 76, 77, 78, 79, 69, 70, 71, 72, 73, 74] (by decide +kernel) (by decide +kernel)
set_option maxRecDepth 20000 in
theorem gX9_counted_X8_mobius : GoodIn wsX9_counted (wsV RX9 293 RX8 yX8_mobius wsX8_mobius) := goodIn_app (goodIn_of _ (by decide +kernel)) ggX9_counted_X8_mobius
set_option maxRecDepth 20000 in
theorem ggX9_counted_X9_isIn : GoodIn wsX9_counted wsX9_isIn := goodIn_r _ [15] (by decide +kernel) (by decide +kernel)
set_option maxRecDepth 20000 in
theorem gX9_counted_X9_isIn : GoodIn wsX9_counted (va_wsS RX9 297 yX9_isIn wsX9_isIn) := goodIn_app (goodIn_of _ (by decide +kernel)) ggX9_counted_X9_isIn
theorem dX9_counted_0 : decode cX9_counted 0 = .ok (.aload_n 0, 1) := by decide +kernel
theorem dX9_counted_1 : decode cX9_counted 1 = .ok (.iload_n 1, 1) := by decide +kernel
theorem dX9_counted_2 : decode cX9_counted 2 = .ok (.iload_n 2, 1) := by decide +kernel
theorem dX9_counted_3 : decode cX9_counted 3 = .ok (.invokevirtual 230, 3) := by decide +kernel
theorem dX9_counted_6 : decode cX9_counted 6 = .ok (.istore_n 3, 1) := by decide +kernel
theorem dX9_counted_7 : decode cX9_counted 7 = .ok (.iload_n 3, 1) := by decide +kernel
theorem dX9_counted_8 : decode cX9_counted 8 = .ok (.ifCond .eq 5, 3) := by decide +kernel
theorem dX9_counted_11 : decode cX9_counted 11 = .ok (.iload_n 3, 1) := by decide +kernel
theorem dX9_counted_12 : decode cX9_counted 12 = .ok (.ireturn, 1) := by decide +kernel
theorem dX9_counted_13 : decode cX9_counted 13 = .ok (.aload_n 0, 1) := by decide +kernel
theorem dX9_counted_14 : decode cX9_counted 14 = .ok (.getfield 21, 3) := by decide +kernel
theorem dX9_counted_17 : decode cX9_counted 17 = .ok (.iload_n 1, 1) := by decide +kernel
theorem dX9_counted_18 : decode cX9_counted 18 = .ok (.iload_n 2, 1) := by decide +kernel
theorem dX9_counted_19 : decode cX9_counted 19 = .ok (.invokevirtual 233, 3) := by decide +kernel
theorem dX9_counted_22 : decode cX9_counted 22 = .ok (.istore 4, 2) := by decide +kernel
theorem dX9_counted_24 : decode cX9_counted 24 = .ok (.aload_n 0, 1) := by decide +kernel
theorem dX9_counted_25 : decode cX9_counted 25 = .ok (.getfield 21, 3) := by decide +kernel
theorem dX9_counted_28 : decode cX9_counted 28 = .ok (.iload_n 1, 1) := by decide +kernel
theorem dX9_counted_29 : decode cX9_counted 29 = .ok (.iload_n 2, 1) := by decide +kernel
theorem dX9_counted_30 : decode cX9_counted 30 = .ok (.invokevirtual 280, 3) := by decide +kernel
theorem dX9_counted_33 : decode cX9_counted 33 = .ok (.istore 5, 2) := by decide +kernel
theorem dX9_counted_35 : decode cX9_counted 35 = .ok (.aload_n 0, 1) := by decide +kernel
theorem dX9_counted_36 : decode cX9_counted 36 = .ok (.getfield 46, 3) := by decide +kernel
theorem dX9_counted_39 : decode cX9_counted 39 = .ok (.aload_n 0, 1) := by decide +kernel
theorem dX9_counted_40 : decode cX9_counted 40 = .ok (.getfield 21, 3) := by decide +kernel
theorem dX9_counted_43 : decode cX9_counted 43 = .ok (.iload_n 1, 1) := by decide +kernel
theorem dX9_counted_44 : decode cX9_counted 44 = .ok (.iload_n 2, 1) := by decide +kernel
theorem dX9_counted_45 : decode cX9_counted 45 = .ok (.iload 4, 2) := by decide +kernel
theorem dX9_counted_47 : decode cX9_counted 47 = .ok (.invokevirtual 293, 3) := by decide +kernel
theorem dX9_counted_50 : decode cX9_counted 50 = .ok (.istore 6, 2) := by decide +kernel
theorem dX9_counted_52 : decode cX9_counted 52 = .ok (.iconst 0, 1) := by decide +kernel
theorem dX9_counted_53 : decode cX9_counted 53 = .ok (.istore 7, 2) := by decide +kernel
theorem dX9_counted_55 : decode cX9_counted 55 = .ok (.iconst 0, 1) := by decide +kernel
theorem dX9_counted_56 : decode cX9_counted 56 = .ok (.istore 8, 2) := by decide +kernel
theorem dX9_counted_58 : decode cX9_counted 58 = .ok (.iload 8, 2) := by decide +kernel
theorem dX9_counted_60 : decode cX9_counted 60 = .ok (.bipush 9, 2) := by decide +kernel
theorem dX9_counted_62 : decode cX9_counted 62 = .ok (.if_icmp .ge 55, 3) := by decide +kernel
theorem dX9_counted_65 : decode cX9_counted 65 = .ok (.iload 5, 2) := by decide +kernel
theorem dX9_counted_67 : decode cX9_counted 67 = .ok (.iload 8, 2) := by decide +kernel
theorem dX9_counted_69 : decode cX9_counted 69 = .ok (.invokestatic 297, 3) := by decide +kernel
theorem dX9_counted_72 : decode cX9_counted 72 = .ok (.ifCond .eq 39, 3) := by decide +kernel
theorem dX9_counted_75 : decode cX9_counted 75 = .ok (.aload_n 0, 1) := by decide +kernel
theorem dX9_counted_76 : decode cX9_counted 76 = .ok (.getfield 46, 3) := by decide +kernel
theorem dX9_counted_79 : decode cX9_counted 79 = .ok (.aload_n 0, 1) := by decide +kernel
theorem dX9_counted_80 : decode cX9_counted 80 = .ok (.getfield 21, 3) := by decide +kernel
theorem dX9_counted_83 : decode cX9_counted 83 = .ok (.iload_n 1, 1) := by decide +kernel
theorem dX9_counted_84 : decode cX9_counted 84 = .ok (.iload_n 2, 1) := by decide +kernel
theorem dX9_counted_85 : decode cX9_counted 85 = .ok (.iload 4, 2) := by decide +kernel
theorem dX9_counted_87 : decode cX9_counted 87 = .ok (.iconst 1, 1) := by decide +kernel
theorem dX9_counted_88 : decode cX9_counted 88 = .ok (.iload 8, 2) := by decide +kernel
theorem dX9_counted_90 : decode cX9_counted 90 = .ok (.ishl, 1) := by decide +kernel
theorem dX9_counted_91 : decode cX9_counted 91 = .ok (.iconst (-1), 1) := by decide +kernel
theorem dX9_counted_92 : decode cX9_counted 92 = .ok (.ixor, 1) := by decide +kernel
theorem dX9_counted_93 : decode cX9_counted 93 = .ok (.iand, 1) := by decide +kernel
theorem dX9_counted_94 : decode cX9_counted 94 = .ok (.invokevirtual 293, 3) := by decide +kernel
theorem dX9_counted_97 : decode cX9_counted 97 = .ok (.iload 6, 2) := by decide +kernel
theorem dX9_counted_99 : decode cX9_counted 99 = .ok (.if_icmp .eq 12, 3) := by decide +kernel
theorem dX9_counted_102 : decode cX9_counted 102 = .ok (.iload 7, 2) := by decide +kernel
theorem dX9_counted_104 : decode cX9_counted 104 = .ok (.iconst 1, 1) := by decide +kernel
theorem dX9_counted_105 : decode cX9_counted 105 = .ok (.iload 8, 2) := by decide +kernel
theorem dX9_counted_107 : decode cX9_counted 107 = .ok (.ishl, 1) := by decide +kernel
theorem dX9_counted_108 : decode cX9_counted 108 = .ok (.ior, 1) := by decide +kernel
theorem dX9_counted_109 : decode cX9_counted 109 = .ok (.istore 7, 2) := by decide +kernel
theorem dX9_counted_111 : decode cX9_counted 111 = .ok (.iinc 8 1, 3) := by decide +kernel
theorem dX9_counted_114 : decode cX9_counted 114 = .ok (.goto (-56), 3) := by decide +kernel
theorem dX9_counted_117 : decode cX9_counted 117 = .ok (.iload 7, 2) := by decide +kernel
theorem dX9_counted_119 : decode cX9_counted 119 = .ok (.ireturn, 1) := by decide +kernel
set_option maxRecDepth 20000 in
theorem ggX9_core_X9_isOrder : GoodIn wsX9_core wsX9_isOrder := goodIn_r _ [7, 1, 8, 42, 43, 44, 45, 46, 47, 48, 49, 50, 51, 52, 53, 54, 55, 56] (by decide +kernel) (by decide +kernel)
set_option maxRecDepth 20000 in
theorem gX9_core_X9_isOrder : GoodIn wsX9_core (wsV RX9 129 RX9 yX9_isOrder wsX9_isOrder) := goodIn_app (goodIn_of _ (by decide +kernel)) ggX9_core_X9_isOrder
set_option maxRecDepth 20000 in
theorem ggX9_core_X6_leastIrreducible : GoodIn wsX9_core wsX6_leastIrreducible := goodIn_r _ [13, 14, 6, 15, 16, 17, 18, 12, 19, 20, 21, 22, 23, 24, 25, 26, 27, 28, 29, 30, 31, 32, 33, 34, 35, 36, 37, 38, 39, 40, 51, 52, 53, 54, 55, 56] (by decide +kernel) (by decide +kernel)
set_option maxRecDepth 20000 in
theorem gX9_core_X6_leastIrreducible : GoodIn wsX9_core (wsV RX9 331 RX6 yX6_leastIrreducible wsX6_leastIrreducible) := goodIn_app (goodIn_of _ (by decide +kernel)) ggX9_core_X6_leastIrreducible
set_option maxRecDepth 20000 in
theorem ggX9_core_J6_bitCount_0f7a4 : GoodIn wsX9_core wsJ6_bitCount_0f7a4 := goodIn_r _ [33, 34, 35, 36] (by decide +kernel) (by decide +kernel)
set_option maxRecDepth 20000 in
theorem gX9_core_J6_bitCount_0f7a4 : GoodIn wsX9_core (va_wsS RX9 139 yJ6_bitCount_0f7a4 wsJ6_bitCount_0f7a4) := goodIn_app (goodIn_of _ (by decide +kernel)) ggX9_core_J6_bitCount_0f7a4
theorem dX9_core_0 : decode cX9_core 0 = .ok (.aload_n 0, 1) := by decide +kernel
theorem dX9_core_1 : decode cX9_core 1 = .ok (.invokevirtual 129, 3) := by decide +kernel
theorem dX9_core_4 : decode cX9_core 4 = .ok (.ifCond .eq 8, 3) := by decide +kernel
theorem dX9_core_7 : decode cX9_core 7 = .ok (.iload_n 1, 1) := by decide +kernel
theorem dX9_core_8 : decode cX9_core 8 = .ok (.iconst (-1), 1) := by decide +kernel
theorem dX9_core_9 : decode cX9_core 9 = .ok (.if_icmp .ge 6, 3) := by decide +kernel
theorem dX9_core_12 : decode cX9_core 12 = .ok (.bipush (-3), 2) := by decide +kernel
theorem dX9_core_14 : decode cX9_core 14 = .ok (.ireturn, 1) := by decide +kernel
theorem dX9_core_15 : decode cX9_core 15 = .ok (.aload_n 0, 1) := by decide +kernel
theorem dX9_core_16 : decode cX9_core 16 = .ok (.getfield 21, 3) := by decide +kernel
theorem dX9_core_19 : decode cX9_core 19 = .ok (.getfield 136, 3) := by decide +kernel
theorem dX9_core_22 : decode cX9_core 22 = .ok (.istore_n 2, 1) := by decide +kernel
theorem dX9_core_23 : decode cX9_core 23 = .ok (.iconst 0, 1) := by decide +kernel
theorem dX9_core_24 : decode cX9_core 24 = .ok (.istore_n 3, 1) := by decide +kernel
theorem dX9_core_25 : decode cX9_core 25 = .ok (.iload_n 3, 1) := by decide +kernel
theorem dX9_core_26 : decode cX9_core 26 = .ok (.bipush 9, 2) := by decide +kernel
theorem dX9_core_28 : decode cX9_core 28 = .ok (.if_icmp .ge 45, 3) := by decide +kernel
theorem dX9_core_31 : decode cX9_core 31 = .ok (.aload_n 0, 1) := by decide +kernel
theorem dX9_core_32 : decode cX9_core 32 = .ok (.getfield 21, 3) := by decide +kernel
theorem dX9_core_35 : decode cX9_core 35 = .ok (.iload_n 2, 1) := by decide +kernel
theorem dX9_core_36 : decode cX9_core 36 = .ok (.invokevirtual 331, 3) := by decide +kernel
theorem dX9_core_39 : decode cX9_core 39 = .ok (.istore 4, 2) := by decide +kernel
theorem dX9_core_41 : decode cX9_core 41 = .ok (.iload 4, 2) := by decide +kernel
theorem dX9_core_43 : decode cX9_core 43 = .ok (.iconst (-1), 1) := by decide +kernel
theorem dX9_core_44 : decode cX9_core 44 = .ok (.if_icmp .ne 6, 3) := by decide +kernel
theorem dX9_core_47 : decode cX9_core 47 = .ok (.goto 26, 3) := by decide +kernel
theorem dX9_core_50 : decode cX9_core 50 = .ok (.iload_n 3, 1) := by decide +kernel
theorem dX9_core_51 : decode cX9_core 51 = .ok (.iload_n 1, 1) := by decide +kernel
theorem dX9_core_52 : decode cX9_core 52 = .ok (.if_icmp .ne 6, 3) := by decide +kernel
theorem dX9_core_55 : decode cX9_core 55 = .ok (.iload 4, 2) := by decide +kernel
theorem dX9_core_57 : decode cX9_core 57 = .ok (.ireturn, 1) := by decide +kernel
theorem dX9_core_58 : decode cX9_core 58 = .ok (.iload_n 2, 1) := by decide +kernel
theorem dX9_core_59 : decode cX9_core 59 = .ok (.iconst 1, 1) := by decide +kernel
theorem dX9_core_60 : decode cX9_core 60 = .ok (.iload 4, 2) := by decide +kernel
theorem dX9_core_62 : decode cX9_core 62 = .ok (.ishl, 1) := by decide +kernel
theorem dX9_core_63 : decode cX9_core 63 = .ok (.iconst (-1), 1) := by decide +kernel
theorem dX9_core_64 : decode cX9_core 64 = .ok (.ixor, 1) := by decide +kernel
theorem dX9_core_65 : decode cX9_core 65 = .ok (.iand, 1) := by decide +kernel
theorem dX9_core_66 : decode cX9_core 66 = .ok (.istore_n 2, 1) := by decide +kernel
theorem dX9_core_67 : decode cX9_core 67 = .ok (.iinc 3 1, 3) := by decide +kernel
theorem dX9_core_70 : decode cX9_core 70 = .ok (.goto (-45), 3) := by decide +kernel
theorem dX9_core_73 : decode cX9_core 73 = .ok (.iload_n 1, 1) := by decide +kernel
theorem dX9_core_74 : decode cX9_core 74 = .ok (.iconst (-1), 1) := by decide +kernel
theorem dX9_core_75 : decode cX9_core 75 = .ok (.if_icmp .ne 10, 3) := by decide +kernel
theorem dX9_core_78 : decode cX9_core 78 = .ok (.iload_n 2, 1) := by decide +kernel
theorem dX9_core_79 : decode cX9_core 79 = .ok (.invokestatic 139, 3) := by decide +kernel
theorem dX9_core_82 : decode cX9_core 82 = .ok (.goto 5, 3) := by decide +kernel
theorem dX9_core_85 : decode cX9_core 85 = .ok (.bipush (-2), 2) := by decide +kernel
theorem dX9_core_87 : decode cX9_core 87 = .ok (.ireturn, 1) := by decide +kernel
set_option maxRecDepth 20000 in
theorem ggX9_selves_X9_isOrder : GoodIn wsX9_selves wsX9_isOrder := goodIn_r _ [7, 2, 8, 60, 61, 62, 63, 64, 65, 66, 67, 68, 69, 70, 71, 72, 73, 74] (by decide +kernel) (by decide +kernel)
set_option maxRecDepth 20000 in
theorem gX9_selves_X9_isOrder : GoodIn wsX9_selves (wsV RX9 129 RX9 yX9_isOrder wsX9_isOrder) := goodIn_app (goodIn_of _ (by decide +kernel)) ggX9_selves_X9_isOrder
set_option maxRecDepth 20000 in
theorem ggX9_selves_X4_selvesOf : GoodIn wsX9_selves wsX4_selvesOf := goodIn_r _ [13, 14, 15, 16, 17, 18, 19, 12, 20, 21, 22, 23, 24, 25, 26, 27, 6, 28, 29, 30, 31, 32, 33, 34, 35, 36, 37, 38, 39, 40, 41, 42, 43, 44, 45, 46, 47, 48, 49, 50, 51, 52, 53, 54, 55, 56, 57, 58, 59, 75, 76, 77, 69, 70, 71, 72, 73, 74] (by decide +kernel) (by decide +kernel)
set_option maxRecDepth 20000 in
theorem gX9_selves_X4_selvesOf : GoodIn wsX9_selves (wsV RX9 334 RX4 yX4_selvesOf wsX4_selvesOf) := goodIn_app (goodIn_of _ (by decide +kernel)) ggX9_selves_X4_selvesOf
theorem dX9_selves_0 : decode cX9_selves 0 = .ok (.aload_n 0, 1) := by decide +kernel
theorem dX9_selves_1 : decode cX9_selves 1 = .ok (.invokevirtual 129, 3) := by decide +kernel
theorem dX9_selves_4 : decode cX9_selves 4 = .ok (.ifCond .eq 17, 3) := by decide +kernel
theorem dX9_selves_7 : decode cX9_selves 7 = .ok (.aload_n 0, 1) := by decide +kernel
theorem dX9_selves_8 : decode cX9_selves 8 = .ok (.getfield 67, 3) := by decide +kernel
theorem dX9_selves_11 : decode cX9_selves 11 = .ok (.aload_n 0, 1) := by decide +kernel
theorem dX9_selves_12 : decode cX9_selves 12 = .ok (.getfield 21, 3) := by decide +kernel
theorem dX9_selves_15 : decode cX9_selves 15 = .ok (.invokevirtual 334, 3) := by decide +kernel
theorem dX9_selves_18 : decode cX9_selves 18 = .ok (.goto 4, 3) := by decide +kernel
theorem dX9_selves_21 : decode cX9_selves 21 = .ok (.iconst (-1), 1) := by decide +kernel
theorem dX9_selves_22 : decode cX9_selves 22 = .ok (.ireturn, 1) := by decide +kernel
set_option maxRecDepth 20000 in
theorem ggX9_like_X9_isKept : GoodIn wsX9_like wsX9_isKept := goodIn_r _ [8, 3, 9, 60, 61, 62, 63, 64, 65, 66, 67, 68, 69, 70, 71, 72, 73, 74] (by decide +kernel) (by decide +kernel)
set_option maxRecDepth 20000 in
theorem gX9_like_X9_isKept : GoodIn wsX9_like (wsV RX9 152 RX9 yX9_isKept wsX9_isKept) := goodIn_app (goodIn_of _ (by decide +kernel)) ggX9_like_X9_isKept
set_option maxRecDepth 20000 in
theorem ggX9_like_X4_isLike : GoodIn wsX9_like wsX4_isLike := goodIn_r _ [14, 15, 16, 17, 18, 19, 13, 20, 21, 22, 23, 24, 25, 26, 27, 7, 28, 29, 30, 31, 32, 33, 34, 35, 36, 37, 38, 39, 40, 41, 42, 43, 44, 45, 46, 47, 48, 49, 50, 51, 52, 53, 54, 55, 56, 75, 76, 77, 69, 70, 71, 72, 73, 74] (by decide +kernel) (by decide +kernel)
set_option maxRecDepth 20000 in
theorem gX9_like_X4_isLike : GoodIn wsX9_like (wsV RX9 337 RX4 yX4_isLike wsX4_isLike) := goodIn_app (goodIn_of _ (by decide +kernel)) ggX9_like_X4_isLike
set_option maxRecDepth 20000 in
theorem ggX9_like_X9_asNumber : GoodIn wsX9_like wsX9_asNumber := goodIn_r _ [59] (by decide +kernel) (by decide +kernel)
set_option maxRecDepth 20000 in
theorem gX9_like_X9_asNumber : GoodIn wsX9_like (va_wsS RX9 196 yX9_asNumber wsX9_asNumber) := goodIn_app (goodIn_of _ (by decide +kernel)) ggX9_like_X9_asNumber
theorem dX9_like_0 : decode cX9_like 0 = .ok (.aload_n 0, 1) := by decide +kernel
theorem dX9_like_1 : decode cX9_like 1 = .ok (.iload_n 1, 1) := by decide +kernel
theorem dX9_like_2 : decode cX9_like 2 = .ok (.invokevirtual 152, 3) := by decide +kernel
theorem dX9_like_5 : decode cX9_like 5 = .ok (.ifCond .ne 5, 3) := by decide +kernel
theorem dX9_like_8 : decode cX9_like 8 = .ok (.iconst (-1), 1) := by decide +kernel
theorem dX9_like_9 : decode cX9_like 9 = .ok (.ireturn, 1) := by decide +kernel
theorem dX9_like_10 : decode cX9_like 10 = .ok (.aload_n 0, 1) := by decide +kernel
theorem dX9_like_11 : decode cX9_like 11 = .ok (.getfield 67, 3) := by decide +kernel
theorem dX9_like_14 : decode cX9_like 14 = .ok (.aload_n 0, 1) := by decide +kernel
theorem dX9_like_15 : decode cX9_like 15 = .ok (.getfield 21, 3) := by decide +kernel
theorem dX9_like_18 : decode cX9_like 18 = .ok (.aload_n 0, 1) := by decide +kernel
theorem dX9_like_19 : decode cX9_like 19 = .ok (.getfield 32, 3) := by decide +kernel
theorem dX9_like_22 : decode cX9_like 22 = .ok (.iload_n 1, 1) := by decide +kernel
theorem dX9_like_23 : decode cX9_like 23 = .ok (.aaload, 1) := by decide +kernel
theorem dX9_like_24 : decode cX9_like 24 = .ok (.invokevirtual 337, 3) := by decide +kernel
theorem dX9_like_27 : decode cX9_like 27 = .ok (.invokestatic 196, 3) := by decide +kernel
theorem dX9_like_30 : decode cX9_like 30 = .ok (.ireturn, 1) := by decide +kernel
set_option maxRecDepth 20000 in
theorem ggX9_count_X6_pairs : GoodIn wsX9_count wsX6_pairs := goodIn_r _ [13, 14, 15, 16, 17, 18, 19, 20, 21, 51, 52, 53, 54, 55, 56] (by decide +kernel) (by decide +kernel)
set_option maxRecDepth 20000 in
theorem gX9_count_X6_pairs : GoodIn wsX9_count (wsV RX9 118 RX6 yX6_pairs wsX6_pairs) := goodIn_app (goodIn_of _ (by decide +kernel)) ggX9_count_X6_pairs
set_option maxRecDepth 20000 in
theorem ggX9_count_X6_edges : GoodIn wsX9_count wsX6_edges := goodIn_r _ [25, 26, 27, 28, 29, 12, 30, 14, 31, 32, 33, 34, 35, 36, 37, 38, 39, 40, 41, 15, 16, 17, 18, 19, 20, 21, 51, 52, 53, 54, 55, 56] (by decide +kernel) (by decide +kernel)
set_option maxRecDepth 20000 in
theorem gX9_count_X6_edges : GoodIn wsX9_count (wsV RX9 344 RX6 yX6_edges wsX6_edges) := goodIn_app (goodIn_of _ (by decide +kernel)) ggX9_count_X6_edges
theorem dX9_count_0 : decode cX9_count 0 = .ok (.iload_n 1, 1) := by decide +kernel
theorem dX9_count_1 : decode cX9_count 1 = .ok (.tableswitch 99 0 6 #[43, 51, 59, 67, 75, 83, 91], 43) := by decide +kernel
theorem dX9_count_44 : decode cX9_count 44 = .ok (.aload_n 0, 1) := by decide +kernel
theorem dX9_count_45 : decode cX9_count 45 = .ok (.getfield 21, 3) := by decide +kernel
theorem dX9_count_48 : decode cX9_count 48 = .ok (.getfield 341, 3) := by decide +kernel
theorem dX9_count_51 : decode cX9_count 51 = .ok (.ireturn, 1) := by decide +kernel
theorem dX9_count_52 : decode cX9_count 52 = .ok (.aload_n 0, 1) := by decide +kernel
theorem dX9_count_53 : decode cX9_count 53 = .ok (.getfield 21, 3) := by decide +kernel
theorem dX9_count_56 : decode cX9_count 56 = .ok (.getfield 136, 3) := by decide +kernel
theorem dX9_count_59 : decode cX9_count 59 = .ok (.ireturn, 1) := by decide +kernel
theorem dX9_count_60 : decode cX9_count 60 = .ok (.aload_n 0, 1) := by decide +kernel
theorem dX9_count_61 : decode cX9_count 61 = .ok (.getfield 21, 3) := by decide +kernel
theorem dX9_count_64 : decode cX9_count 64 = .ok (.invokevirtual 118, 3) := by decide +kernel
theorem dX9_count_67 : decode cX9_count 67 = .ok (.ireturn, 1) := by decide +kernel
theorem dX9_count_68 : decode cX9_count 68 = .ok (.aload_n 0, 1) := by decide +kernel
theorem dX9_count_69 : decode cX9_count 69 = .ok (.getfield 21, 3) := by decide +kernel
theorem dX9_count_72 : decode cX9_count 72 = .ok (.invokevirtual 344, 3) := by decide +kernel
theorem dX9_count_75 : decode cX9_count 75 = .ok (.ireturn, 1) := by decide +kernel
theorem dX9_count_76 : decode cX9_count 76 = .ok (.aload_n 0, 1) := by decide +kernel
theorem dX9_count_77 : decode cX9_count 77 = .ok (.getfield 21, 3) := by decide +kernel
theorem dX9_count_80 : decode cX9_count 80 = .ok (.getfield 133, 3) := by decide +kernel
theorem dX9_count_83 : decode cX9_count 83 = .ok (.ireturn, 1) := by decide +kernel
theorem dX9_count_84 : decode cX9_count 84 = .ok (.aload_n 0, 1) := by decide +kernel
theorem dX9_count_85 : decode cX9_count 85 = .ok (.getfield 28, 3) := by decide +kernel
theorem dX9_count_88 : decode cX9_count 88 = .ok (.getfield 149, 3) := by decide +kernel
theorem dX9_count_91 : decode cX9_count 91 = .ok (.ireturn, 1) := by decide +kernel
theorem dX9_count_92 : decode cX9_count 92 = .ok (.aload_n 0, 1) := by decide +kernel
theorem dX9_count_93 : decode cX9_count 93 = .ok (.getfield 14, 3) := by decide +kernel
theorem dX9_count_96 : decode cX9_count 96 = .ok (.getfield 347, 3) := by decide +kernel
theorem dX9_count_99 : decode cX9_count 99 = .ok (.ireturn, 1) := by decide +kernel
theorem dX9_count_100 : decode cX9_count 100 = .ok (.iconst (-1), 1) := by decide +kernel
theorem dX9_count_101 : decode cX9_count 101 = .ok (.ireturn, 1) := by decide +kernel
theorem dX9_isOrder_0 : decode cX9_isOrder 0 = .ok (.aload_n 0, 1) := by decide +kernel
theorem dX9_isOrder_1 : decode cX9_isOrder 1 = .ok (.getfield 21, 3) := by decide +kernel
theorem dX9_isOrder_4 : decode cX9_isOrder 4 = .ok (.getfield 341, 3) := by decide +kernel
theorem dX9_isOrder_7 : decode cX9_isOrder 7 = .ok (.ifCond .le 7, 3) := by decide +kernel
theorem dX9_isOrder_10 : decode cX9_isOrder 10 = .ok (.iconst 1, 1) := by decide +kernel
theorem dX9_isOrder_11 : decode cX9_isOrder 11 = .ok (.goto 4, 3) := by decide +kernel
theorem dX9_isOrder_14 : decode cX9_isOrder 14 = .ok (.iconst 0, 1) := by decide +kernel
theorem dX9_isOrder_15 : decode cX9_isOrder 15 = .ok (.ireturn, 1) := by decide +kernel
theorem dX9_isKept_0 : decode cX9_isKept 0 = .ok (.iload_n 1, 1) := by decide +kernel
theorem dX9_isKept_1 : decode cX9_isKept 1 = .ok (.ifCond .lt 24, 3) := by decide +kernel
theorem dX9_isKept_4 : decode cX9_isKept 4 = .ok (.iload_n 1, 1) := by decide +kernel
theorem dX9_isKept_5 : decode cX9_isKept 5 = .ok (.iconst 2, 1) := by decide +kernel
theorem dX9_isKept_6 : decode cX9_isKept 6 = .ok (.if_icmp .ge 19, 3) := by decide +kernel
theorem dX9_isKept_9 : decode cX9_isKept 9 = .ok (.aload_n 0, 1) := by decide +kernel
theorem dX9_isKept_10 : decode cX9_isKept 10 = .ok (.getfield 32, 3) := by decide +kernel
theorem dX9_isKept_13 : decode cX9_isKept 13 = .ok (.iload_n 1, 1) := by decide +kernel
theorem dX9_isKept_14 : decode cX9_isKept 14 = .ok (.aaload, 1) := by decide +kernel
theorem dX9_isKept_15 : decode cX9_isKept 15 = .ok (.getfield 341, 3) := by decide +kernel
theorem dX9_isKept_18 : decode cX9_isKept 18 = .ok (.ifCond .le 7, 3) := by decide +kernel
theorem dX9_isKept_21 : decode cX9_isKept 21 = .ok (.iconst 1, 1) := by decide +kernel
theorem dX9_isKept_22 : decode cX9_isKept 22 = .ok (.goto 4, 3) := by decide +kernel
theorem dX9_isKept_25 : decode cX9_isKept 25 = .ok (.iconst 0, 1) := by decide +kernel
theorem dX9_isKept_26 : decode cX9_isKept 26 = .ok (.ireturn, 1) := by decide +kernel
set_option maxRecDepth 20000 in
theorem ggX9_troubleOf_X6_has : GoodIn wsX9_troubleOf wsX6_has := goodIn_r _ [6, 7, 8, 9, 10, 26, 27, 28, 29, 30, 31] (by decide +kernel) (by decide +kernel)
set_option maxRecDepth 20000 in
theorem gX9_troubleOf_X6_has : GoodIn wsX9_troubleOf (wsV RX9 104 RX6 yX6_has wsX6_has) := goodIn_app (goodIn_of _ (by decide +kernel)) ggX9_troubleOf_X6_has
set_option maxRecDepth 20000 in
theorem ggX9_troubleOf_X6_isUnder : GoodIn wsX9_troubleOf wsX6_isUnder := goodIn_r _ [14, 15, 16, 3, 4, 5, 6, 7, 8, 9, 10, 26, 27, 28, 29, 30, 31] (by decide +kernel) (by decide +kernel)
set_option maxRecDepth 20000 in
theorem gX9_troubleOf_X6_isUnder : GoodIn wsX9_troubleOf (wsV RX9 107 RX6 yX6_isUnder wsX6_isUnder) := goodIn_app (goodIn_of _ (by decide +kernel)) ggX9_troubleOf_X6_isUnder
theorem dX9_troubleOf_0 : decode cX9_troubleOf 0 = .ok (.aload_n 0, 1) := by decide +kernel
theorem dX9_troubleOf_1 : decode cX9_troubleOf 1 = .ok (.getfield 21, 3) := by decide +kernel
theorem dX9_troubleOf_4 : decode cX9_troubleOf 4 = .ok (.iload_n 1, 1) := by decide +kernel
theorem dX9_troubleOf_5 : decode cX9_troubleOf 5 = .ok (.invokevirtual 104, 3) := by decide +kernel
theorem dX9_troubleOf_8 : decode cX9_troubleOf 8 = .ok (.ifCond .eq 14, 3) := by decide +kernel
theorem dX9_troubleOf_11 : decode cX9_troubleOf 11 = .ok (.aload_n 0, 1) := by decide +kernel
theorem dX9_troubleOf_12 : decode cX9_troubleOf 12 = .ok (.getfield 21, 3) := by decide +kernel
theorem dX9_troubleOf_15 : decode cX9_troubleOf 15 = .ok (.iload_n 2, 1) := by decide +kernel
theorem dX9_troubleOf_16 : decode cX9_troubleOf 16 = .ok (.invokevirtual 104, 3) := by decide +kernel
theorem dX9_troubleOf_19 : decode cX9_troubleOf 19 = .ok (.ifCond .ne 5, 3) := by decide +kernel
theorem dX9_troubleOf_22 : decode cX9_troubleOf 22 = .ok (.iconst (-1), 1) := by decide +kernel
theorem dX9_troubleOf_23 : decode cX9_troubleOf 23 = .ok (.ireturn, 1) := by decide +kernel
theorem dX9_troubleOf_24 : decode cX9_troubleOf 24 = .ok (.iload_n 1, 1) := by decide +kernel
theorem dX9_troubleOf_25 : decode cX9_troubleOf 25 = .ok (.iload_n 2, 1) := by decide +kernel
theorem dX9_troubleOf_26 : decode cX9_troubleOf 26 = .ok (.if_icmp .eq 15, 3) := by decide +kernel
theorem dX9_troubleOf_29 : decode cX9_troubleOf 29 = .ok (.aload_n 0, 1) := by decide +kernel
theorem dX9_troubleOf_30 : decode cX9_troubleOf 30 = .ok (.getfield 21, 3) := by decide +kernel
theorem dX9_troubleOf_33 : decode cX9_troubleOf 33 = .ok (.iload_n 1, 1) := by decide +kernel
theorem dX9_troubleOf_34 : decode cX9_troubleOf 34 = .ok (.iload_n 2, 1) := by decide +kernel
theorem dX9_troubleOf_35 : decode cX9_troubleOf 35 = .ok (.invokevirtual 107, 3) := by decide +kernel
theorem dX9_troubleOf_38 : decode cX9_troubleOf 38 = .ok (.ifCond .eq 7, 3) := by decide +kernel
theorem dX9_troubleOf_41 : decode cX9_troubleOf 41 = .ok (.iconst 0, 1) := by decide +kernel
theorem dX9_troubleOf_42 : decode cX9_troubleOf 42 = .ok (.goto 5, 3) := by decide +kernel
theorem dX9_troubleOf_45 : decode cX9_troubleOf 45 = .ok (.bipush (-2), 2) := by decide +kernel
theorem dX9_troubleOf_47 : decode cX9_troubleOf 47 = .ok (.ireturn, 1) := by decide +kernel
set_option maxRecDepth 20000 in
theorem ggX9_troubleWithin_X9_troubleOf : GoodIn wsX9_troubleWithin wsX9_troubleOf := goodIn_r _ [5, 6, 7, 8, 9, 10, 11, 12, 13, 4, 14, 15, 16, 17, 18, 19, 20, 21, 22, 23, 24, 25, 26, 27, 28, 29, 30, 31, 32, 33, 34, 35] (by decide +kernel) (by decide +kernel)
set_option maxRecDepth 20000 in
theorem gX9_troubleWithin_X9_troubleOf : GoodIn wsX9_troubleWithin (wsV RX9 230 RX9 yX9_troubleOf wsX9_troubleOf) := goodIn_app (goodIn_of _ (by decide +kernel)) ggX9_troubleWithin_X9_troubleOf
theorem dX9_troubleWithin_0 : decode cX9_troubleWithin 0 = .ok (.aload_n 0, 1) := by decide +kernel
theorem dX9_troubleWithin_1 : decode cX9_troubleWithin 1 = .ok (.iload_n 1, 1) := by decide +kernel
theorem dX9_troubleWithin_2 : decode cX9_troubleWithin 2 = .ok (.iload_n 2, 1) := by decide +kernel
theorem dX9_troubleWithin_3 : decode cX9_troubleWithin 3 = .ok (.invokevirtual 230, 3) := by decide +kernel
theorem dX9_troubleWithin_6 : decode cX9_troubleWithin 6 = .ok (.istore_n 3, 1) := by decide +kernel
theorem dX9_troubleWithin_7 : decode cX9_troubleWithin 7 = .ok (.iload_n 3, 1) := by decide +kernel
theorem dX9_troubleWithin_8 : decode cX9_troubleWithin 8 = .ok (.ifCond .ne 13, 3) := by decide +kernel
theorem dX9_troubleWithin_11 : decode cX9_troubleWithin 11 = .ok (.iload_n 1, 1) := by decide +kernel
theorem dX9_troubleWithin_12 : decode cX9_troubleWithin 12 = .ok (.iload_n 2, 1) := by decide +kernel
theorem dX9_troubleWithin_13 : decode cX9_troubleWithin 13 = .ok (.if_icmp .ne 8, 3) := by decide +kernel
theorem dX9_troubleWithin_16 : decode cX9_troubleWithin 16 = .ok (.bipush (-2), 2) := by decide +kernel
theorem dX9_troubleWithin_18 : decode cX9_troubleWithin 18 = .ok (.goto 4, 3) := by decide +kernel
theorem dX9_troubleWithin_21 : decode cX9_troubleWithin 21 = .ok (.iload_n 3, 1) := by decide +kernel
theorem dX9_troubleWithin_22 : decode cX9_troubleWithin 22 = .ok (.ireturn, 1) := by decide +kernel
set_option maxRecDepth 20000 in
theorem ggX9_isGraded_X6_has : GoodIn wsX9_isGraded wsX6_has := goodIn_r _ [6, 7, 8, 9, 10, 61, 62, 63, 64, 65, 66] (by decide +kernel) (by decide +kernel)
set_option maxRecDepth 20000 in
theorem gX9_isGraded_X6_has : GoodIn wsX9_isGraded (wsV RX9 104 RX6 yX6_has wsX6_has) := goodIn_app (goodIn_of _ (by decide +kernel)) ggX9_isGraded_X6_has
set_option maxRecDepth 20000 in
theorem ggX9_isGraded_X9_isGradedOver : GoodIn wsX9_isGraded wsX9_isGradedOver := goodIn_r _ [14, 1, 15, 16, 17, 18, 19, 5, 20, 21, 22, 3, 4, 6, 7, 8, 9, 10, 23, 24, 25, 26, 27, 28, 29, 30, 31, 32, 33, 34, 35, 36, 37, 38, 39, 40, 41, 42, 43, 44, 45, 46, 47, 48, 49, 50, 51, 52, 53, 54, 55, 56, 57, 58, 59, 60, 67, 68, 69, 70, 71, 61, 62, 63, 64, 65, 66] (by decide +kernel) (by decide +kernel)
set_option maxRecDepth 20000 in
theorem gX9_isGraded_X9_isGradedOver : GoodIn wsX9_isGraded (wsV RX9 348 RX9 yX9_isGradedOver wsX9_isGradedOver) := goodIn_app (goodIn_of _ (by decide +kernel)) ggX9_isGraded_X9_isGradedOver
theorem dX9_isGraded_0 : decode cX9_isGraded 0 = .ok (.iconst 0, 1) := by decide +kernel
theorem dX9_isGraded_1 : decode cX9_isGraded 1 = .ok (.istore_n 1, 1) := by decide +kernel
theorem dX9_isGraded_2 : decode cX9_isGraded 2 = .ok (.iload_n 1, 1) := by decide +kernel
theorem dX9_isGraded_3 : decode cX9_isGraded 3 = .ok (.bipush 9, 2) := by decide +kernel
theorem dX9_isGraded_5 : decode cX9_isGraded 5 = .ok (.if_icmp .ge 30, 3) := by decide +kernel
theorem dX9_isGraded_8 : decode cX9_isGraded 8 = .ok (.aload_n 0, 1) := by decide +kernel
theorem dX9_isGraded_9 : decode cX9_isGraded 9 = .ok (.getfield 21, 3) := by decide +kernel
theorem dX9_isGraded_12 : decode cX9_isGraded 12 = .ok (.iload_n 1, 1) := by decide +kernel
theorem dX9_isGraded_13 : decode cX9_isGraded 13 = .ok (.invokevirtual 104, 3) := by decide +kernel
theorem dX9_isGraded_16 : decode cX9_isGraded 16 = .ok (.ifCond .eq 13, 3) := by decide +kernel
theorem dX9_isGraded_19 : decode cX9_isGraded 19 = .ok (.aload_n 0, 1) := by decide +kernel
theorem dX9_isGraded_20 : decode cX9_isGraded 20 = .ok (.iload_n 1, 1) := by decide +kernel
theorem dX9_isGraded_21 : decode cX9_isGraded 21 = .ok (.invokevirtual 348, 3) := by decide +kernel
theorem dX9_isGraded_24 : decode cX9_isGraded 24 = .ok (.ifCond .ne 5, 3) := by decide +kernel
theorem dX9_isGraded_27 : decode cX9_isGraded 27 = .ok (.iconst 0, 1) := by decide +kernel
theorem dX9_isGraded_28 : decode cX9_isGraded 28 = .ok (.ireturn, 1) := by decide +kernel
theorem dX9_isGraded_29 : decode cX9_isGraded 29 = .ok (.iinc 1 1, 3) := by decide +kernel
theorem dX9_isGraded_32 : decode cX9_isGraded 32 = .ok (.goto (-30), 3) := by decide +kernel
theorem dX9_isGraded_35 : decode cX9_isGraded 35 = .ok (.iconst 1, 1) := by decide +kernel
theorem dX9_isGraded_36 : decode cX9_isGraded 36 = .ok (.ireturn, 1) := by decide +kernel
set_option maxRecDepth 20000 in
theorem ggX9_isGradedOver_X6_atLeast : GoodIn wsX9_isGradedOver wsX6_atLeast := goodIn_r _ [8, 9, 10, 11, 12, 7, 13, 14, 15, 16, 17, 61, 62, 63, 64, 65, 66] (by decide +kernel) (by decide +kernel)
set_option maxRecDepth 20000 in
theorem gX9_isGradedOver_X6_atLeast : GoodIn wsX9_isGradedOver (wsV RX9 184 RX6 yX6_atLeast wsX6_atLeast) := goodIn_app (goodIn_of _ (by decide +kernel)) ggX9_isGradedOver_X6_atLeast
set_option maxRecDepth 20000 in
theorem ggX9_isGradedOver_X8_measure : GoodIn wsX9_isGradedOver wsX8_measure := goodIn_r _ [22, 23, 24, 25, 26, 27, 28, 29, 30, 31, 32, 7, 33, 14, 34, 35, 36, 37, 38, 15, 16, 17, 56, 57, 58, 59, 60, 61, 62, 63, 64, 65, 66] (by decide +kernel) (by decide +kernel)
set_option maxRecDepth 20000 in
theorem gX9_isGradedOver_X8_measure : GoodIn wsX9_isGradedOver (wsV RX9 177 RX8 yX8_measure wsX8_measure) := goodIn_app (goodIn_of _ (by decide +kernel)) ggX9_isGradedOver_X8_measure
set_option maxRecDepth 20000 in
theorem ggX9_isGradedOver_X9_isIn : GoodIn wsX9_isGradedOver wsX9_isIn := goodIn_r _ [17] (by decide +kernel) (by decide +kernel)
set_option maxRecDepth 20000 in
theorem gX9_isGradedOver_X9_isIn : GoodIn wsX9_isGradedOver (va_wsS RX9 297 yX9_isIn wsX9_isIn) := goodIn_app (goodIn_of _ (by decide +kernel)) ggX9_isGradedOver_X9_isIn
set_option maxRecDepth 20000 in
theorem ggX9_isGradedOver_X6_coverers : GoodIn wsX9_isGradedOver wsX6_coverers := goodIn_r _ [43, 9, 38, 10, 11, 12, 7, 13, 14, 15, 16, 17, 44, 45, 46, 61, 62, 63, 64, 65, 66] (by decide +kernel) (by decide +kernel)
set_option maxRecDepth 20000 in
theorem gX9_isGradedOver_X6_coverers : GoodIn wsX9_isGradedOver (wsV RX9 165 RX6 yX6_coverers wsX6_coverers) := goodIn_app (goodIn_of _ (by decide +kernel)) ggX9_isGradedOver_X6_coverers
theorem dX9_isGradedOver_0 : decode cX9_isGradedOver 0 = .ok (.aload_n 0, 1) := by decide +kernel
theorem dX9_isGradedOver_1 : decode cX9_isGradedOver 1 = .ok (.getfield 21, 3) := by decide +kernel
theorem dX9_isGradedOver_4 : decode cX9_isGradedOver 4 = .ok (.iload_n 1, 1) := by decide +kernel
theorem dX9_isGradedOver_5 : decode cX9_isGradedOver 5 = .ok (.invokevirtual 184, 3) := by decide +kernel
theorem dX9_isGradedOver_8 : decode cX9_isGradedOver 8 = .ok (.istore_n 2, 1) := by decide +kernel
theorem dX9_isGradedOver_9 : decode cX9_isGradedOver 9 = .ok (.aload_n 0, 1) := by decide +kernel
theorem dX9_isGradedOver_10 : decode cX9_isGradedOver 10 = .ok (.getfield 46, 3) := by decide +kernel
theorem dX9_isGradedOver_13 : decode cX9_isGradedOver 13 = .ok (.aload_n 0, 1) := by decide +kernel
theorem dX9_isGradedOver_14 : decode cX9_isGradedOver 14 = .ok (.getfield 21, 3) := by decide +kernel
theorem dX9_isGradedOver_17 : decode cX9_isGradedOver 17 = .ok (.iload_n 2, 1) := by decide +kernel
theorem dX9_isGradedOver_18 : decode cX9_isGradedOver 18 = .ok (.invokevirtual 177, 3) := by decide +kernel
theorem dX9_isGradedOver_21 : decode cX9_isGradedOver 21 = .ok (.iconst 0, 1) := by decide +kernel
theorem dX9_isGradedOver_22 : decode cX9_isGradedOver 22 = .ok (.istore_n 3, 1) := by decide +kernel
theorem dX9_isGradedOver_23 : decode cX9_isGradedOver 23 = .ok (.iload_n 3, 1) := by decide +kernel
theorem dX9_isGradedOver_24 : decode cX9_isGradedOver 24 = .ok (.bipush 9, 2) := by decide +kernel
theorem dX9_isGradedOver_26 : decode cX9_isGradedOver 26 = .ok (.if_icmp .ge 83, 3) := by decide +kernel
theorem dX9_isGradedOver_29 : decode cX9_isGradedOver 29 = .ok (.iload_n 2, 1) := by decide +kernel
theorem dX9_isGradedOver_30 : decode cX9_isGradedOver 30 = .ok (.iload_n 3, 1) := by decide +kernel
theorem dX9_isGradedOver_31 : decode cX9_isGradedOver 31 = .ok (.invokestatic 297, 3) := by decide +kernel
theorem dX9_isGradedOver_34 : decode cX9_isGradedOver 34 = .ok (.ifCond .ne 6, 3) := by decide +kernel
theorem dX9_isGradedOver_37 : decode cX9_isGradedOver 37 = .ok (.goto 66, 3) := by decide +kernel
theorem dX9_isGradedOver_40 : decode cX9_isGradedOver 40 = .ok (.aload_n 0, 1) := by decide +kernel
theorem dX9_isGradedOver_41 : decode cX9_isGradedOver 41 = .ok (.getfield 21, 3) := by decide +kernel
theorem dX9_isGradedOver_44 : decode cX9_isGradedOver 44 = .ok (.iload_n 3, 1) := by decide +kernel
theorem dX9_isGradedOver_45 : decode cX9_isGradedOver 45 = .ok (.iload_n 2, 1) := by decide +kernel
theorem dX9_isGradedOver_46 : decode cX9_isGradedOver 46 = .ok (.invokevirtual 165, 3) := by decide +kernel
theorem dX9_isGradedOver_49 : decode cX9_isGradedOver 49 = .ok (.istore 4, 2) := by decide +kernel
theorem dX9_isGradedOver_51 : decode cX9_isGradedOver 51 = .ok (.iconst 0, 1) := by decide +kernel
theorem dX9_isGradedOver_52 : decode cX9_isGradedOver 52 = .ok (.istore 5, 2) := by decide +kernel
theorem dX9_isGradedOver_54 : decode cX9_isGradedOver 54 = .ok (.iload 5, 2) := by decide +kernel
theorem dX9_isGradedOver_56 : decode cX9_isGradedOver 56 = .ok (.bipush 9, 2) := by decide +kernel
theorem dX9_isGradedOver_58 : decode cX9_isGradedOver 58 = .ok (.if_icmp .ge 45, 3) := by decide +kernel
theorem dX9_isGradedOver_61 : decode cX9_isGradedOver 61 = .ok (.iload 4, 2) := by decide +kernel
theorem dX9_isGradedOver_63 : decode cX9_isGradedOver 63 = .ok (.iload 5, 2) := by decide +kernel
theorem dX9_isGradedOver_65 : decode cX9_isGradedOver 65 = .ok (.invokestatic 297, 3) := by decide +kernel
theorem dX9_isGradedOver_68 : decode cX9_isGradedOver 68 = .ok (.ifCond .eq 29, 3) := by decide +kernel
theorem dX9_isGradedOver_71 : decode cX9_isGradedOver 71 = .ok (.aload_n 0, 1) := by decide +kernel
theorem dX9_isGradedOver_72 : decode cX9_isGradedOver 72 = .ok (.getfield 46, 3) := by decide +kernel
theorem dX9_isGradedOver_75 : decode cX9_isGradedOver 75 = .ok (.getfield 181, 3) := by decide +kernel
theorem dX9_isGradedOver_78 : decode cX9_isGradedOver 78 = .ok (.iload 5, 2) := by decide +kernel
theorem dX9_isGradedOver_80 : decode cX9_isGradedOver 80 = .ok (.iaload, 1) := by decide +kernel
theorem dX9_isGradedOver_81 : decode cX9_isGradedOver 81 = .ok (.aload_n 0, 1) := by decide +kernel
theorem dX9_isGradedOver_82 : decode cX9_isGradedOver 82 = .ok (.getfield 46, 3) := by decide +kernel
theorem dX9_isGradedOver_85 : decode cX9_isGradedOver 85 = .ok (.getfield 181, 3) := by decide +kernel
theorem dX9_isGradedOver_88 : decode cX9_isGradedOver 88 = .ok (.iload_n 3, 1) := by decide +kernel
theorem dX9_isGradedOver_89 : decode cX9_isGradedOver 89 = .ok (.iaload, 1) := by decide +kernel
theorem dX9_isGradedOver_90 : decode cX9_isGradedOver 90 = .ok (.iconst 1, 1) := by decide +kernel
theorem dX9_isGradedOver_91 : decode cX9_isGradedOver 91 = .ok (.iadd, 1) := by decide +kernel
theorem dX9_isGradedOver_92 : decode cX9_isGradedOver 92 = .ok (.if_icmp .eq 5, 3) := by decide +kernel
theorem dX9_isGradedOver_95 : decode cX9_isGradedOver 95 = .ok (.iconst 0, 1) := by decide +kernel
theorem dX9_isGradedOver_96 : decode cX9_isGradedOver 96 = .ok (.ireturn, 1) := by decide +kernel
theorem dX9_isGradedOver_97 : decode cX9_isGradedOver 97 = .ok (.iinc 5 1, 3) := by decide +kernel
theorem dX9_isGradedOver_100 : decode cX9_isGradedOver 100 = .ok (.goto (-46), 3) := by decide +kernel
theorem dX9_isGradedOver_103 : decode cX9_isGradedOver 103 = .ok (.iinc 3 1, 3) := by decide +kernel
theorem dX9_isGradedOver_106 : decode cX9_isGradedOver 106 = .ok (.goto (-83), 3) := by decide +kernel
theorem dX9_isGradedOver_109 : decode cX9_isGradedOver 109 = .ok (.iconst 1, 1) := by decide +kernel
theorem dX9_isGradedOver_110 : decode cX9_isGradedOver 110 = .ok (.ireturn, 1) := by decide +kernel
theorem dX9_isIn_0 : decode cX9_isIn 0 = .ok (.iload_n 1, 1) := by decide +kernel
theorem dX9_isIn_1 : decode cX9_isIn 1 = .ok (.ifCond .lt 21, 3) := by decide +kernel
theorem dX9_isIn_4 : decode cX9_isIn 4 = .ok (.iload_n 1, 1) := by decide +kernel
theorem dX9_isIn_5 : decode cX9_isIn 5 = .ok (.bipush 9, 2) := by decide +kernel
theorem dX9_isIn_7 : decode cX9_isIn 7 = .ok (.if_icmp .ge 15, 3) := by decide +kernel
theorem dX9_isIn_10 : decode cX9_isIn 10 = .ok (.iload_n 0, 1) := by decide +kernel
theorem dX9_isIn_11 : decode cX9_isIn 11 = .ok (.iload_n 1, 1) := by decide +kernel
theorem dX9_isIn_12 : decode cX9_isIn 12 = .ok (.ishr, 1) := by decide +kernel
theorem dX9_isIn_13 : decode cX9_isIn 13 = .ok (.iconst 1, 1) := by decide +kernel
theorem dX9_isIn_14 : decode cX9_isIn 14 = .ok (.iand, 1) := by decide +kernel
theorem dX9_isIn_15 : decode cX9_isIn 15 = .ok (.ifCond .eq 7, 3) := by decide +kernel
theorem dX9_isIn_18 : decode cX9_isIn 18 = .ok (.iconst 1, 1) := by decide +kernel
theorem dX9_isIn_19 : decode cX9_isIn 19 = .ok (.goto 4, 3) := by decide +kernel
theorem dX9_isIn_22 : decode cX9_isIn 22 = .ok (.iconst 0, 1) := by decide +kernel
theorem dX9_isIn_23 : decode cX9_isIn 23 = .ok (.ireturn, 1) := by decide +kernel
theorem dX9_isPlaceSet_0 : decode cX9_isPlaceSet 0 = .ok (.iload_n 0, 1) := by decide +kernel
theorem dX9_isPlaceSet_1 : decode cX9_isPlaceSet 1 = .ok (.ifCond .lt 20, 3) := by decide +kernel
theorem dX9_isPlaceSet_4 : decode cX9_isPlaceSet 4 = .ok (.iload_n 0, 1) := by decide +kernel
theorem dX9_isPlaceSet_5 : decode cX9_isPlaceSet 5 = .ok (.sipush 512, 3) := by decide +kernel
theorem dX9_isPlaceSet_8 : decode cX9_isPlaceSet 8 = .ok (.if_icmp .ge 13, 3) := by decide +kernel
theorem dX9_isPlaceSet_11 : decode cX9_isPlaceSet 11 = .ok (.iload_n 0, 1) := by decide +kernel
theorem dX9_isPlaceSet_12 : decode cX9_isPlaceSet 12 = .ok (.iconst 1, 1) := by decide +kernel
theorem dX9_isPlaceSet_13 : decode cX9_isPlaceSet 13 = .ok (.iand, 1) := by decide +kernel
theorem dX9_isPlaceSet_14 : decode cX9_isPlaceSet 14 = .ok (.ifCond .ne 7, 3) := by decide +kernel
theorem dX9_isPlaceSet_17 : decode cX9_isPlaceSet 17 = .ok (.iconst 1, 1) := by decide +kernel
theorem dX9_isPlaceSet_18 : decode cX9_isPlaceSet 18 = .ok (.goto 4, 3) := by decide +kernel
theorem dX9_isPlaceSet_21 : decode cX9_isPlaceSet 21 = .ok (.iconst 0, 1) := by decide +kernel
theorem dX9_isPlaceSet_22 : decode cX9_isPlaceSet 22 = .ok (.ireturn, 1) := by decide +kernel
theorem dX9_asNumber_0 : decode cX9_asNumber 0 = .ok (.iload_n 0, 1) := by decide +kernel
theorem dX9_asNumber_1 : decode cX9_asNumber 1 = .ok (.ifCond .eq 7, 3) := by decide +kernel
theorem dX9_asNumber_4 : decode cX9_asNumber 4 = .ok (.iconst 1, 1) := by decide +kernel
theorem dX9_asNumber_5 : decode cX9_asNumber 5 = .ok (.goto 4, 3) := by decide +kernel
theorem dX9_asNumber_8 : decode cX9_asNumber 8 = .ok (.iconst 0, 1) := by decide +kernel
theorem dX9_asNumber_9 : decode cX9_asNumber 9 = .ok (.ireturn, 1) := by decide +kernel
theorem dX10_init_0 : decode cX10_init 0 = .ok (.aload_n 0, 1) := by decide +kernel
theorem dX10_init_1 : decode cX10_init 1 = .ok (.invokespecial 3, 3) := by decide +kernel
theorem dX10_init_4 : decode cX10_init 4 = .ok (.aload_n 0, 1) := by decide +kernel
theorem dX10_init_5 : decode cX10_init 5 = .ok (.bipush 93, 2) := by decide +kernel
theorem dX10_init_7 : decode cX10_init 7 = .ok (.newarray .int, 2) := by decide +kernel
theorem dX10_init_9 : decode cX10_init 9 = .ok (.putfield 9, 3) := by decide +kernel
theorem dX10_init_12 : decode cX10_init 12 = .ok (.aload_n 0, 1) := by decide +kernel
theorem dX10_init_13 : decode cX10_init 13 = .ok (.bipush 93, 2) := by decide +kernel
theorem dX10_init_15 : decode cX10_init 15 = .ok (.newarray .int, 2) := by decide +kernel
theorem dX10_init_17 : decode cX10_init 17 = .ok (.putfield 15, 3) := by decide +kernel
