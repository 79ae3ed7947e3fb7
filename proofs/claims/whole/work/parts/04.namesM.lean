theorem dX10_init_0 : decode cX10_init 0 = .ok (.aload_n 0, 1) := by decide +kernel
theorem dX10_init_1 : decode cX10_init 1 = .ok (.invokespecial 1, 3) := by decide +kernel
theorem dX10_init_4 : decode cX10_init 4 = .ok (.aload_n 0, 1) := by decide +kernel
theorem dX10_init_5 : decode cX10_init 5 = .ok (.bipush 12, 2) := by decide +kernel
theorem dX10_init_7 : decode cX10_init 7 = .ok (.newarray .int, 2) := by decide +kernel
theorem dX10_init_9 : decode cX10_init 9 = .ok (.putfield 7, 3) := by decide +kernel
theorem dX10_init_12 : decode cX10_init 12 = .ok (.aload_n 0, 1) := by decide +kernel
theorem dX10_init_13 : decode cX10_init 13 = .ok (.bipush 25, 2) := by decide +kernel
theorem dX10_init_15 : decode cX10_init 15 = .ok (.newarray .int, 2) := by decide +kernel
theorem dX10_init_17 : decode cX10_init 17 = .ok (.putfield 13, 3) := by decide +kernel
theorem dX10_init_20 : decode cX10_init 20 = .ok (.aload_n 0, 1) := by decide +kernel
theorem dX10_init_21 : decode cX10_init 21 = .ok (.bipush 25, 2) := by decide +kernel
theorem dX10_init_23 : decode cX10_init 23 = .ok (.newarray .int, 2) := by decide +kernel
theorem dX10_init_25 : decode cX10_init 25 = .ok (.putfield 16, 3) := by decide +kernel
theorem dX10_init_28 : decode cX10_init 28 = .ok (.aload_n 0, 1) := by decide +kernel
theorem dX10_init_29 : decode cX10_init 29 = .ok (.bipush 16, 2) := by decide +kernel
theorem dX10_init_31 : decode cX10_init 31 = .ok (.newarray .int, 2) := by decide +kernel
theorem dX10_init_33 : decode cX10_init 33 = .ok (.putfield 19, 3) := by decide +kernel
theorem dX10_init_36 : decode cX10_init 36 = .ok (.aload_n 0, 1) := by decide +kernel
theorem dX10_init_37 : decode cX10_init 37 = .ok (.bipush 24, 2) := by decide +kernel
theorem dX10_init_39 : decode cX10_init 39 = .ok (.newarray .int, 2) := by decide +kernel
theorem dX10_init_41 : decode cX10_init 41 = .ok (.putfield 22, 3) := by decide +kernel
theorem dX10_init_44 : decode cX10_init 44 = .ok (.aload_n 0, 1) := by decide +kernel
theorem dX10_init_45 : decode cX10_init 45 = .ok (.bipush 60, 2) := by decide +kernel
theorem dX10_init_47 : decode cX10_init 47 = .ok (.newarray .int, 2) := by decide +kernel
theorem dX10_init_49 : decode cX10_init 49 = .ok (.putfield 25, 3) := by decide +kernel
theorem dX10_init_52 : decode cX10_init 52 = .ok (.aload_n 0, 1) := by decide +kernel
theorem dX10_init_53 : decode cX10_init 53 = .ok (.sipush 144, 3) := by decide +kernel
theorem dX10_init_56 : decode cX10_init 56 = .ok (.newarray .int, 2) := by decide +kernel
theorem dX10_init_58 : decode cX10_init 58 = .ok (.putfield 28, 3) := by decide +kernel
theorem dX10_init_61 : decode cX10_init 61 = .ok (.aload_n 0, 1) := by decide +kernel
theorem dX10_init_62 : decode cX10_init 62 = .ok (.sipush 144, 3) := by decide +kernel
theorem dX10_init_65 : decode cX10_init 65 = .ok (.newarray .int, 2) := by decide +kernel
theorem dX10_init_67 : decode cX10_init 67 = .ok (.putfield 31, 3) := by decide +kernel
theorem dX10_init_70 : decode cX10_init 70 = .ok (.aload_n 0, 1) := by decide +kernel
theorem dX10_init_71 : decode cX10_init 71 = .ok (.bipush 56, 2) := by decide +kernel
theorem dX10_init_73 : decode cX10_init 73 = .ok (.newarray .int, 2) := by decide +kernel
theorem dX10_init_75 : decode cX10_init 75 = .ok (.putfield 34, 3) := by decide +kernel
theorem dX10_init_78 : decode cX10_init 78 = .ok (.aload_n 0, 1) := by decide +kernel
theorem dX10_init_79 : decode cX10_init 79 = .ok (.bipush 56, 2) := by decide +kernel
theorem dX10_init_81 : decode cX10_init 81 = .ok (.newarray .int, 2) := by decide +kernel
theorem dX10_init_83 : decode cX10_init 83 = .ok (.putfield 37, 3) := by decide +kernel
theorem dX10_init_86 : decode cX10_init 86 = .ok (.aload_n 0, 1) := by decide +kernel
theorem dX10_init_87 : decode cX10_init 87 = .ok (.bipush 56, 2) := by decide +kernel
theorem dX10_init_89 : decode cX10_init 89 = .ok (.newarray .long, 2) := by decide +kernel
theorem dX10_init_91 : decode cX10_init 91 = .ok (.putfield 40, 3) := by decide +kernel
theorem dX10_init_94 : decode cX10_init 94 = .ok (.aload_n 0, 1) := by decide +kernel
theorem dX10_init_95 : decode cX10_init 95 = .ok (.bipush 56, 2) := by decide +kernel
theorem dX10_init_97 : decode cX10_init 97 = .ok (.newarray .long, 2) := by decide +kernel
theorem dX10_init_99 : decode cX10_init 99 = .ok (.putfield 44, 3) := by decide +kernel
theorem dX10_init_102 : decode cX10_init 102 = .ok (.aload_n 0, 1) := by decide +kernel
theorem dX10_init_103 : decode cX10_init 103 = .ok (.bipush 13, 2) := by decide +kernel
theorem dX10_init_105 : decode cX10_init 105 = .ok (.newarray .int, 2) := by decide +kernel
theorem dX10_init_107 : decode cX10_init 107 = .ok (.putfield 47, 3) := by decide +kernel
theorem dX10_init_110 : decode cX10_init 110 = .ok (.aload_n 0, 1) := by decide +kernel
theorem dX10_init_111 : decode cX10_init 111 = .ok (.sipush 180, 3) := by decide +kernel
theorem dX10_init_114 : decode cX10_init 114 = .ok (.newarray .int, 2) := by decide +kernel
theorem dX10_init_116 : decode cX10_init 116 = .ok (.putfield 50, 3) := by decide +kernel
theorem dX10_init_119 : decode cX10_init 119 = .ok (.aload_n 0, 1) := by decide +kernel
theorem dX10_init_120 : decode cX10_init 120 = .ok (.iconst 2, 1) := by decide +kernel
theorem dX10_init_121 : decode cX10_init 121 = .ok (.newarray .boolean, 2) := by decide +kernel
theorem dX10_init_123 : decode cX10_init 123 = .ok (.putfield 53, 3) := by decide +kernel
theorem dX10_init_126 : decode cX10_init 126 = .ok (.aload_n 0, 1) := by decide +kernel
theorem dX10_init_127 : decode cX10_init 127 = .ok (.getfield 13, 3) := by decide +kernel
theorem dX10_init_130 : decode cX10_init 130 = .ok (.bipush 22, 2) := by decide +kernel
theorem dX10_init_132 : decode cX10_init 132 = .ok (.bipush (-6), 2) := by decide +kernel
theorem dX10_init_134 : decode cX10_init 134 = .ok (.iastore, 1) := by decide +kernel
theorem dX10_init_135 : decode cX10_init 135 = .ok (.aload_n 0, 1) := by decide +kernel
theorem dX10_init_136 : decode cX10_init 136 = .ok (.getfield 13, 3) := by decide +kernel
theorem dX10_init_139 : decode cX10_init 139 = .ok (.bipush 23, 2) := by decide +kernel
theorem dX10_init_141 : decode cX10_init 141 = .ok (.bipush (-6), 2) := by decide +kernel
theorem dX10_init_143 : decode cX10_init 143 = .ok (.iastore, 1) := by decide +kernel
theorem dX10_init_144 : decode cX10_init 144 = .ok (.return_, 1) := by decide +kernel
theorem dX10_in_0 : decode cX10_in 0 = .ok (.iload_n 0, 1) := by decide +kernel
theorem dX10_in_1 : decode cX10_in 1 = .ok (.iload_n 1, 1) := by decide +kernel
theorem dX10_in_2 : decode cX10_in 2 = .ok (.if_icmp .lt 12, 3) := by decide +kernel
theorem dX10_in_5 : decode cX10_in 5 = .ok (.iload_n 0, 1) := by decide +kernel
theorem dX10_in_6 : decode cX10_in 6 = .ok (.iload_n 2, 1) := by decide +kernel
theorem dX10_in_7 : decode cX10_in 7 = .ok (.if_icmp .gt 7, 3) := by decide +kernel
theorem dX10_in_10 : decode cX10_in 10 = .ok (.iconst 1, 1) := by decide +kernel
theorem dX10_in_11 : decode cX10_in 11 = .ok (.goto 4, 3) := by decide +kernel
theorem dX10_in_14 : decode cX10_in 14 = .ok (.iconst 0, 1) := by decide +kernel
theorem dX10_in_15 : decode cX10_in 15 = .ok (.ireturn, 1) := by decide +kernel
theorem dX10_has_0 : decode cX10_has 0 = .ok (.iload_n 0, 1) := by decide +kernel
theorem dX10_has_1 : decode cX10_has 1 = .ok (.iload_n 1, 1) := by decide +kernel
theorem dX10_has_2 : decode cX10_has 2 = .ok (.ishr, 1) := by decide +kernel
theorem dX10_has_3 : decode cX10_has 3 = .ok (.iconst 1, 1) := by decide +kernel
theorem dX10_has_4 : decode cX10_has 4 = .ok (.iand, 1) := by decide +kernel
theorem dX10_has_5 : decode cX10_has 5 = .ok (.iconst 1, 1) := by decide +kernel
theorem dX10_has_6 : decode cX10_has 6 = .ok (.if_icmp .ne 7, 3) := by decide +kernel
theorem dX10_has_9 : decode cX10_has 9 = .ok (.iconst 1, 1) := by decide +kernel
theorem dX10_has_10 : decode cX10_has 10 = .ok (.goto 4, 3) := by decide +kernel
theorem dX10_has_13 : decode cX10_has 13 = .ok (.iconst 0, 1) := by decide +kernel
theorem dX10_has_14 : decode cX10_has 14 = .ok (.ireturn, 1) := by decide +kernel
theorem dX10_bits_0 : decode cX10_bits 0 = .ok (.iconst 0, 1) := by decide +kernel
theorem dX10_bits_1 : decode cX10_bits 1 = .ok (.istore_n 1, 1) := by decide +kernel
theorem dX10_bits_2 : decode cX10_bits 2 = .ok (.iconst 0, 1) := by decide +kernel
theorem dX10_bits_3 : decode cX10_bits 3 = .ok (.istore_n 2, 1) := by decide +kernel
theorem dX10_bits_4 : decode cX10_bits 4 = .ok (.iload_n 2, 1) := by decide +kernel
theorem dX10_bits_5 : decode cX10_bits 5 = .ok (.bipush 12, 2) := by decide +kernel
theorem dX10_bits_7 : decode cX10_bits 7 = .ok (.if_icmp .ge 17, 3) := by decide +kernel
theorem dX10_bits_10 : decode cX10_bits 10 = .ok (.iload_n 1, 1) := by decide +kernel
theorem dX10_bits_11 : decode cX10_bits 11 = .ok (.iload_n 0, 1) := by decide +kernel
theorem dX10_bits_12 : decode cX10_bits 12 = .ok (.iload_n 2, 1) := by decide +kernel
theorem dX10_bits_13 : decode cX10_bits 13 = .ok (.ishr, 1) := by decide +kernel
theorem dX10_bits_14 : decode cX10_bits 14 = .ok (.iconst 1, 1) := by decide +kernel
theorem dX10_bits_15 : decode cX10_bits 15 = .ok (.iand, 1) := by decide +kernel
theorem dX10_bits_16 : decode cX10_bits 16 = .ok (.iadd, 1) := by decide +kernel
theorem dX10_bits_17 : decode cX10_bits 17 = .ok (.istore_n 1, 1) := by decide +kernel
theorem dX10_bits_18 : decode cX10_bits 18 = .ok (.iinc 2 1, 3) := by decide +kernel
theorem dX10_bits_21 : decode cX10_bits 21 = .ok (.goto (-17), 3) := by decide +kernel
theorem dX10_bits_24 : decode cX10_bits 24 = .ok (.iload_n 1, 1) := by decide +kernel
theorem dX10_bits_25 : decode cX10_bits 25 = .ok (.ireturn, 1) := by decide +kernel
set_option maxRecDepth 20000 in
theorem ggX10_isPlace_X10_in : GoodIn wsX10_isPlace wsX10_in := goodIn_r _ [4] (by decide +kernel) (by decide +kernel)
set_option maxRecDepth 20000 in
theorem gX10_isPlace_X10_in : GoodIn wsX10_isPlace (va_wsS RX10 57 yX10_in wsX10_in) := goodIn_app (goodIn_of _ (by decide +kernel)) ggX10_isPlace_X10_in
theorem dX10_isPlace_0 : decode cX10_isPlace 0 = .ok (.iload_n 0, 1) := by decide +kernel
theorem dX10_isPlace_1 : decode cX10_isPlace 1 = .ok (.iconst 0, 1) := by decide +kernel
theorem dX10_isPlace_2 : decode cX10_isPlace 2 = .ok (.bipush 11, 2) := by decide +kernel
theorem dX10_isPlace_4 : decode cX10_isPlace 4 = .ok (.invokestatic 57, 3) := by decide +kernel
theorem dX10_isPlace_7 : decode cX10_isPlace 7 = .ok (.ireturn, 1) := by decide +kernel
set_option maxRecDepth 20000 in
theorem ggX10_isNumber_X10_in : GoodIn wsX10_isNumber wsX10_in := goodIn_r _ [4] (by decide +kernel) (by decide +kernel)
set_option maxRecDepth 20000 in
theorem gX10_isNumber_X10_in : GoodIn wsX10_isNumber (va_wsS RX10 57 yX10_in wsX10_in) := goodIn_app (goodIn_of _ (by decide +kernel)) ggX10_isNumber_X10_in
theorem dX10_isNumber_0 : decode cX10_isNumber 0 = .ok (.iload_n 0, 1) := by decide +kernel
theorem dX10_isNumber_1 : decode cX10_isNumber 1 = .ok (.iconst 0, 1) := by decide +kernel
theorem dX10_isNumber_2 : decode cX10_isNumber 2 = .ok (.bipush 6, 2) := by decide +kernel
theorem dX10_isNumber_4 : decode cX10_isNumber 4 = .ok (.invokestatic 57, 3) := by decide +kernel
theorem dX10_isNumber_7 : decode cX10_isNumber 7 = .ok (.ireturn, 1) := by decide +kernel
set_option maxRecDepth 20000 in
theorem ggX10_isThere_X10_isNumber : GoodIn wsX10_isThere wsX10_isNumber := goodIn_r _ [5, 6, 7, 4, 8] (by decide +kernel) (by decide +kernel)
set_option maxRecDepth 20000 in
theorem gX10_isThere_X10_isNumber : GoodIn wsX10_isThere (va_wsS RX10 61 yX10_isNumber wsX10_isNumber) := goodIn_app (goodIn_of _ (by decide +kernel)) ggX10_isThere_X10_isNumber
set_option maxRecDepth 20000 in
theorem ggX10_isThere_X10_has : GoodIn wsX10_isThere wsX10_has := goodIn_r _ [11] (by decide +kernel) (by decide +kernel)
set_option maxRecDepth 20000 in
theorem gX10_isThere_X10_has : GoodIn wsX10_isThere (va_wsS RX10 69 yX10_has wsX10_has) := goodIn_app (goodIn_of _ (by decide +kernel)) ggX10_isThere_X10_has
theorem dX10_isThere_0 : decode cX10_isThere 0 = .ok (.iload_n 1, 1) := by decide +kernel
theorem dX10_isThere_1 : decode cX10_isThere 1 = .ok (.invokestatic 61, 3) := by decide +kernel
theorem dX10_isThere_4 : decode cX10_isThere 4 = .ok (.ifCond .eq 18, 3) := by decide +kernel
theorem dX10_isThere_7 : decode cX10_isThere 7 = .ok (.aload_n 0, 1) := by decide +kernel
theorem dX10_isThere_8 : decode cX10_isThere 8 = .ok (.getfield 65, 3) := by decide +kernel
theorem dX10_isThere_11 : decode cX10_isThere 11 = .ok (.iload_n 1, 1) := by decide +kernel
theorem dX10_isThere_12 : decode cX10_isThere 12 = .ok (.invokestatic 69, 3) := by decide +kernel
theorem dX10_isThere_15 : decode cX10_isThere 15 = .ok (.ifCond .eq 7, 3) := by decide +kernel
theorem dX10_isThere_18 : decode cX10_isThere 18 = .ok (.iconst 1, 1) := by decide +kernel
theorem dX10_isThere_19 : decode cX10_isThere 19 = .ok (.goto 4, 3) := by decide +kernel
theorem dX10_isThere_22 : decode cX10_isThere 22 = .ok (.iconst 0, 1) := by decide +kernel
theorem dX10_isThere_23 : decode cX10_isThere 23 = .ok (.ireturn, 1) := by decide +kernel
set_option maxRecDepth 20000 in
theorem ggX10_road_X10_isPlace : GoodIn wsX10_road wsX10_isPlace := goodIn_r _ [5, 6, 7, 4, 8] (by decide +kernel) (by decide +kernel)
set_option maxRecDepth 20000 in
theorem gX10_road_X10_isPlace : GoodIn wsX10_road (va_wsS RX10 73 yX10_isPlace wsX10_isPlace) := goodIn_app (goodIn_of _ (by decide +kernel)) ggX10_road_X10_isPlace
set_option maxRecDepth 20000 in
theorem ggX10_road_X10_bits : GoodIn wsX10_road wsX10_bits := goodIn_r _ [11] (by decide +kernel) (by decide +kernel)
set_option maxRecDepth 20000 in
theorem gX10_road_X10_bits : GoodIn wsX10_road (va_wsS RX10 76 yX10_bits wsX10_bits) := goodIn_app (goodIn_of _ (by decide +kernel)) ggX10_road_X10_bits
theorem dX10_road_0 : decode cX10_road 0 = .ok (.iload_n 1, 1) := by decide +kernel
theorem dX10_road_1 : decode cX10_road 1 = .ok (.invokestatic 73, 3) := by decide +kernel
theorem dX10_road_4 : decode cX10_road 4 = .ok (.ifCond .eq 15, 3) := by decide +kernel
theorem dX10_road_7 : decode cX10_road 7 = .ok (.iload_n 2, 1) := by decide +kernel
theorem dX10_road_8 : decode cX10_road 8 = .ok (.invokestatic 73, 3) := by decide +kernel
theorem dX10_road_11 : decode cX10_road 11 = .ok (.ifCond .eq 8, 3) := by decide +kernel
theorem dX10_road_14 : decode cX10_road 14 = .ok (.iload_n 1, 1) := by decide +kernel
theorem dX10_road_15 : decode cX10_road 15 = .ok (.iload_n 2, 1) := by decide +kernel
theorem dX10_road_16 : decode cX10_road 16 = .ok (.if_icmp .ne 5, 3) := by decide +kernel
theorem dX10_road_19 : decode cX10_road 19 = .ok (.iconst (-1), 1) := by decide +kernel
theorem dX10_road_20 : decode cX10_road 20 = .ok (.ireturn, 1) := by decide +kernel
theorem dX10_road_21 : decode cX10_road 21 = .ok (.aload_n 0, 1) := by decide +kernel
theorem dX10_road_22 : decode cX10_road 22 = .ok (.getfield 7, 3) := by decide +kernel
theorem dX10_road_25 : decode cX10_road 25 = .ok (.iload_n 1, 1) := by decide +kernel
theorem dX10_road_26 : decode cX10_road 26 = .ok (.dup2, 1) := by decide +kernel
theorem dX10_road_27 : decode cX10_road 27 = .ok (.iaload, 1) := by decide +kernel
theorem dX10_road_28 : decode cX10_road 28 = .ok (.iconst 1, 1) := by decide +kernel
theorem dX10_road_29 : decode cX10_road 29 = .ok (.iload_n 2, 1) := by decide +kernel
theorem dX10_road_30 : decode cX10_road 30 = .ok (.ishl, 1) := by decide +kernel
theorem dX10_road_31 : decode cX10_road 31 = .ok (.iconst (-1), 1) := by decide +kernel
theorem dX10_road_32 : decode cX10_road 32 = .ok (.ixor, 1) := by decide +kernel
theorem dX10_road_33 : decode cX10_road 33 = .ok (.iand, 1) := by decide +kernel
theorem dX10_road_34 : decode cX10_road 34 = .ok (.iastore, 1) := by decide +kernel
theorem dX10_road_35 : decode cX10_road 35 = .ok (.aload_n 0, 1) := by decide +kernel
theorem dX10_road_36 : decode cX10_road 36 = .ok (.getfield 7, 3) := by decide +kernel
theorem dX10_road_39 : decode cX10_road 39 = .ok (.iload_n 2, 1) := by decide +kernel
theorem dX10_road_40 : decode cX10_road 40 = .ok (.dup2, 1) := by decide +kernel
theorem dX10_road_41 : decode cX10_road 41 = .ok (.iaload, 1) := by decide +kernel
theorem dX10_road_42 : decode cX10_road 42 = .ok (.iconst 1, 1) := by decide +kernel
theorem dX10_road_43 : decode cX10_road 43 = .ok (.iload_n 1, 1) := by decide +kernel
theorem dX10_road_44 : decode cX10_road 44 = .ok (.ishl, 1) := by decide +kernel
theorem dX10_road_45 : decode cX10_road 45 = .ok (.iconst (-1), 1) := by decide +kernel
theorem dX10_road_46 : decode cX10_road 46 = .ok (.ixor, 1) := by decide +kernel
theorem dX10_road_47 : decode cX10_road 47 = .ok (.iand, 1) := by decide +kernel
theorem dX10_road_48 : decode cX10_road 48 = .ok (.iastore, 1) := by decide +kernel
theorem dX10_road_49 : decode cX10_road 49 = .ok (.aload_n 0, 1) := by decide +kernel
theorem dX10_road_50 : decode cX10_road 50 = .ok (.getfield 7, 3) := by decide +kernel
theorem dX10_road_53 : decode cX10_road 53 = .ok (.iload_n 1, 1) := by decide +kernel
theorem dX10_road_54 : decode cX10_road 54 = .ok (.dup2, 1) := by decide +kernel
theorem dX10_road_55 : decode cX10_road 55 = .ok (.iaload, 1) := by decide +kernel
theorem dX10_road_56 : decode cX10_road 56 = .ok (.iload_n 3, 1) := by decide +kernel
theorem dX10_road_57 : decode cX10_road 57 = .ok (.ifCond .eq 9, 3) := by decide +kernel
theorem dX10_road_60 : decode cX10_road 60 = .ok (.iconst 1, 1) := by decide +kernel
theorem dX10_road_61 : decode cX10_road 61 = .ok (.iload_n 2, 1) := by decide +kernel
theorem dX10_road_62 : decode cX10_road 62 = .ok (.ishl, 1) := by decide +kernel
theorem dX10_road_63 : decode cX10_road 63 = .ok (.goto 4, 3) := by decide +kernel
theorem dX10_road_66 : decode cX10_road 66 = .ok (.iconst 0, 1) := by decide +kernel
theorem dX10_road_67 : decode cX10_road 67 = .ok (.ior, 1) := by decide +kernel
theorem dX10_road_68 : decode cX10_road 68 = .ok (.iastore, 1) := by decide +kernel
theorem dX10_road_69 : decode cX10_road 69 = .ok (.aload_n 0, 1) := by decide +kernel
theorem dX10_road_70 : decode cX10_road 70 = .ok (.getfield 7, 3) := by decide +kernel
theorem dX10_road_73 : decode cX10_road 73 = .ok (.iload_n 2, 1) := by decide +kernel
theorem dX10_road_74 : decode cX10_road 74 = .ok (.dup2, 1) := by decide +kernel
theorem dX10_road_75 : decode cX10_road 75 = .ok (.iaload, 1) := by decide +kernel
theorem dX10_road_76 : decode cX10_road 76 = .ok (.iload_n 3, 1) := by decide +kernel
theorem dX10_road_77 : decode cX10_road 77 = .ok (.ifCond .eq 9, 3) := by decide +kernel
theorem dX10_road_80 : decode cX10_road 80 = .ok (.iconst 1, 1) := by decide +kernel
theorem dX10_road_81 : decode cX10_road 81 = .ok (.iload_n 1, 1) := by decide +kernel
theorem dX10_road_82 : decode cX10_road 82 = .ok (.ishl, 1) := by decide +kernel
theorem dX10_road_83 : decode cX10_road 83 = .ok (.goto 4, 3) := by decide +kernel
theorem dX10_road_86 : decode cX10_road 86 = .ok (.iconst 0, 1) := by decide +kernel
theorem dX10_road_87 : decode cX10_road 87 = .ok (.ior, 1) := by decide +kernel
theorem dX10_road_88 : decode cX10_road 88 = .ok (.iastore, 1) := by decide +kernel
theorem dX10_road_89 : decode cX10_road 89 = .ok (.iconst 0, 1) := by decide +kernel
theorem dX10_road_90 : decode cX10_road 90 = .ok (.istore 4, 2) := by decide +kernel
theorem dX10_road_92 : decode cX10_road 92 = .ok (.iconst 0, 1) := by decide +kernel
theorem dX10_road_93 : decode cX10_road 93 = .ok (.istore 5, 2) := by decide +kernel
theorem dX10_road_95 : decode cX10_road 95 = .ok (.iload 5, 2) := by decide +kernel
theorem dX10_road_97 : decode cX10_road 97 = .ok (.bipush 12, 2) := by decide +kernel
theorem dX10_road_99 : decode cX10_road 99 = .ok (.if_icmp .ge 24, 3) := by decide +kernel
theorem dX10_road_102 : decode cX10_road 102 = .ok (.iload 4, 2) := by decide +kernel
theorem dX10_road_104 : decode cX10_road 104 = .ok (.aload_n 0, 1) := by decide +kernel
theorem dX10_road_105 : decode cX10_road 105 = .ok (.getfield 7, 3) := by decide +kernel
theorem dX10_road_108 : decode cX10_road 108 = .ok (.iload 5, 2) := by decide +kernel
theorem dX10_road_110 : decode cX10_road 110 = .ok (.iaload, 1) := by decide +kernel
theorem dX10_road_111 : decode cX10_road 111 = .ok (.invokestatic 76, 3) := by decide +kernel
theorem dX10_road_114 : decode cX10_road 114 = .ok (.iadd, 1) := by decide +kernel
theorem dX10_road_115 : decode cX10_road 115 = .ok (.istore 4, 2) := by decide +kernel
theorem dX10_road_117 : decode cX10_road 117 = .ok (.iinc 5 1, 3) := by decide +kernel
theorem dX10_road_120 : decode cX10_road 120 = .ok (.goto (-25), 3) := by decide +kernel
theorem dX10_road_123 : decode cX10_road 123 = .ok (.iload 4, 2) := by decide +kernel
theorem dX10_road_125 : decode cX10_road 125 = .ok (.iconst 2, 1) := by decide +kernel
theorem dX10_road_126 : decode cX10_road 126 = .ok (.idiv, 1) := by decide +kernel
theorem dX10_road_127 : decode cX10_road 127 = .ok (.ireturn, 1) := by decide +kernel
set_option maxRecDepth 20000 in
theorem ggX10_home_X10_isPlace : GoodIn wsX10_home wsX10_isPlace := goodIn_r _ [5, 6, 7, 4, 8] (by decide +kernel) (by decide +kernel)
set_option maxRecDepth 20000 in
theorem gX10_home_X10_isPlace : GoodIn wsX10_home (va_wsS RX10 73 yX10_isPlace wsX10_isPlace) := goodIn_app (goodIn_of _ (by decide +kernel)) ggX10_home_X10_isPlace
theorem dX10_home_0 : decode cX10_home 0 = .ok (.iload_n 1, 1) := by decide +kernel
theorem dX10_home_1 : decode cX10_home 1 = .ok (.invokestatic 73, 3) := by decide +kernel
theorem dX10_home_4 : decode cX10_home 4 = .ok (.ifCond .ne 5, 3) := by decide +kernel
theorem dX10_home_7 : decode cX10_home 7 = .ok (.iconst (-1), 1) := by decide +kernel
theorem dX10_home_8 : decode cX10_home 8 = .ok (.ireturn, 1) := by decide +kernel
theorem dX10_home_9 : decode cX10_home 9 = .ok (.aload_n 0, 1) := by decide +kernel
theorem dX10_home_10 : decode cX10_home 10 = .ok (.dup, 1) := by decide +kernel
theorem dX10_home_11 : decode cX10_home 11 = .ok (.getfield 80, 3) := by decide +kernel
theorem dX10_home_14 : decode cX10_home 14 = .ok (.iconst 1, 1) := by decide +kernel
theorem dX10_home_15 : decode cX10_home 15 = .ok (.iload_n 1, 1) := by decide +kernel
theorem dX10_home_16 : decode cX10_home 16 = .ok (.ishl, 1) := by decide +kernel
theorem dX10_home_17 : decode cX10_home 17 = .ok (.iconst (-1), 1) := by decide +kernel
theorem dX10_home_18 : decode cX10_home 18 = .ok (.ixor, 1) := by decide +kernel
theorem dX10_home_19 : decode cX10_home 19 = .ok (.iand, 1) := by decide +kernel
theorem dX10_home_20 : decode cX10_home 20 = .ok (.putfield 80, 3) := by decide +kernel
theorem dX10_home_23 : decode cX10_home 23 = .ok (.aload_n 0, 1) := by decide +kernel
theorem dX10_home_24 : decode cX10_home 24 = .ok (.dup, 1) := by decide +kernel
theorem dX10_home_25 : decode cX10_home 25 = .ok (.getfield 80, 3) := by decide +kernel
theorem dX10_home_28 : decode cX10_home 28 = .ok (.iload_n 2, 1) := by decide +kernel
theorem dX10_home_29 : decode cX10_home 29 = .ok (.ifCond .eq 9, 3) := by decide +kernel
theorem dX10_home_32 : decode cX10_home 32 = .ok (.iconst 1, 1) := by decide +kernel
theorem dX10_home_33 : decode cX10_home 33 = .ok (.iload_n 1, 1) := by decide +kernel
theorem dX10_home_34 : decode cX10_home 34 = .ok (.ishl, 1) := by decide +kernel
theorem dX10_home_35 : decode cX10_home 35 = .ok (.goto 4, 3) := by decide +kernel
theorem dX10_home_38 : decode cX10_home 38 = .ok (.iconst 0, 1) := by decide +kernel
theorem dX10_home_39 : decode cX10_home 39 = .ok (.ior, 1) := by decide +kernel
theorem dX10_home_40 : decode cX10_home 40 = .ok (.putfield 80, 3) := by decide +kernel
theorem dX10_home_43 : decode cX10_home 43 = .ok (.aload_n 0, 1) := by decide +kernel
theorem dX10_home_44 : decode cX10_home 44 = .ok (.getfield 80, 3) := by decide +kernel
theorem dX10_home_47 : decode cX10_home 47 = .ok (.ireturn, 1) := by decide +kernel
set_option maxRecDepth 20000 in
theorem ggX10_one_X10_isNumber : GoodIn wsX10_one wsX10_isNumber := goodIn_r _ [6, 7, 8, 5, 9] (by decide +kernel) (by decide +kernel)
set_option maxRecDepth 20000 in
theorem gX10_one_X10_isNumber : GoodIn wsX10_one (va_wsS RX10 61 yX10_isNumber wsX10_isNumber) := goodIn_app (goodIn_of _ (by decide +kernel)) ggX10_one_X10_isNumber
set_option maxRecDepth 20000 in
theorem ggX10_one_X10_isPlace : GoodIn wsX10_one wsX10_isPlace := goodIn_r _ [12, 7, 8, 5, 9] (by decide +kernel) (by decide +kernel)
set_option maxRecDepth 20000 in
theorem gX10_one_X10_isPlace : GoodIn wsX10_one (va_wsS RX10 73 yX10_isPlace wsX10_isPlace) := goodIn_app (goodIn_of _ (by decide +kernel)) ggX10_one_X10_isPlace
set_option maxRecDepth 20000 in
theorem ggX10_one_X10_in : GoodIn wsX10_one wsX10_in := goodIn_r _ [9] (by decide +kernel) (by decide +kernel)
set_option maxRecDepth 20000 in
theorem gX10_one_X10_in : GoodIn wsX10_one (va_wsS RX10 57 yX10_in wsX10_in) := goodIn_app (goodIn_of _ (by decide +kernel)) ggX10_one_X10_in
set_option maxRecDepth 20000 in
theorem ggX10_one_X10_bits : GoodIn wsX10_one wsX10_bits := goodIn_r _ [15] (by decide +kernel) (by decide +kernel)
set_option maxRecDepth 20000 in
theorem gX10_one_X10_bits : GoodIn wsX10_one (va_wsS RX10 76 yX10_bits wsX10_bits) := goodIn_app (goodIn_of _ (by decide +kernel)) ggX10_one_X10_bits
theorem dX10_one_0 : decode cX10_one 0 = .ok (.iload_n 1, 1) := by decide +kernel
theorem dX10_one_1 : decode cX10_one 1 = .ok (.invokestatic 61, 3) := by decide +kernel
theorem dX10_one_4 : decode cX10_one 4 = .ok (.ifCond .ne 5, 3) := by decide +kernel
theorem dX10_one_7 : decode cX10_one 7 = .ok (.iconst (-1), 1) := by decide +kernel
theorem dX10_one_8 : decode cX10_one 8 = .ok (.ireturn, 1) := by decide +kernel
theorem dX10_one_9 : decode cX10_one 9 = .ok (.iload_n 2, 1) := by decide +kernel
theorem dX10_one_10 : decode cX10_one 10 = .ok (.invokestatic 73, 3) := by decide +kernel
theorem dX10_one_13 : decode cX10_one 13 = .ok (.ifCond .eq 13, 3) := by decide +kernel
theorem dX10_one_16 : decode cX10_one 16 = .ok (.iload_n 3, 1) := by decide +kernel
theorem dX10_one_17 : decode cX10_one 17 = .ok (.iconst 0, 1) := by decide +kernel
theorem dX10_one_18 : decode cX10_one 18 = .ok (.bipush 9, 2) := by decide +kernel
theorem dX10_one_20 : decode cX10_one 20 = .ok (.invokestatic 57, 3) := by decide +kernel
theorem dX10_one_23 : decode cX10_one 23 = .ok (.ifCond .ne 6, 3) := by decide +kernel
theorem dX10_one_26 : decode cX10_one 26 = .ok (.bipush (-2), 2) := by decide +kernel
theorem dX10_one_28 : decode cX10_one 28 = .ok (.ireturn, 1) := by decide +kernel
theorem dX10_one_29 : decode cX10_one 29 = .ok (.aload_n 0, 1) := by decide +kernel
theorem dX10_one_30 : decode cX10_one 30 = .ok (.dup, 1) := by decide +kernel
theorem dX10_one_31 : decode cX10_one 31 = .ok (.getfield 65, 3) := by decide +kernel
theorem dX10_one_34 : decode cX10_one 34 = .ok (.iconst 1, 1) := by decide +kernel
theorem dX10_one_35 : decode cX10_one 35 = .ok (.iload_n 1, 1) := by decide +kernel
theorem dX10_one_36 : decode cX10_one 36 = .ok (.ishl, 1) := by decide +kernel
theorem dX10_one_37 : decode cX10_one 37 = .ok (.ior, 1) := by decide +kernel
theorem dX10_one_38 : decode cX10_one 38 = .ok (.putfield 65, 3) := by decide +kernel
theorem dX10_one_41 : decode cX10_one 41 = .ok (.aload_n 0, 1) := by decide +kernel
theorem dX10_one_42 : decode cX10_one 42 = .ok (.getfield 13, 3) := by decide +kernel
theorem dX10_one_45 : decode cX10_one 45 = .ok (.iload_n 1, 1) := by decide +kernel
theorem dX10_one_46 : decode cX10_one 46 = .ok (.iload_n 2, 1) := by decide +kernel
theorem dX10_one_47 : decode cX10_one 47 = .ok (.iastore, 1) := by decide +kernel
theorem dX10_one_48 : decode cX10_one 48 = .ok (.aload_n 0, 1) := by decide +kernel
theorem dX10_one_49 : decode cX10_one 49 = .ok (.getfield 13, 3) := by decide +kernel
theorem dX10_one_52 : decode cX10_one 52 = .ok (.bipush 7, 2) := by decide +kernel
theorem dX10_one_54 : decode cX10_one 54 = .ok (.iload_n 1, 1) := by decide +kernel
theorem dX10_one_55 : decode cX10_one 55 = .ok (.iadd, 1) := by decide +kernel
theorem dX10_one_56 : decode cX10_one 56 = .ok (.iload_n 3, 1) := by decide +kernel
theorem dX10_one_57 : decode cX10_one 57 = .ok (.iastore, 1) := by decide +kernel
theorem dX10_one_58 : decode cX10_one 58 = .ok (.aload_n 0, 1) := by decide +kernel
theorem dX10_one_59 : decode cX10_one 59 = .ok (.getfield 13, 3) := by decide +kernel
theorem dX10_one_62 : decode cX10_one 62 = .ok (.bipush 14, 2) := by decide +kernel
theorem dX10_one_64 : decode cX10_one 64 = .ok (.iload_n 1, 1) := by decide +kernel
theorem dX10_one_65 : decode cX10_one 65 = .ok (.iadd, 1) := by decide +kernel
theorem dX10_one_66 : decode cX10_one 66 = .ok (.iconst 0, 1) := by decide +kernel
theorem dX10_one_67 : decode cX10_one 67 = .ok (.iastore, 1) := by decide +kernel
theorem dX10_one_68 : decode cX10_one 68 = .ok (.aload_n 0, 1) := by decide +kernel
theorem dX10_one_69 : decode cX10_one 69 = .ok (.getfield 13, 3) := by decide +kernel
theorem dX10_one_72 : decode cX10_one 72 = .ok (.bipush 21, 2) := by decide +kernel
theorem dX10_one_74 : decode cX10_one 74 = .ok (.dup2, 1) := by decide +kernel
theorem dX10_one_75 : decode cX10_one 75 = .ok (.iaload, 1) := by decide +kernel
theorem dX10_one_76 : decode cX10_one 76 = .ok (.iconst 1, 1) := by decide +kernel
theorem dX10_one_77 : decode cX10_one 77 = .ok (.iload_n 1, 1) := by decide +kernel
theorem dX10_one_78 : decode cX10_one 78 = .ok (.ishl, 1) := by decide +kernel
theorem dX10_one_79 : decode cX10_one 79 = .ok (.iconst (-1), 1) := by decide +kernel
theorem dX10_one_80 : decode cX10_one 80 = .ok (.ixor, 1) := by decide +kernel
theorem dX10_one_81 : decode cX10_one 81 = .ok (.iand, 1) := by decide +kernel
theorem dX10_one_82 : decode cX10_one 82 = .ok (.iastore, 1) := by decide +kernel
theorem dX10_one_83 : decode cX10_one 83 = .ok (.aload_n 0, 1) := by decide +kernel
theorem dX10_one_84 : decode cX10_one 84 = .ok (.getfield 65, 3) := by decide +kernel
theorem dX10_one_87 : decode cX10_one 87 = .ok (.invokestatic 76, 3) := by decide +kernel
theorem dX10_one_90 : decode cX10_one 90 = .ok (.ireturn, 1) := by decide +kernel
set_option maxRecDepth 20000 in
theorem ggX10_leave_X10_isThere : GoodIn wsX10_leave wsX10_isThere := goodIn_r _ [7, 1, 8, 9, 6, 10, 11, 12, 13, 14, 15, 16, 20, 21, 22, 23, 24, 25, 26, 27, 28, 29, 30, 31, 32, 33, 34, 35, 36, 37, 38, 39, 40, 41, 42, 43] (by decide +kernel) (by decide +kernel)
set_option maxRecDepth 20000 in
theorem gX10_leave_X10_isThere : GoodIn wsX10_leave (wsV RX10 83 RX10 yX10_isThere wsX10_isThere) := goodIn_app (goodIn_of _ (by decide +kernel)) ggX10_leave_X10_isThere
set_option maxRecDepth 20000 in
theorem ggX10_leave_X10_bits : GoodIn wsX10_leave wsX10_bits := goodIn_r _ [19] (by decide +kernel) (by decide +kernel)
set_option maxRecDepth 20000 in
theorem gX10_leave_X10_bits : GoodIn wsX10_leave (va_wsS RX10 76 yX10_bits wsX10_bits) := goodIn_app (goodIn_of _ (by decide +kernel)) ggX10_leave_X10_bits
theorem dX10_leave_0 : decode cX10_leave 0 = .ok (.aload_n 0, 1) := by decide +kernel
theorem dX10_leave_1 : decode cX10_leave 1 = .ok (.iload_n 1, 1) := by decide +kernel
theorem dX10_leave_2 : decode cX10_leave 2 = .ok (.invokevirtual 83, 3) := by decide +kernel
theorem dX10_leave_5 : decode cX10_leave 5 = .ok (.ifCond .ne 5, 3) := by decide +kernel
theorem dX10_leave_8 : decode cX10_leave 8 = .ok (.iconst (-1), 1) := by decide +kernel
theorem dX10_leave_9 : decode cX10_leave 9 = .ok (.ireturn, 1) := by decide +kernel
theorem dX10_leave_10 : decode cX10_leave 10 = .ok (.aload_n 0, 1) := by decide +kernel
theorem dX10_leave_11 : decode cX10_leave 11 = .ok (.dup, 1) := by decide +kernel
theorem dX10_leave_12 : decode cX10_leave 12 = .ok (.getfield 65, 3) := by decide +kernel
theorem dX10_leave_15 : decode cX10_leave 15 = .ok (.iconst 1, 1) := by decide +kernel
theorem dX10_leave_16 : decode cX10_leave 16 = .ok (.iload_n 1, 1) := by decide +kernel
theorem dX10_leave_17 : decode cX10_leave 17 = .ok (.ishl, 1) := by decide +kernel
theorem dX10_leave_18 : decode cX10_leave 18 = .ok (.iconst (-1), 1) := by decide +kernel
theorem dX10_leave_19 : decode cX10_leave 19 = .ok (.ixor, 1) := by decide +kernel
theorem dX10_leave_20 : decode cX10_leave 20 = .ok (.iand, 1) := by decide +kernel
theorem dX10_leave_21 : decode cX10_leave 21 = .ok (.putfield 65, 3) := by decide +kernel
theorem dX10_leave_24 : decode cX10_leave 24 = .ok (.aload_n 0, 1) := by decide +kernel
theorem dX10_leave_25 : decode cX10_leave 25 = .ok (.getfield 13, 3) := by decide +kernel
theorem dX10_leave_28 : decode cX10_leave 28 = .ok (.bipush 22, 2) := by decide +kernel
theorem dX10_leave_30 : decode cX10_leave 30 = .ok (.aload_n 0, 1) := by decide +kernel
theorem dX10_leave_31 : decode cX10_leave 31 = .ok (.getfield 13, 3) := by decide +kernel
theorem dX10_leave_34 : decode cX10_leave 34 = .ok (.bipush 22, 2) := by decide +kernel
theorem dX10_leave_36 : decode cX10_leave 36 = .ok (.iaload, 1) := by decide +kernel
theorem dX10_leave_37 : decode cX10_leave 37 = .ok (.iload_n 1, 1) := by decide +kernel
theorem dX10_leave_38 : decode cX10_leave 38 = .ok (.if_icmp .ne 8, 3) := by decide +kernel
theorem dX10_leave_41 : decode cX10_leave 41 = .ok (.bipush (-6), 2) := by decide +kernel
theorem dX10_leave_43 : decode cX10_leave 43 = .ok (.goto 10, 3) := by decide +kernel
theorem dX10_leave_46 : decode cX10_leave 46 = .ok (.aload_n 0, 1) := by decide +kernel
theorem dX10_leave_47 : decode cX10_leave 47 = .ok (.getfield 13, 3) := by decide +kernel
theorem dX10_leave_50 : decode cX10_leave 50 = .ok (.bipush 22, 2) := by decide +kernel
theorem dX10_leave_52 : decode cX10_leave 52 = .ok (.iaload, 1) := by decide +kernel
theorem dX10_leave_53 : decode cX10_leave 53 = .ok (.iastore, 1) := by decide +kernel
theorem dX10_leave_54 : decode cX10_leave 54 = .ok (.aload_n 0, 1) := by decide +kernel
theorem dX10_leave_55 : decode cX10_leave 55 = .ok (.getfield 13, 3) := by decide +kernel
theorem dX10_leave_58 : decode cX10_leave 58 = .ok (.bipush 23, 2) := by decide +kernel
theorem dX10_leave_60 : decode cX10_leave 60 = .ok (.aload_n 0, 1) := by decide +kernel
theorem dX10_leave_61 : decode cX10_leave 61 = .ok (.getfield 13, 3) := by decide +kernel
theorem dX10_leave_64 : decode cX10_leave 64 = .ok (.bipush 23, 2) := by decide +kernel
theorem dX10_leave_66 : decode cX10_leave 66 = .ok (.iaload, 1) := by decide +kernel
theorem dX10_leave_67 : decode cX10_leave 67 = .ok (.iload_n 1, 1) := by decide +kernel
theorem dX10_leave_68 : decode cX10_leave 68 = .ok (.if_icmp .ne 8, 3) := by decide +kernel
theorem dX10_leave_71 : decode cX10_leave 71 = .ok (.bipush (-6), 2) := by decide +kernel
theorem dX10_leave_73 : decode cX10_leave 73 = .ok (.goto 10, 3) := by decide +kernel
theorem dX10_leave_76 : decode cX10_leave 76 = .ok (.aload_n 0, 1) := by decide +kernel
theorem dX10_leave_77 : decode cX10_leave 77 = .ok (.getfield 13, 3) := by decide +kernel
theorem dX10_leave_80 : decode cX10_leave 80 = .ok (.bipush 23, 2) := by decide +kernel
theorem dX10_leave_82 : decode cX10_leave 82 = .ok (.iaload, 1) := by decide +kernel
theorem dX10_leave_83 : decode cX10_leave 83 = .ok (.iastore, 1) := by decide +kernel
theorem dX10_leave_84 : decode cX10_leave 84 = .ok (.aload_n 0, 1) := by decide +kernel
theorem dX10_leave_85 : decode cX10_leave 85 = .ok (.getfield 65, 3) := by decide +kernel
theorem dX10_leave_88 : decode cX10_leave 88 = .ok (.invokestatic 76, 3) := by decide +kernel
theorem dX10_leave_91 : decode cX10_leave 91 = .ok (.ireturn, 1) := by decide +kernel
set_option maxRecDepth 20000 in
theorem ggX10_crown_X10_isThere : GoodIn wsX10_crown wsX10_isThere := goodIn_r _ [6, 7, 8, 9, 5, 10, 11, 12, 13, 14, 15, 16, 17, 18, 19, 20, 21, 22, 23, 24, 25, 26, 27, 28, 29, 30, 31, 32, 33, 34, 35, 36, 37, 38, 39, 40] (by decide +kernel) (by decide +kernel)
set_option maxRecDepth 20000 in
theorem gX10_crown_X10_isThere : GoodIn wsX10_crown (wsV RX10 83 RX10 yX10_isThere wsX10_isThere) := goodIn_app (goodIn_of _ (by decide +kernel)) ggX10_crown_X10_isThere
theorem dX10_crown_0 : decode cX10_crown 0 = .ok (.iload_n 1, 1) := by decide +kernel
theorem dX10_crown_1 : decode cX10_crown 1 = .ok (.iconst (-1), 1) := by decide +kernel
theorem dX10_crown_2 : decode cX10_crown 2 = .ok (.if_icmp .eq 13, 3) := by decide +kernel
theorem dX10_crown_5 : decode cX10_crown 5 = .ok (.aload_n 0, 1) := by decide +kernel
theorem dX10_crown_6 : decode cX10_crown 6 = .ok (.iload_n 1, 1) := by decide +kernel
theorem dX10_crown_7 : decode cX10_crown 7 = .ok (.invokevirtual 83, 3) := by decide +kernel
theorem dX10_crown_10 : decode cX10_crown 10 = .ok (.ifCond .ne 5, 3) := by decide +kernel
theorem dX10_crown_13 : decode cX10_crown 13 = .ok (.iconst (-1), 1) := by decide +kernel
theorem dX10_crown_14 : decode cX10_crown 14 = .ok (.ireturn, 1) := by decide +kernel
theorem dX10_crown_15 : decode cX10_crown 15 = .ok (.aload_n 0, 1) := by decide +kernel
theorem dX10_crown_16 : decode cX10_crown 16 = .ok (.getfield 13, 3) := by decide +kernel
theorem dX10_crown_19 : decode cX10_crown 19 = .ok (.bipush 22, 2) := by decide +kernel
theorem dX10_crown_21 : decode cX10_crown 21 = .ok (.iaload, 1) := by decide +kernel
theorem dX10_crown_22 : decode cX10_crown 22 = .ok (.istore_n 2, 1) := by decide +kernel
theorem dX10_crown_23 : decode cX10_crown 23 = .ok (.aload_n 0, 1) := by decide +kernel
theorem dX10_crown_24 : decode cX10_crown 24 = .ok (.getfield 13, 3) := by decide +kernel
theorem dX10_crown_27 : decode cX10_crown 27 = .ok (.bipush 22, 2) := by decide +kernel
theorem dX10_crown_29 : decode cX10_crown 29 = .ok (.iload_n 1, 1) := by decide +kernel
theorem dX10_crown_30 : decode cX10_crown 30 = .ok (.ifCond .ge 8, 3) := by decide +kernel
theorem dX10_crown_33 : decode cX10_crown 33 = .ok (.bipush (-6), 2) := by decide +kernel
theorem dX10_crown_35 : decode cX10_crown 35 = .ok (.goto 4, 3) := by decide +kernel
theorem dX10_crown_38 : decode cX10_crown 38 = .ok (.iload_n 1, 1) := by decide +kernel
theorem dX10_crown_39 : decode cX10_crown 39 = .ok (.iastore, 1) := by decide +kernel
theorem dX10_crown_40 : decode cX10_crown 40 = .ok (.aload_n 0, 1) := by decide +kernel
theorem dX10_crown_41 : decode cX10_crown 41 = .ok (.getfield 13, 3) := by decide +kernel
theorem dX10_crown_44 : decode cX10_crown 44 = .ok (.bipush 23, 2) := by decide +kernel
theorem dX10_crown_46 : decode cX10_crown 46 = .ok (.bipush (-6), 2) := by decide +kernel
theorem dX10_crown_48 : decode cX10_crown 48 = .ok (.iastore, 1) := by decide +kernel
theorem dX10_crown_49 : decode cX10_crown 49 = .ok (.iload_n 2, 1) := by decide +kernel
theorem dX10_crown_50 : decode cX10_crown 50 = .ok (.ireturn, 1) := by decide +kernel
set_option maxRecDepth 20000 in
theorem ggX10_say_X10_in : GoodIn wsX10_say wsX10_in := goodIn_r _ [6] (by decide +kernel) (by decide +kernel)
set_option maxRecDepth 20000 in
theorem gX10_say_X10_in : GoodIn wsX10_say (va_wsS RX10 57 yX10_in wsX10_in) := goodIn_app (goodIn_of _ (by decide +kernel)) ggX10_say_X10_in
theorem dX10_say_0 : decode cX10_say 0 = .ok (.iload_n 1, 1) := by decide +kernel
theorem dX10_say_1 : decode cX10_say 1 = .ok (.bipush 33, 2) := by decide +kernel
theorem dX10_say_3 : decode cX10_say 3 = .ok (.bipush 126, 2) := by decide +kernel
theorem dX10_say_5 : decode cX10_say 5 = .ok (.invokestatic 57, 3) := by decide +kernel
theorem dX10_say_8 : decode cX10_say 8 = .ok (.ifCond .ne 6, 3) := by decide +kernel
theorem dX10_say_11 : decode cX10_say 11 = .ok (.bipush (-2), 2) := by decide +kernel
theorem dX10_say_13 : decode cX10_say 13 = .ok (.ireturn, 1) := by decide +kernel
theorem dX10_say_14 : decode cX10_say 14 = .ok (.aload_n 0, 1) := by decide +kernel
theorem dX10_say_15 : decode cX10_say 15 = .ok (.getfield 86, 3) := by decide +kernel
theorem dX10_say_18 : decode cX10_say 18 = .ok (.bipush 60, 2) := by decide +kernel
theorem dX10_say_20 : decode cX10_say 20 = .ok (.if_icmp .ne 6, 3) := by decide +kernel
theorem dX10_say_23 : decode cX10_say 23 = .ok (.bipush (-4), 2) := by decide +kernel
theorem dX10_say_25 : decode cX10_say 25 = .ok (.ireturn, 1) := by decide +kernel
theorem dX10_say_26 : decode cX10_say 26 = .ok (.aload_n 0, 1) := by decide +kernel
theorem dX10_say_27 : decode cX10_say 27 = .ok (.getfield 25, 3) := by decide +kernel
theorem dX10_say_30 : decode cX10_say 30 = .ok (.aload_n 0, 1) := by decide +kernel
theorem dX10_say_31 : decode cX10_say 31 = .ok (.getfield 86, 3) := by decide +kernel
theorem dX10_say_34 : decode cX10_say 34 = .ok (.iload_n 1, 1) := by decide +kernel
theorem dX10_say_35 : decode cX10_say 35 = .ok (.iastore, 1) := by decide +kernel
theorem dX10_say_36 : decode cX10_say 36 = .ok (.aload_n 0, 1) := by decide +kernel
theorem dX10_say_37 : decode cX10_say 37 = .ok (.dup, 1) := by decide +kernel
theorem dX10_say_38 : decode cX10_say 38 = .ok (.getfield 86, 3) := by decide +kernel
theorem dX10_say_41 : decode cX10_say 41 = .ok (.iconst 1, 1) := by decide +kernel
theorem dX10_say_42 : decode cX10_say 42 = .ok (.iadd, 1) := by decide +kernel
theorem dX10_say_43 : decode cX10_say 43 = .ok (.putfield 86, 3) := by decide +kernel
theorem dX10_say_46 : decode cX10_say 46 = .ok (.aload_n 0, 1) := by decide +kernel
theorem dX10_say_47 : decode cX10_say 47 = .ok (.getfield 86, 3) := by decide +kernel
theorem dX10_say_50 : decode cX10_say 50 = .ok (.ireturn, 1) := by decide +kernel
theorem dX10_wipe_0 : decode cX10_wipe 0 = .ok (.aload_n 0, 1) := by decide +kernel
theorem dX10_wipe_1 : decode cX10_wipe 1 = .ok (.getfield 86, 3) := by decide +kernel
theorem dX10_wipe_4 : decode cX10_wipe 4 = .ok (.istore_n 1, 1) := by decide +kernel
theorem dX10_wipe_5 : decode cX10_wipe 5 = .ok (.aload_n 0, 1) := by decide +kernel
theorem dX10_wipe_6 : decode cX10_wipe 6 = .ok (.iconst 0, 1) := by decide +kernel
theorem dX10_wipe_7 : decode cX10_wipe 7 = .ok (.putfield 86, 3) := by decide +kernel
theorem dX10_wipe_10 : decode cX10_wipe 10 = .ok (.iload_n 1, 1) := by decide +kernel
theorem dX10_wipe_11 : decode cX10_wipe 11 = .ok (.ireturn, 1) := by decide +kernel
set_option maxRecDepth 20000 in
theorem ggX10_isLetter_X10_in : GoodIn wsX10_isLetter wsX10_in := goodIn_r _ [4] (by decide +kernel) (by decide +kernel)
set_option maxRecDepth 20000 in
theorem gX10_isLetter_X10_in : GoodIn wsX10_isLetter (va_wsS RX10 57 yX10_in wsX10_in) := goodIn_app (goodIn_of _ (by decide +kernel)) ggX10_isLetter_X10_in
theorem dX10_isLetter_0 : decode cX10_isLetter 0 = .ok (.iload_n 0, 1) := by decide +kernel
theorem dX10_isLetter_1 : decode cX10_isLetter 1 = .ok (.bipush 65, 2) := by decide +kernel
theorem dX10_isLetter_3 : decode cX10_isLetter 3 = .ok (.bipush 71, 2) := by decide +kernel
theorem dX10_isLetter_5 : decode cX10_isLetter 5 = .ok (.invokestatic 57, 3) := by decide +kernel
theorem dX10_isLetter_8 : decode cX10_isLetter 8 = .ok (.ireturn, 1) := by decide +kernel
set_option maxRecDepth 20000 in
theorem ggX10_faultOf_X10_isLetter : GoodIn wsX10_faultOf wsX10_isLetter := goodIn_r _ [6, 7, 8, 5, 9] (by decide +kernel) (by decide +kernel)
set_option maxRecDepth 20000 in
theorem gX10_faultOf_X10_isLetter : GoodIn wsX10_faultOf (va_wsS RX10 89 yX10_isLetter wsX10_isLetter) := goodIn_app (goodIn_of _ (by decide +kernel)) ggX10_faultOf_X10_isLetter
set_option maxRecDepth 20000 in
theorem ggX10_faultOf_X10_in : GoodIn wsX10_faultOf wsX10_in := goodIn_r _ [9] (by decide +kernel) (by decide +kernel)
set_option maxRecDepth 20000 in
theorem gX10_faultOf_X10_in : GoodIn wsX10_faultOf (va_wsS RX10 57 yX10_in wsX10_in) := goodIn_app (goodIn_of _ (by decide +kernel)) ggX10_faultOf_X10_in
theorem dX10_faultOf_0 : decode cX10_faultOf 0 = .ok (.iconst 0, 1) := by decide +kernel
theorem dX10_faultOf_1 : decode cX10_faultOf 1 = .ok (.istore_n 1, 1) := by decide +kernel
theorem dX10_faultOf_2 : decode cX10_faultOf 2 = .ok (.iconst 0, 1) := by decide +kernel
theorem dX10_faultOf_3 : decode cX10_faultOf 3 = .ok (.istore_n 2, 1) := by decide +kernel
theorem dX10_faultOf_4 : decode cX10_faultOf 4 = .ok (.iload_n 2, 1) := by decide +kernel
theorem dX10_faultOf_5 : decode cX10_faultOf 5 = .ok (.aload_n 0, 1) := by decide +kernel
theorem dX10_faultOf_6 : decode cX10_faultOf 6 = .ok (.getfield 86, 3) := by decide +kernel
theorem dX10_faultOf_9 : decode cX10_faultOf 9 = .ok (.if_icmp .ge 131, 3) := by decide +kernel
theorem dX10_faultOf_12 : decode cX10_faultOf 12 = .ok (.aload_n 0, 1) := by decide +kernel
theorem dX10_faultOf_13 : decode cX10_faultOf 13 = .ok (.getfield 25, 3) := by decide +kernel
theorem dX10_faultOf_16 : decode cX10_faultOf 16 = .ok (.iload_n 2, 1) := by decide +kernel
theorem dX10_faultOf_17 : decode cX10_faultOf 17 = .ok (.iaload, 1) := by decide +kernel
theorem dX10_faultOf_18 : decode cX10_faultOf 18 = .ok (.istore_n 3, 1) := by decide +kernel
theorem dX10_faultOf_19 : decode cX10_faultOf 19 = .ok (.iload_n 1, 1) := by decide +kernel
theorem dX10_faultOf_20 : decode cX10_faultOf 20 = .ok (.ifCond .ne 24, 3) := by decide +kernel
theorem dX10_faultOf_23 : decode cX10_faultOf 23 = .ok (.iload_n 3, 1) := by decide +kernel
theorem dX10_faultOf_24 : decode cX10_faultOf 24 = .ok (.invokestatic 89, 3) := by decide +kernel
theorem dX10_faultOf_27 : decode cX10_faultOf 27 = .ok (.ifCond .ne 9, 3) := by decide +kernel
theorem dX10_faultOf_30 : decode cX10_faultOf 30 = .ok (.iload_n 3, 1) := by decide +kernel
theorem dX10_faultOf_31 : decode cX10_faultOf 31 = .ok (.bipush 46, 2) := by decide +kernel
theorem dX10_faultOf_33 : decode cX10_faultOf 33 = .ok (.if_icmp .ne 7, 3) := by decide +kernel
theorem dX10_faultOf_36 : decode cX10_faultOf 36 = .ok (.iconst 1, 1) := by decide +kernel
theorem dX10_faultOf_37 : decode cX10_faultOf 37 = .ok (.goto 53, 3) := by decide +kernel
theorem dX10_faultOf_40 : decode cX10_faultOf 40 = .ok (.iconst 0, 1) := by decide +kernel
theorem dX10_faultOf_41 : decode cX10_faultOf 41 = .ok (.goto 49, 3) := by decide +kernel
theorem dX10_faultOf_44 : decode cX10_faultOf 44 = .ok (.iload_n 1, 1) := by decide +kernel
theorem dX10_faultOf_45 : decode cX10_faultOf 45 = .ok (.iconst 2, 1) := by decide +kernel
theorem dX10_faultOf_46 : decode cX10_faultOf 46 = .ok (.if_icmp .ne 10, 3) := by decide +kernel
theorem dX10_faultOf_49 : decode cX10_faultOf 49 = .ok (.iload_n 3, 1) := by decide +kernel
theorem dX10_faultOf_50 : decode cX10_faultOf 50 = .ok (.invokestatic 89, 3) := by decide +kernel
theorem dX10_faultOf_53 : decode cX10_faultOf 53 = .ok (.goto 37, 3) := by decide +kernel
theorem dX10_faultOf_56 : decode cX10_faultOf 56 = .ok (.iload_n 3, 1) := by decide +kernel
theorem dX10_faultOf_57 : decode cX10_faultOf 57 = .ok (.bipush 97, 2) := by decide +kernel
theorem dX10_faultOf_59 : decode cX10_faultOf 59 = .ok (.bipush 108, 2) := by decide +kernel
theorem dX10_faultOf_61 : decode cX10_faultOf 61 = .ok (.invokestatic 57, 3) := by decide +kernel
theorem dX10_faultOf_64 : decode cX10_faultOf 64 = .ok (.ifCond .ne 21, 3) := by decide +kernel
theorem dX10_faultOf_67 : decode cX10_faultOf 67 = .ok (.iload_n 3, 1) := by decide +kernel
theorem dX10_faultOf_68 : decode cX10_faultOf 68 = .ok (.bipush 62, 2) := by decide +kernel
theorem dX10_faultOf_70 : decode cX10_faultOf 70 = .ok (.if_icmp .eq 15, 3) := by decide +kernel
theorem dX10_faultOf_73 : decode cX10_faultOf 73 = .ok (.iload_n 3, 1) := by decide +kernel
theorem dX10_faultOf_74 : decode cX10_faultOf 74 = .ok (.bipush 43, 2) := by decide +kernel
theorem dX10_faultOf_76 : decode cX10_faultOf 76 = .ok (.if_icmp .eq 9, 3) := by decide +kernel
theorem dX10_faultOf_79 : decode cX10_faultOf 79 = .ok (.iload_n 3, 1) := by decide +kernel
theorem dX10_faultOf_80 : decode cX10_faultOf 80 = .ok (.bipush 42, 2) := by decide +kernel
theorem dX10_faultOf_82 : decode cX10_faultOf 82 = .ok (.if_icmp .ne 7, 3) := by decide +kernel
theorem dX10_faultOf_85 : decode cX10_faultOf 85 = .ok (.iconst 1, 1) := by decide +kernel
theorem dX10_faultOf_86 : decode cX10_faultOf 86 = .ok (.goto 4, 3) := by decide +kernel
theorem dX10_faultOf_89 : decode cX10_faultOf 89 = .ok (.iconst 0, 1) := by decide +kernel
theorem dX10_faultOf_90 : decode cX10_faultOf 90 = .ok (.istore 4, 2) := by decide +kernel
theorem dX10_faultOf_92 : decode cX10_faultOf 92 = .ok (.iload 4, 2) := by decide +kernel
theorem dX10_faultOf_94 : decode cX10_faultOf 94 = .ok (.ifCond .ne 5, 3) := by decide +kernel
theorem dX10_faultOf_97 : decode cX10_faultOf 97 = .ok (.iload_n 2, 1) := by decide +kernel
theorem dX10_faultOf_98 : decode cX10_faultOf 98 = .ok (.ireturn, 1) := by decide +kernel
theorem dX10_faultOf_99 : decode cX10_faultOf 99 = .ok (.iload_n 1, 1) := by decide +kernel
theorem dX10_faultOf_100 : decode cX10_faultOf 100 = .ok (.ifCond .ne 17, 3) := by decide +kernel
theorem dX10_faultOf_103 : decode cX10_faultOf 103 = .ok (.iload_n 3, 1) := by decide +kernel
theorem dX10_faultOf_104 : decode cX10_faultOf 104 = .ok (.bipush 46, 2) := by decide +kernel
theorem dX10_faultOf_106 : decode cX10_faultOf 106 = .ok (.if_icmp .ne 7, 3) := by decide +kernel
theorem dX10_faultOf_109 : decode cX10_faultOf 109 = .ok (.iconst 0, 1) := by decide +kernel
theorem dX10_faultOf_110 : decode cX10_faultOf 110 = .ok (.goto 23, 3) := by decide +kernel
theorem dX10_faultOf_113 : decode cX10_faultOf 113 = .ok (.iconst 1, 1) := by decide +kernel
theorem dX10_faultOf_114 : decode cX10_faultOf 114 = .ok (.goto 19, 3) := by decide +kernel
theorem dX10_faultOf_117 : decode cX10_faultOf 117 = .ok (.iload_n 1, 1) := by decide +kernel
theorem dX10_faultOf_118 : decode cX10_faultOf 118 = .ok (.iconst 1, 1) := by decide +kernel
theorem dX10_faultOf_119 : decode cX10_faultOf 119 = .ok (.if_icmp .ne 13, 3) := by decide +kernel
theorem dX10_faultOf_122 : decode cX10_faultOf 122 = .ok (.iload_n 3, 1) := by decide +kernel
theorem dX10_faultOf_123 : decode cX10_faultOf 123 = .ok (.bipush 62, 2) := by decide +kernel
theorem dX10_faultOf_125 : decode cX10_faultOf 125 = .ok (.if_icmp .ne 7, 3) := by decide +kernel
theorem dX10_faultOf_128 : decode cX10_faultOf 128 = .ok (.iconst 2, 1) := by decide +kernel
theorem dX10_faultOf_129 : decode cX10_faultOf 129 = .ok (.goto 4, 3) := by decide +kernel
theorem dX10_faultOf_132 : decode cX10_faultOf 132 = .ok (.iconst 0, 1) := by decide +kernel
theorem dX10_faultOf_133 : decode cX10_faultOf 133 = .ok (.istore_n 1, 1) := by decide +kernel
theorem dX10_faultOf_134 : decode cX10_faultOf 134 = .ok (.iinc 2 1, 3) := by decide +kernel
theorem dX10_faultOf_137 : decode cX10_faultOf 137 = .ok (.goto (-133), 3) := by decide +kernel
theorem dX10_faultOf_140 : decode cX10_faultOf 140 = .ok (.iload_n 1, 1) := by decide +kernel
theorem dX10_faultOf_141 : decode cX10_faultOf 141 = .ok (.ifCond .ne 8, 3) := by decide +kernel
theorem dX10_faultOf_144 : decode cX10_faultOf 144 = .ok (.bipush (-6), 2) := by decide +kernel
theorem dX10_faultOf_146 : decode cX10_faultOf 146 = .ok (.goto 7, 3) := by decide +kernel
theorem dX10_faultOf_149 : decode cX10_faultOf 149 = .ok (.aload_n 0, 1) := by decide +kernel
theorem dX10_faultOf_150 : decode cX10_faultOf 150 = .ok (.getfield 86, 3) := by decide +kernel
theorem dX10_faultOf_153 : decode cX10_faultOf 153 = .ok (.ireturn, 1) := by decide +kernel
set_option maxRecDepth 20000 in
theorem ggX10_fault_X10_faultOf : GoodIn wsX10_fault wsX10_faultOf := goodIn_r _ [5, 6, 7, 8, 9, 4, 10, 11, 12, 13, 14, 15, 16, 17, 18, 19, 20, 21, 22, 23, 24, 25, 26, 27, 28, 29, 30, 31, 32, 33, 34, 35, 36, 37] (by decide +kernel) (by decide +kernel)
set_option maxRecDepth 20000 in
theorem gX10_fault_X10_faultOf : GoodIn wsX10_fault (wsV RX10 92 RX10 yX10_faultOf wsX10_faultOf) := goodIn_app (goodIn_of _ (by decide +kernel)) ggX10_fault_X10_faultOf
theorem dX10_fault_0 : decode cX10_fault 0 = .ok (.aload_n 0, 1) := by decide +kernel
theorem dX10_fault_1 : decode cX10_fault 1 = .ok (.invokevirtual 92, 3) := by decide +kernel
theorem dX10_fault_4 : decode cX10_fault 4 = .ok (.ireturn, 1) := by decide +kernel
theorem dX10_asNow_0 : decode cX10_asNow 0 = .ok (.iconst 0, 1) := by decide +kernel
theorem dX10_asNow_1 : decode cX10_asNow 1 = .ok (.istore_n 1, 1) := by decide +kernel
theorem dX10_asNow_2 : decode cX10_asNow 2 = .ok (.iload_n 1, 1) := by decide +kernel
theorem dX10_asNow_3 : decode cX10_asNow 3 = .ok (.bipush 25, 2) := by decide +kernel
theorem dX10_asNow_5 : decode cX10_asNow 5 = .ok (.if_icmp .ge 21, 3) := by decide +kernel
theorem dX10_asNow_8 : decode cX10_asNow 8 = .ok (.aload_n 0, 1) := by decide +kernel
theorem dX10_asNow_9 : decode cX10_asNow 9 = .ok (.getfield 16, 3) := by decide +kernel
theorem dX10_asNow_12 : decode cX10_asNow 12 = .ok (.iload_n 1, 1) := by decide +kernel
theorem dX10_asNow_13 : decode cX10_asNow 13 = .ok (.aload_n 0, 1) := by decide +kernel
theorem dX10_asNow_14 : decode cX10_asNow 14 = .ok (.getfield 13, 3) := by decide +kernel
theorem dX10_asNow_17 : decode cX10_asNow 17 = .ok (.iload_n 1, 1) := by decide +kernel
theorem dX10_asNow_18 : decode cX10_asNow 18 = .ok (.iaload, 1) := by decide +kernel
theorem dX10_asNow_19 : decode cX10_asNow 19 = .ok (.iastore, 1) := by decide +kernel
theorem dX10_asNow_20 : decode cX10_asNow 20 = .ok (.iinc 1 1, 3) := by decide +kernel
theorem dX10_asNow_23 : decode cX10_asNow 23 = .ok (.goto (-21), 3) := by decide +kernel
theorem dX10_asNow_26 : decode cX10_asNow 26 = .ok (.aload_n 0, 1) := by decide +kernel
theorem dX10_asNow_27 : decode cX10_asNow 27 = .ok (.iconst 0, 1) := by decide +kernel
theorem dX10_asNow_28 : decode cX10_asNow 28 = .ok (.putfield 96, 3) := by decide +kernel
theorem dX10_asNow_31 : decode cX10_asNow 31 = .ok (.aload_n 0, 1) := by decide +kernel
theorem dX10_asNow_32 : decode cX10_asNow 32 = .ok (.bipush (-6), 2) := by decide +kernel
theorem dX10_asNow_34 : decode cX10_asNow 34 = .ok (.putfield 99, 3) := by decide +kernel
theorem dX10_asNow_37 : decode cX10_asNow 37 = .ok (.return_, 1) := by decide +kernel
set_option maxRecDepth 20000 in
theorem ggX10_run_X10_isThere : GoodIn wsX10_run wsX10_isThere := goodIn_r _ [7, 8, 9, 10, 6, 11, 12, 13, 14, 15, 16, 17, 18, 19, 20, 21, 22, 23, 24, 25, 26, 27, 28, 29, 30, 31, 32, 33, 34, 35, 36, 37, 38, 39, 40, 41] (by decide +kernel) (by decide +kernel)
set_option maxRecDepth 20000 in
theorem gX10_run_X10_isThere : GoodIn wsX10_run (wsV RX10 83 RX10 yX10_isThere wsX10_isThere) := goodIn_app (goodIn_of _ (by decide +kernel)) ggX10_run_X10_isThere
set_option maxRecDepth 20000 in
theorem ggX10_run_X10_has : GoodIn wsX10_run wsX10_has := goodIn_r _ [17] (by decide +kernel) (by decide +kernel)
set_option maxRecDepth 20000 in
theorem gX10_run_X10_has : GoodIn wsX10_run (va_wsS RX10 69 yX10_has wsX10_has) := goodIn_app (goodIn_of _ (by decide +kernel)) ggX10_run_X10_has
theorem dX10_run_0 : decode cX10_run 0 = .ok (.aload_n 0, 1) := by decide +kernel
theorem dX10_run_1 : decode cX10_run 1 = .ok (.iload_n 1, 1) := by decide +kernel
theorem dX10_run_2 : decode cX10_run 2 = .ok (.invokevirtual 83, 3) := by decide +kernel
theorem dX10_run_5 : decode cX10_run 5 = .ok (.ifCond .ne 5, 3) := by decide +kernel
theorem dX10_run_8 : decode cX10_run 8 = .ok (.iconst 1, 1) := by decide +kernel
theorem dX10_run_9 : decode cX10_run 9 = .ok (.ireturn, 1) := by decide +kernel
theorem dX10_run_10 : decode cX10_run 10 = .ok (.aload_n 0, 1) := by decide +kernel
theorem dX10_run_11 : decode cX10_run 11 = .ok (.getfield 7, 3) := by decide +kernel
theorem dX10_run_14 : decode cX10_run 14 = .ok (.aload_n 0, 1) := by decide +kernel
theorem dX10_run_15 : decode cX10_run 15 = .ok (.getfield 16, 3) := by decide +kernel
theorem dX10_run_18 : decode cX10_run 18 = .ok (.iload_n 1, 1) := by decide +kernel
theorem dX10_run_19 : decode cX10_run 19 = .ok (.iaload, 1) := by decide +kernel
theorem dX10_run_20 : decode cX10_run 20 = .ok (.iaload, 1) := by decide +kernel
theorem dX10_run_21 : decode cX10_run 21 = .ok (.iload_n 2, 1) := by decide +kernel
theorem dX10_run_22 : decode cX10_run 22 = .ok (.invokestatic 69, 3) := by decide +kernel
theorem dX10_run_25 : decode cX10_run 25 = .ok (.ifCond .ne 5, 3) := by decide +kernel
theorem dX10_run_28 : decode cX10_run 28 = .ok (.iconst 2, 1) := by decide +kernel
theorem dX10_run_29 : decode cX10_run 29 = .ok (.ireturn, 1) := by decide +kernel
theorem dX10_run_30 : decode cX10_run 30 = .ok (.aload_n 0, 1) := by decide +kernel
theorem dX10_run_31 : decode cX10_run 31 = .ok (.getfield 16, 3) := by decide +kernel
theorem dX10_run_34 : decode cX10_run 34 = .ok (.bipush 7, 2) := by decide +kernel
theorem dX10_run_36 : decode cX10_run 36 = .ok (.iload_n 1, 1) := by decide +kernel
theorem dX10_run_37 : decode cX10_run 37 = .ok (.iadd, 1) := by decide +kernel
theorem dX10_run_38 : decode cX10_run 38 = .ok (.iaload, 1) := by decide +kernel
theorem dX10_run_39 : decode cX10_run 39 = .ok (.ifCond .ne 5, 3) := by decide +kernel
theorem dX10_run_42 : decode cX10_run 42 = .ok (.iconst 3, 1) := by decide +kernel
theorem dX10_run_43 : decode cX10_run 43 = .ok (.ireturn, 1) := by decide +kernel
theorem dX10_run_44 : decode cX10_run 44 = .ok (.aload_n 0, 1) := by decide +kernel
theorem dX10_run_45 : decode cX10_run 45 = .ok (.getfield 16, 3) := by decide +kernel
theorem dX10_run_48 : decode cX10_run 48 = .ok (.bipush 21, 2) := by decide +kernel
theorem dX10_run_50 : decode cX10_run 50 = .ok (.iaload, 1) := by decide +kernel
theorem dX10_run_51 : decode cX10_run 51 = .ok (.iload_n 1, 1) := by decide +kernel
theorem dX10_run_52 : decode cX10_run 52 = .ok (.invokestatic 69, 3) := by decide +kernel
theorem dX10_run_55 : decode cX10_run 55 = .ok (.ifCond .eq 5, 3) := by decide +kernel
theorem dX10_run_58 : decode cX10_run 58 = .ok (.iconst 4, 1) := by decide +kernel
theorem dX10_run_59 : decode cX10_run 59 = .ok (.ireturn, 1) := by decide +kernel
theorem dX10_run_60 : decode cX10_run 60 = .ok (.aload_n 0, 1) := by decide +kernel
theorem dX10_run_61 : decode cX10_run 61 = .ok (.getfield 16, 3) := by decide +kernel
theorem dX10_run_64 : decode cX10_run 64 = .ok (.iload_n 1, 1) := by decide +kernel
theorem dX10_run_65 : decode cX10_run 65 = .ok (.iload_n 2, 1) := by decide +kernel
theorem dX10_run_66 : decode cX10_run 66 = .ok (.iastore, 1) := by decide +kernel
theorem dX10_run_67 : decode cX10_run 67 = .ok (.aload_n 0, 1) := by decide +kernel
theorem dX10_run_68 : decode cX10_run 68 = .ok (.getfield 16, 3) := by decide +kernel
theorem dX10_run_71 : decode cX10_run 71 = .ok (.bipush 7, 2) := by decide +kernel
theorem dX10_run_73 : decode cX10_run 73 = .ok (.iload_n 1, 1) := by decide +kernel
theorem dX10_run_74 : decode cX10_run 74 = .ok (.iadd, 1) := by decide +kernel
theorem dX10_run_75 : decode cX10_run 75 = .ok (.dup2, 1) := by decide +kernel
theorem dX10_run_76 : decode cX10_run 76 = .ok (.iaload, 1) := by decide +kernel
theorem dX10_run_77 : decode cX10_run 77 = .ok (.iconst 1, 1) := by decide +kernel
theorem dX10_run_78 : decode cX10_run 78 = .ok (.isub, 1) := by decide +kernel
theorem dX10_run_79 : decode cX10_run 79 = .ok (.iastore, 1) := by decide +kernel
theorem dX10_run_80 : decode cX10_run 80 = .ok (.iconst 0, 1) := by decide +kernel
theorem dX10_run_81 : decode cX10_run 81 = .ok (.ireturn, 1) := by decide +kernel
set_option maxRecDepth 20000 in
theorem ggX10_touch_X10_isThere : GoodIn wsX10_touch wsX10_isThere := goodIn_r _ [8, 9, 10, 11, 7, 12, 13, 14, 15, 16, 17, 18, 19, 20, 21, 22, 23, 24, 25, 26, 27, 28, 29, 30, 31, 32, 33, 34, 35, 36, 37, 38, 39, 40, 41, 42] (by decide +kernel) (by decide +kernel)
set_option maxRecDepth 20000 in
theorem gX10_touch_X10_isThere : GoodIn wsX10_touch (wsV RX10 83 RX10 yX10_isThere wsX10_isThere) := goodIn_app (goodIn_of _ (by decide +kernel)) ggX10_touch_X10_isThere
set_option maxRecDepth 20000 in
theorem ggX10_touch_X10_has : GoodIn wsX10_touch wsX10_has := goodIn_r _ [18] (by decide +kernel) (by decide +kernel)
set_option maxRecDepth 20000 in
theorem gX10_touch_X10_has : GoodIn wsX10_touch (va_wsS RX10 69 yX10_has wsX10_has) := goodIn_app (goodIn_of _ (by decide +kernel)) ggX10_touch_X10_has
theorem dX10_touch_0 : decode cX10_touch 0 = .ok (.aload_n 0, 1) := by decide +kernel
theorem dX10_touch_1 : decode cX10_touch 1 = .ok (.iload_n 1, 1) := by decide +kernel
theorem dX10_touch_2 : decode cX10_touch 2 = .ok (.invokevirtual 83, 3) := by decide +kernel
theorem dX10_touch_5 : decode cX10_touch 5 = .ok (.ifCond .eq 11, 3) := by decide +kernel
theorem dX10_touch_8 : decode cX10_touch 8 = .ok (.aload_n 0, 1) := by decide +kernel
theorem dX10_touch_9 : decode cX10_touch 9 = .ok (.iload_n 2, 1) := by decide +kernel
theorem dX10_touch_10 : decode cX10_touch 10 = .ok (.invokevirtual 83, 3) := by decide +kernel
theorem dX10_touch_13 : decode cX10_touch 13 = .ok (.ifCond .ne 5, 3) := by decide +kernel
theorem dX10_touch_16 : decode cX10_touch 16 = .ok (.iconst 1, 1) := by decide +kernel
theorem dX10_touch_17 : decode cX10_touch 17 = .ok (.ireturn, 1) := by decide +kernel
theorem dX10_touch_18 : decode cX10_touch 18 = .ok (.iload_n 1, 1) := by decide +kernel
theorem dX10_touch_19 : decode cX10_touch 19 = .ok (.iload_n 2, 1) := by decide +kernel
theorem dX10_touch_20 : decode cX10_touch 20 = .ok (.if_icmp .ne 5, 3) := by decide +kernel
theorem dX10_touch_23 : decode cX10_touch 23 = .ok (.iconst 2, 1) := by decide +kernel
theorem dX10_touch_24 : decode cX10_touch 24 = .ok (.ireturn, 1) := by decide +kernel
theorem dX10_touch_25 : decode cX10_touch 25 = .ok (.aload_n 0, 1) := by decide +kernel
theorem dX10_touch_26 : decode cX10_touch 26 = .ok (.getfield 16, 3) := by decide +kernel
theorem dX10_touch_29 : decode cX10_touch 29 = .ok (.bipush 22, 2) := by decide +kernel
theorem dX10_touch_31 : decode cX10_touch 31 = .ok (.iaload, 1) := by decide +kernel
theorem dX10_touch_32 : decode cX10_touch 32 = .ok (.iload_n 1, 1) := by decide +kernel
theorem dX10_touch_33 : decode cX10_touch 33 = .ok (.if_icmp .eq 5, 3) := by decide +kernel
theorem dX10_touch_36 : decode cX10_touch 36 = .ok (.iconst 3, 1) := by decide +kernel
theorem dX10_touch_37 : decode cX10_touch 37 = .ok (.ireturn, 1) := by decide +kernel
theorem dX10_touch_38 : decode cX10_touch 38 = .ok (.aload_n 0, 1) := by decide +kernel
theorem dX10_touch_39 : decode cX10_touch 39 = .ok (.getfield 16, 3) := by decide +kernel
theorem dX10_touch_42 : decode cX10_touch 42 = .ok (.bipush 21, 2) := by decide +kernel
theorem dX10_touch_44 : decode cX10_touch 44 = .ok (.iaload, 1) := by decide +kernel
theorem dX10_touch_45 : decode cX10_touch 45 = .ok (.iload_n 1, 1) := by decide +kernel
theorem dX10_touch_46 : decode cX10_touch 46 = .ok (.invokestatic 69, 3) := by decide +kernel
theorem dX10_touch_49 : decode cX10_touch 49 = .ok (.ifCond .eq 5, 3) := by decide +kernel
theorem dX10_touch_52 : decode cX10_touch 52 = .ok (.iconst 4, 1) := by decide +kernel
theorem dX10_touch_53 : decode cX10_touch 53 = .ok (.ireturn, 1) := by decide +kernel
theorem dX10_touch_54 : decode cX10_touch 54 = .ok (.aload_n 0, 1) := by decide +kernel
theorem dX10_touch_55 : decode cX10_touch 55 = .ok (.getfield 16, 3) := by decide +kernel
theorem dX10_touch_58 : decode cX10_touch 58 = .ok (.iload_n 1, 1) := by decide +kernel
theorem dX10_touch_59 : decode cX10_touch 59 = .ok (.iaload, 1) := by decide +kernel
theorem dX10_touch_60 : decode cX10_touch 60 = .ok (.aload_n 0, 1) := by decide +kernel
theorem dX10_touch_61 : decode cX10_touch 61 = .ok (.getfield 16, 3) := by decide +kernel
theorem dX10_touch_64 : decode cX10_touch 64 = .ok (.iload_n 2, 1) := by decide +kernel
theorem dX10_touch_65 : decode cX10_touch 65 = .ok (.iaload, 1) := by decide +kernel
theorem dX10_touch_66 : decode cX10_touch 66 = .ok (.if_icmp .eq 5, 3) := by decide +kernel
theorem dX10_touch_69 : decode cX10_touch 69 = .ok (.iconst 5, 1) := by decide +kernel
theorem dX10_touch_70 : decode cX10_touch 70 = .ok (.ireturn, 1) := by decide +kernel
theorem dX10_touch_71 : decode cX10_touch 71 = .ok (.aload_n 0, 1) := by decide +kernel
theorem dX10_touch_72 : decode cX10_touch 72 = .ok (.getfield 16, 3) := by decide +kernel
theorem dX10_touch_75 : decode cX10_touch 75 = .ok (.bipush 21, 2) := by decide +kernel
theorem dX10_touch_77 : decode cX10_touch 77 = .ok (.iaload, 1) := by decide +kernel
theorem dX10_touch_78 : decode cX10_touch 78 = .ok (.iload_n 2, 1) := by decide +kernel
theorem dX10_touch_79 : decode cX10_touch 79 = .ok (.invokestatic 69, 3) := by decide +kernel
theorem dX10_touch_82 : decode cX10_touch 82 = .ok (.ifCond .eq 6, 3) := by decide +kernel
theorem dX10_touch_85 : decode cX10_touch 85 = .ok (.bipush 6, 2) := by decide +kernel
theorem dX10_touch_87 : decode cX10_touch 87 = .ok (.ireturn, 1) := by decide +kernel
theorem dX10_touch_88 : decode cX10_touch 88 = .ok (.aload_n 0, 1) := by decide +kernel
theorem dX10_touch_89 : decode cX10_touch 89 = .ok (.getfield 80, 3) := by decide +kernel
theorem dX10_touch_92 : decode cX10_touch 92 = .ok (.aload_n 0, 1) := by decide +kernel
theorem dX10_touch_93 : decode cX10_touch 93 = .ok (.getfield 16, 3) := by decide +kernel
theorem dX10_touch_96 : decode cX10_touch 96 = .ok (.iload_n 1, 1) := by decide +kernel
theorem dX10_touch_97 : decode cX10_touch 97 = .ok (.iaload, 1) := by decide +kernel
theorem dX10_touch_98 : decode cX10_touch 98 = .ok (.invokestatic 69, 3) := by decide +kernel
theorem dX10_touch_101 : decode cX10_touch 101 = .ok (.ifCond .eq 6, 3) := by decide +kernel
theorem dX10_touch_104 : decode cX10_touch 104 = .ok (.bipush 7, 2) := by decide +kernel
theorem dX10_touch_106 : decode cX10_touch 106 = .ok (.ireturn, 1) := by decide +kernel
theorem dX10_touch_107 : decode cX10_touch 107 = .ok (.aload_n 0, 1) := by decide +kernel
theorem dX10_touch_108 : decode cX10_touch 108 = .ok (.getfield 16, 3) := by decide +kernel
theorem dX10_touch_111 : decode cX10_touch 111 = .ok (.bipush 23, 2) := by decide +kernel
theorem dX10_touch_113 : decode cX10_touch 113 = .ok (.iaload, 1) := by decide +kernel
theorem dX10_touch_114 : decode cX10_touch 114 = .ok (.iload_n 2, 1) := by decide +kernel
theorem dX10_touch_115 : decode cX10_touch 115 = .ok (.if_icmp .ne 6, 3) := by decide +kernel
theorem dX10_touch_118 : decode cX10_touch 118 = .ok (.bipush 8, 2) := by decide +kernel
theorem dX10_touch_120 : decode cX10_touch 120 = .ok (.ireturn, 1) := by decide +kernel
theorem dX10_touch_121 : decode cX10_touch 121 = .ok (.aload_n 0, 1) := by decide +kernel
theorem dX10_touch_122 : decode cX10_touch 122 = .ok (.getfield 16, 3) := by decide +kernel
theorem dX10_touch_125 : decode cX10_touch 125 = .ok (.bipush 22, 2) := by decide +kernel
theorem dX10_touch_127 : decode cX10_touch 127 = .ok (.iload_n 2, 1) := by decide +kernel
theorem dX10_touch_128 : decode cX10_touch 128 = .ok (.iastore, 1) := by decide +kernel
theorem dX10_touch_129 : decode cX10_touch 129 = .ok (.aload_n 0, 1) := by decide +kernel
theorem dX10_touch_130 : decode cX10_touch 130 = .ok (.getfield 16, 3) := by decide +kernel
theorem dX10_touch_133 : decode cX10_touch 133 = .ok (.bipush 23, 2) := by decide +kernel
theorem dX10_touch_135 : decode cX10_touch 135 = .ok (.iload_n 1, 1) := by decide +kernel
theorem dX10_touch_136 : decode cX10_touch 136 = .ok (.iastore, 1) := by decide +kernel
theorem dX10_touch_137 : decode cX10_touch 137 = .ok (.aload_n 0, 1) := by decide +kernel
theorem dX10_touch_138 : decode cX10_touch 138 = .ok (.dup, 1) := by decide +kernel
theorem dX10_touch_139 : decode cX10_touch 139 = .ok (.getfield 96, 3) := by decide +kernel
theorem dX10_touch_142 : decode cX10_touch 142 = .ok (.iconst 1, 1) := by decide +kernel
theorem dX10_touch_143 : decode cX10_touch 143 = .ok (.iadd, 1) := by decide +kernel
theorem dX10_touch_144 : decode cX10_touch 144 = .ok (.putfield 96, 3) := by decide +kernel
theorem dX10_touch_147 : decode cX10_touch 147 = .ok (.iconst 0, 1) := by decide +kernel
theorem dX10_touch_148 : decode cX10_touch 148 = .ok (.ireturn, 1) := by decide +kernel
set_option maxRecDepth 20000 in
theorem ggX10_rest_X10_isThere : GoodIn wsX10_rest wsX10_isThere := goodIn_r _ [6, 7, 8, 9, 5, 10, 11, 12, 13, 14, 15, 16, 17, 18, 19, 20, 21, 22, 23, 24, 25, 26, 27, 28, 29, 30, 31, 32, 33, 34, 35, 36, 37, 38, 39, 40] (by decide +kernel) (by decide +kernel)
set_option maxRecDepth 20000 in
theorem gX10_rest_X10_isThere : GoodIn wsX10_rest (wsV RX10 83 RX10 yX10_isThere wsX10_isThere) := goodIn_app (goodIn_of _ (by decide +kernel)) ggX10_rest_X10_isThere
theorem dX10_rest_0 : decode cX10_rest 0 = .ok (.aload_n 0, 1) := by decide +kernel
theorem dX10_rest_1 : decode cX10_rest 1 = .ok (.iload_n 1, 1) := by decide +kernel
theorem dX10_rest_2 : decode cX10_rest 2 = .ok (.invokevirtual 83, 3) := by decide +kernel
theorem dX10_rest_5 : decode cX10_rest 5 = .ok (.ifCond .ne 5, 3) := by decide +kernel
theorem dX10_rest_8 : decode cX10_rest 8 = .ok (.iconst 1, 1) := by decide +kernel
theorem dX10_rest_9 : decode cX10_rest 9 = .ok (.ireturn, 1) := by decide +kernel
theorem dX10_rest_10 : decode cX10_rest 10 = .ok (.aload_n 0, 1) := by decide +kernel
theorem dX10_rest_11 : decode cX10_rest 11 = .ok (.getfield 16, 3) := by decide +kernel
theorem dX10_rest_14 : decode cX10_rest 14 = .ok (.bipush 7, 2) := by decide +kernel
theorem dX10_rest_16 : decode cX10_rest 16 = .ok (.iload_n 1, 1) := by decide +kernel
theorem dX10_rest_17 : decode cX10_rest 17 = .ok (.iadd, 1) := by decide +kernel
theorem dX10_rest_18 : decode cX10_rest 18 = .ok (.aload_n 0, 1) := by decide +kernel
theorem dX10_rest_19 : decode cX10_rest 19 = .ok (.getfield 16, 3) := by decide +kernel
theorem dX10_rest_22 : decode cX10_rest 22 = .ok (.bipush 7, 2) := by decide +kernel
theorem dX10_rest_24 : decode cX10_rest 24 = .ok (.iload_n 1, 1) := by decide +kernel
theorem dX10_rest_25 : decode cX10_rest 25 = .ok (.iadd, 1) := by decide +kernel
theorem dX10_rest_26 : decode cX10_rest 26 = .ok (.iaload, 1) := by decide +kernel
theorem dX10_rest_27 : decode cX10_rest 27 = .ok (.iconst 2, 1) := by decide +kernel
theorem dX10_rest_28 : decode cX10_rest 28 = .ok (.iadd, 1) := by decide +kernel
theorem dX10_rest_29 : decode cX10_rest 29 = .ok (.bipush 9, 2) := by decide +kernel
theorem dX10_rest_31 : decode cX10_rest 31 = .ok (.if_icmp .le 8, 3) := by decide +kernel
theorem dX10_rest_34 : decode cX10_rest 34 = .ok (.bipush 9, 2) := by decide +kernel
theorem dX10_rest_36 : decode cX10_rest 36 = .ok (.goto 14, 3) := by decide +kernel
theorem dX10_rest_39 : decode cX10_rest 39 = .ok (.aload_n 0, 1) := by decide +kernel
theorem dX10_rest_40 : decode cX10_rest 40 = .ok (.getfield 16, 3) := by decide +kernel
theorem dX10_rest_43 : decode cX10_rest 43 = .ok (.bipush 7, 2) := by decide +kernel
theorem dX10_rest_45 : decode cX10_rest 45 = .ok (.iload_n 1, 1) := by decide +kernel
theorem dX10_rest_46 : decode cX10_rest 46 = .ok (.iadd, 1) := by decide +kernel
theorem dX10_rest_47 : decode cX10_rest 47 = .ok (.iaload, 1) := by decide +kernel
theorem dX10_rest_48 : decode cX10_rest 48 = .ok (.iconst 2, 1) := by decide +kernel
theorem dX10_rest_49 : decode cX10_rest 49 = .ok (.iadd, 1) := by decide +kernel
theorem dX10_rest_50 : decode cX10_rest 50 = .ok (.iastore, 1) := by decide +kernel
theorem dX10_rest_51 : decode cX10_rest 51 = .ok (.iconst 0, 1) := by decide +kernel
theorem dX10_rest_52 : decode cX10_rest 52 = .ok (.ireturn, 1) := by decide +kernel
set_option maxRecDepth 20000 in
theorem ggX10_cross_X10_isThere : GoodIn wsX10_cross wsX10_isThere := goodIn_r _ [6, 7, 8, 9, 5, 10, 11, 12, 13, 14, 15, 16, 17, 18, 19, 20, 21, 22, 23, 24, 25, 26, 27, 28, 29, 30, 31, 32, 33, 34, 35, 36, 37, 38, 39, 40] (by decide +kernel) (by decide +kernel)
set_option maxRecDepth 20000 in
theorem gX10_cross_X10_isThere : GoodIn wsX10_cross (wsV RX10 83 RX10 yX10_isThere wsX10_isThere) := goodIn_app (goodIn_of _ (by decide +kernel)) ggX10_cross_X10_isThere
theorem dX10_cross_0 : decode cX10_cross 0 = .ok (.aload_n 0, 1) := by decide +kernel
theorem dX10_cross_1 : decode cX10_cross 1 = .ok (.iload_n 1, 1) := by decide +kernel
theorem dX10_cross_2 : decode cX10_cross 2 = .ok (.invokevirtual 83, 3) := by decide +kernel
theorem dX10_cross_5 : decode cX10_cross 5 = .ok (.ifCond .ne 5, 3) := by decide +kernel
theorem dX10_cross_8 : decode cX10_cross 8 = .ok (.iconst 1, 1) := by decide +kernel
theorem dX10_cross_9 : decode cX10_cross 9 = .ok (.ireturn, 1) := by decide +kernel
theorem dX10_cross_10 : decode cX10_cross 10 = .ok (.aload_n 0, 1) := by decide +kernel
theorem dX10_cross_11 : decode cX10_cross 11 = .ok (.getfield 16, 3) := by decide +kernel
theorem dX10_cross_14 : decode cX10_cross 14 = .ok (.bipush 21, 2) := by decide +kernel
theorem dX10_cross_16 : decode cX10_cross 16 = .ok (.dup2, 1) := by decide +kernel
theorem dX10_cross_17 : decode cX10_cross 17 = .ok (.iaload, 1) := by decide +kernel
theorem dX10_cross_18 : decode cX10_cross 18 = .ok (.iconst 1, 1) := by decide +kernel
theorem dX10_cross_19 : decode cX10_cross 19 = .ok (.iload_n 1, 1) := by decide +kernel
theorem dX10_cross_20 : decode cX10_cross 20 = .ok (.ishl, 1) := by decide +kernel
theorem dX10_cross_21 : decode cX10_cross 21 = .ok (.ixor, 1) := by decide +kernel
theorem dX10_cross_22 : decode cX10_cross 22 = .ok (.iastore, 1) := by decide +kernel
theorem dX10_cross_23 : decode cX10_cross 23 = .ok (.iconst 0, 1) := by decide +kernel
theorem dX10_cross_24 : decode cX10_cross 24 = .ok (.ireturn, 1) := by decide +kernel
theorem dX10_minute_0 : decode cX10_minute 0 = .ok (.aload_n 0, 1) := by decide +kernel
theorem dX10_minute_1 : decode cX10_minute 1 = .ok (.getfield 16, 3) := by decide +kernel
theorem dX10_minute_4 : decode cX10_minute 4 = .ok (.bipush 24, 2) := by decide +kernel
theorem dX10_minute_6 : decode cX10_minute 6 = .ok (.iaload, 1) := by decide +kernel
theorem dX10_minute_7 : decode cX10_minute 7 = .ok (.bipush 99, 2) := by decide +kernel
theorem dX10_minute_9 : decode cX10_minute 9 = .ok (.if_icmp .ne 6, 3) := by decide +kernel
theorem dX10_minute_12 : decode cX10_minute 12 = .ok (.bipush 9, 2) := by decide +kernel
theorem dX10_minute_14 : decode cX10_minute 14 = .ok (.ireturn, 1) := by decide +kernel
theorem dX10_minute_15 : decode cX10_minute 15 = .ok (.aload_n 0, 1) := by decide +kernel
theorem dX10_minute_16 : decode cX10_minute 16 = .ok (.getfield 16, 3) := by decide +kernel
theorem dX10_minute_19 : decode cX10_minute 19 = .ok (.bipush 24, 2) := by decide +kernel
theorem dX10_minute_21 : decode cX10_minute 21 = .ok (.dup2, 1) := by decide +kernel
theorem dX10_minute_22 : decode cX10_minute 22 = .ok (.iaload, 1) := by decide +kernel
theorem dX10_minute_23 : decode cX10_minute 23 = .ok (.iconst 1, 1) := by decide +kernel
theorem dX10_minute_24 : decode cX10_minute 24 = .ok (.iadd, 1) := by decide +kernel
theorem dX10_minute_25 : decode cX10_minute 25 = .ok (.iastore, 1) := by decide +kernel
theorem dX10_minute_26 : decode cX10_minute 26 = .ok (.aload_n 0, 1) := by decide +kernel
theorem dX10_minute_27 : decode cX10_minute 27 = .ok (.getfield 16, 3) := by decide +kernel
theorem dX10_minute_30 : decode cX10_minute 30 = .ok (.bipush 22, 2) := by decide +kernel
theorem dX10_minute_32 : decode cX10_minute 32 = .ok (.iaload, 1) := by decide +kernel
theorem dX10_minute_33 : decode cX10_minute 33 = .ok (.ifCond .lt 22, 3) := by decide +kernel
theorem dX10_minute_36 : decode cX10_minute 36 = .ok (.aload_n 0, 1) := by decide +kernel
theorem dX10_minute_37 : decode cX10_minute 37 = .ok (.getfield 16, 3) := by decide +kernel
theorem dX10_minute_40 : decode cX10_minute 40 = .ok (.bipush 14, 2) := by decide +kernel
theorem dX10_minute_42 : decode cX10_minute 42 = .ok (.aload_n 0, 1) := by decide +kernel
theorem dX10_minute_43 : decode cX10_minute 43 = .ok (.getfield 16, 3) := by decide +kernel
theorem dX10_minute_46 : decode cX10_minute 46 = .ok (.bipush 22, 2) := by decide +kernel
theorem dX10_minute_48 : decode cX10_minute 48 = .ok (.iaload, 1) := by decide +kernel
theorem dX10_minute_49 : decode cX10_minute 49 = .ok (.iadd, 1) := by decide +kernel
theorem dX10_minute_50 : decode cX10_minute 50 = .ok (.dup2, 1) := by decide +kernel
theorem dX10_minute_51 : decode cX10_minute 51 = .ok (.iaload, 1) := by decide +kernel
theorem dX10_minute_52 : decode cX10_minute 52 = .ok (.iconst 1, 1) := by decide +kernel
theorem dX10_minute_53 : decode cX10_minute 53 = .ok (.iadd, 1) := by decide +kernel
theorem dX10_minute_54 : decode cX10_minute 54 = .ok (.iastore, 1) := by decide +kernel
theorem dX10_minute_55 : decode cX10_minute 55 = .ok (.iconst 0, 1) := by decide +kernel
theorem dX10_minute_56 : decode cX10_minute 56 = .ok (.ireturn, 1) := by decide +kernel
set_option maxRecDepth 20000 in
theorem ggX10_goDays_X10_asNow : GoodIn wsX10_goDays wsX10_asNow := goodIn_r _ [11, 12, 13, 3, 6, 50, 51, 52, 53, 54, 55, 56, 57, 58, 59, 60, 61, 62, 63, 64, 65, 66, 67, 68, 69, 70, 71, 72, 73] (by decide +kernel) (by decide +kernel)
set_option maxRecDepth 20000 in
theorem gX10_goDays_X10_asNow : GoodIn wsX10_goDays (wsV RX10 102 RX10 yX10_asNow wsX10_asNow) := goodIn_app (goodIn_of _ (by decide +kernel)) ggX10_goDays_X10_asNow
set_option maxRecDepth 20000 in
theorem ggX10_goDays_X10_minute : GoodIn wsX10_goDays wsX10_minute := goodIn_r _ [17, 12, 50, 51, 52, 53, 54, 55, 56, 57, 58, 59, 60, 61, 62, 63, 64, 65, 66, 67, 68, 69, 70, 71, 72, 73] (by decide +kernel) (by decide +kernel)
set_option maxRecDepth 20000 in
theorem gX10_goDays_X10_minute : GoodIn wsX10_goDays (wsV RX10 108 RX10 yX10_minute wsX10_minute) := goodIn_app (goodIn_of _ (by decide +kernel)) ggX10_goDays_X10_minute
set_option maxRecDepth 20000 in
theorem ggX10_goDays_X10_touch : GoodIn wsX10_goDays wsX10_touch := goodIn_r _ [21, 12, 22, 3, 23, 24, 25, 10, 26, 27, 28, 29, 30, 31, 32, 33, 34, 35, 36, 50, 51, 52, 53, 54, 55, 56, 57, 58, 59, 60, 61, 62, 63, 64, 65, 66, 67, 68, 69, 70, 71, 72, 73] (by decide +kernel) (by decide +kernel)
set_option maxRecDepth 20000 in
theorem gX10_goDays_X10_touch : GoodIn wsX10_goDays (wsV RX10 114 RX10 yX10_touch wsX10_touch) := goodIn_app (goodIn_of _ (by decide +kernel)) ggX10_goDays_X10_touch
set_option maxRecDepth 20000 in
theorem ggX10_goDays_X10_rest : GoodIn wsX10_goDays wsX10_rest := goodIn_r _ [40, 12, 23, 24, 25, 10, 26, 27, 28, 29, 30, 31, 32, 33, 34, 35, 36, 50, 51, 52, 53, 54, 55, 56, 57, 58, 59, 60, 61, 62, 63, 64, 65, 66, 67, 68, 69, 70, 71, 72, 73] (by decide +kernel) (by decide +kernel)
set_option maxRecDepth 20000 in
theorem gX10_goDays_X10_rest : GoodIn wsX10_goDays (wsV RX10 118 RX10 yX10_rest wsX10_rest) := goodIn_app (goodIn_of _ (by decide +kernel)) ggX10_goDays_X10_rest
set_option maxRecDepth 20000 in
theorem ggX10_goDays_X10_cross : GoodIn wsX10_goDays wsX10_cross := goodIn_r _ [44, 12, 23, 24, 25, 10, 26, 27, 28, 29, 30, 31, 32, 33, 34, 35, 36, 50, 51, 52, 53, 54, 55, 56, 57, 58, 59, 60, 61, 62, 63, 64, 65, 66, 67, 68, 69, 70, 71, 72, 73] (by decide +kernel) (by decide +kernel)
set_option maxRecDepth 20000 in
theorem gX10_goDays_X10_cross : GoodIn wsX10_goDays (wsV RX10 121 RX10 yX10_cross wsX10_cross) := goodIn_app (goodIn_of _ (by decide +kernel)) ggX10_goDays_X10_cross
set_option maxRecDepth 20000 in
theorem ggX10_goDays_X10_run : GoodIn wsX10_goDays wsX10_run := goodIn_r _ [48, 49, 12, 23, 24, 25, 10, 26, 27, 28, 29, 30, 31, 32, 33, 34, 35, 36, 50, 51, 52, 53, 54, 55, 56, 57, 58, 59, 60, 61, 62, 63, 64, 65, 66, 67, 68, 69, 70, 71, 72, 73] (by decide +kernel) (by decide +kernel)
set_option maxRecDepth 20000 in
theorem gX10_goDays_X10_run : GoodIn wsX10_goDays (wsV RX10 124 RX10 yX10_run wsX10_run) := goodIn_app (goodIn_of _ (by decide +kernel)) ggX10_goDays_X10_run
theorem dX10_goDays_0 : decode cX10_goDays 0 = .ok (.aload_n 0, 1) := by decide +kernel
theorem dX10_goDays_1 : decode cX10_goDays 1 = .ok (.invokevirtual 102, 3) := by decide +kernel
theorem dX10_goDays_4 : decode cX10_goDays 4 = .ok (.aload_n 0, 1) := by decide +kernel
theorem dX10_goDays_5 : decode cX10_goDays 5 = .ok (.iconst 0, 1) := by decide +kernel
theorem dX10_goDays_6 : decode cX10_goDays 6 = .ok (.putfield 105, 3) := by decide +kernel
theorem dX10_goDays_9 : decode cX10_goDays 9 = .ok (.iconst 0, 1) := by decide +kernel
theorem dX10_goDays_10 : decode cX10_goDays 10 = .ok (.istore_n 1, 1) := by decide +kernel
theorem dX10_goDays_11 : decode cX10_goDays 11 = .ok (.iload_n 1, 1) := by decide +kernel
theorem dX10_goDays_12 : decode cX10_goDays 12 = .ok (.aload_n 0, 1) := by decide +kernel
theorem dX10_goDays_13 : decode cX10_goDays 13 = .ok (.getfield 86, 3) := by decide +kernel
theorem dX10_goDays_16 : decode cX10_goDays 16 = .ok (.if_icmp .ge 188, 3) := by decide +kernel
theorem dX10_goDays_19 : decode cX10_goDays 19 = .ok (.aload_n 0, 1) := by decide +kernel
theorem dX10_goDays_20 : decode cX10_goDays 20 = .ok (.getfield 96, 3) := by decide +kernel
theorem dX10_goDays_23 : decode cX10_goDays 23 = .ok (.istore_n 2, 1) := by decide +kernel
theorem dX10_goDays_24 : decode cX10_goDays 24 = .ok (.aload_n 0, 1) := by decide +kernel
theorem dX10_goDays_25 : decode cX10_goDays 25 = .ok (.getfield 25, 3) := by decide +kernel
theorem dX10_goDays_28 : decode cX10_goDays 28 = .ok (.iload_n 1, 1) := by decide +kernel
theorem dX10_goDays_29 : decode cX10_goDays 29 = .ok (.iaload, 1) := by decide +kernel
theorem dX10_goDays_30 : decode cX10_goDays 30 = .ok (.bipush 46, 2) := by decide +kernel
theorem dX10_goDays_32 : decode cX10_goDays 32 = .ok (.if_icmp .ne 17, 3) := by decide +kernel
theorem dX10_goDays_35 : decode cX10_goDays 35 = .ok (.aload_n 0, 1) := by decide +kernel
theorem dX10_goDays_36 : decode cX10_goDays 36 = .ok (.aload_n 0, 1) := by decide +kernel
theorem dX10_goDays_37 : decode cX10_goDays 37 = .ok (.invokevirtual 108, 3) := by decide +kernel
theorem dX10_goDays_40 : decode cX10_goDays 40 = .ok (.putfield 111, 3) := by decide +kernel
theorem dX10_goDays_43 : decode cX10_goDays 43 = .ok (.iinc 1 1, 3) := by decide +kernel
theorem dX10_goDays_46 : decode cX10_goDays 46 = .ok (.goto 103, 3) := by decide +kernel
theorem dX10_goDays_49 : decode cX10_goDays 49 = .ok (.aload_n 0, 1) := by decide +kernel
theorem dX10_goDays_50 : decode cX10_goDays 50 = .ok (.getfield 25, 3) := by decide +kernel
theorem dX10_goDays_53 : decode cX10_goDays 53 = .ok (.iload_n 1, 1) := by decide +kernel
theorem dX10_goDays_54 : decode cX10_goDays 54 = .ok (.iaload, 1) := by decide +kernel
theorem dX10_goDays_55 : decode cX10_goDays 55 = .ok (.bipush 65, 2) := by decide +kernel
theorem dX10_goDays_57 : decode cX10_goDays 57 = .ok (.isub, 1) := by decide +kernel
theorem dX10_goDays_58 : decode cX10_goDays 58 = .ok (.istore_n 3, 1) := by decide +kernel
theorem dX10_goDays_59 : decode cX10_goDays 59 = .ok (.aload_n 0, 1) := by decide +kernel
theorem dX10_goDays_60 : decode cX10_goDays 60 = .ok (.getfield 25, 3) := by decide +kernel
theorem dX10_goDays_63 : decode cX10_goDays 63 = .ok (.iload_n 1, 1) := by decide +kernel
theorem dX10_goDays_64 : decode cX10_goDays 64 = .ok (.iconst 1, 1) := by decide +kernel
theorem dX10_goDays_65 : decode cX10_goDays 65 = .ok (.iadd, 1) := by decide +kernel
theorem dX10_goDays_66 : decode cX10_goDays 66 = .ok (.iaload, 1) := by decide +kernel
theorem dX10_goDays_67 : decode cX10_goDays 67 = .ok (.istore 4, 2) := by decide +kernel
theorem dX10_goDays_69 : decode cX10_goDays 69 = .ok (.iload 4, 2) := by decide +kernel
theorem dX10_goDays_71 : decode cX10_goDays 71 = .ok (.bipush 62, 2) := by decide +kernel
theorem dX10_goDays_73 : decode cX10_goDays 73 = .ok (.if_icmp .ne 29, 3) := by decide +kernel
theorem dX10_goDays_76 : decode cX10_goDays 76 = .ok (.aload_n 0, 1) := by decide +kernel
theorem dX10_goDays_77 : decode cX10_goDays 77 = .ok (.aload_n 0, 1) := by decide +kernel
theorem dX10_goDays_78 : decode cX10_goDays 78 = .ok (.iload_n 3, 1) := by decide +kernel
theorem dX10_goDays_79 : decode cX10_goDays 79 = .ok (.aload_n 0, 1) := by decide +kernel
theorem dX10_goDays_80 : decode cX10_goDays 80 = .ok (.getfield 25, 3) := by decide +kernel
theorem dX10_goDays_83 : decode cX10_goDays 83 = .ok (.iload_n 1, 1) := by decide +kernel
theorem dX10_goDays_84 : decode cX10_goDays 84 = .ok (.iconst 2, 1) := by decide +kernel
theorem dX10_goDays_85 : decode cX10_goDays 85 = .ok (.iadd, 1) := by decide +kernel
theorem dX10_goDays_86 : decode cX10_goDays 86 = .ok (.iaload, 1) := by decide +kernel
theorem dX10_goDays_87 : decode cX10_goDays 87 = .ok (.bipush 65, 2) := by decide +kernel
theorem dX10_goDays_89 : decode cX10_goDays 89 = .ok (.isub, 1) := by decide +kernel
theorem dX10_goDays_90 : decode cX10_goDays 90 = .ok (.invokevirtual 114, 3) := by decide +kernel
theorem dX10_goDays_93 : decode cX10_goDays 93 = .ok (.putfield 111, 3) := by decide +kernel
theorem dX10_goDays_96 : decode cX10_goDays 96 = .ok (.iinc 1 3, 3) := by decide +kernel
theorem dX10_goDays_99 : decode cX10_goDays 99 = .ok (.goto 50, 3) := by decide +kernel
theorem dX10_goDays_102 : decode cX10_goDays 102 = .ok (.aload_n 0, 1) := by decide +kernel
theorem dX10_goDays_103 : decode cX10_goDays 103 = .ok (.iload 4, 2) := by decide +kernel
theorem dX10_goDays_105 : decode cX10_goDays 105 = .ok (.bipush 43, 2) := by decide +kernel
theorem dX10_goDays_107 : decode cX10_goDays 107 = .ok (.if_icmp .ne 11, 3) := by decide +kernel
theorem dX10_goDays_110 : decode cX10_goDays 110 = .ok (.aload_n 0, 1) := by decide +kernel
theorem dX10_goDays_111 : decode cX10_goDays 111 = .ok (.iload_n 3, 1) := by decide +kernel
theorem dX10_goDays_112 : decode cX10_goDays 112 = .ok (.invokevirtual 118, 3) := by decide +kernel
theorem dX10_goDays_115 : decode cX10_goDays 115 = .ok (.goto 28, 3) := by decide +kernel
theorem dX10_goDays_118 : decode cX10_goDays 118 = .ok (.iload 4, 2) := by decide +kernel
theorem dX10_goDays_120 : decode cX10_goDays 120 = .ok (.bipush 42, 2) := by decide +kernel
theorem dX10_goDays_122 : decode cX10_goDays 122 = .ok (.if_icmp .ne 11, 3) := by decide +kernel
theorem dX10_goDays_125 : decode cX10_goDays 125 = .ok (.aload_n 0, 1) := by decide +kernel
theorem dX10_goDays_126 : decode cX10_goDays 126 = .ok (.iload_n 3, 1) := by decide +kernel
theorem dX10_goDays_127 : decode cX10_goDays 127 = .ok (.invokevirtual 121, 3) := by decide +kernel
theorem dX10_goDays_130 : decode cX10_goDays 130 = .ok (.goto 13, 3) := by decide +kernel
theorem dX10_goDays_133 : decode cX10_goDays 133 = .ok (.aload_n 0, 1) := by decide +kernel
theorem dX10_goDays_134 : decode cX10_goDays 134 = .ok (.iload_n 3, 1) := by decide +kernel
theorem dX10_goDays_135 : decode cX10_goDays 135 = .ok (.iload 4, 2) := by decide +kernel
theorem dX10_goDays_137 : decode cX10_goDays 137 = .ok (.bipush 97, 2) := by decide +kernel
theorem dX10_goDays_139 : decode cX10_goDays 139 = .ok (.isub, 1) := by decide +kernel
theorem dX10_goDays_140 : decode cX10_goDays 140 = .ok (.invokevirtual 124, 3) := by decide +kernel
theorem dX10_goDays_143 : decode cX10_goDays 143 = .ok (.putfield 111, 3) := by decide +kernel
theorem dX10_goDays_146 : decode cX10_goDays 146 = .ok (.iinc 1 2, 3) := by decide +kernel
theorem dX10_goDays_149 : decode cX10_goDays 149 = .ok (.aload_n 0, 1) := by decide +kernel
theorem dX10_goDays_150 : decode cX10_goDays 150 = .ok (.getfield 111, 3) := by decide +kernel
theorem dX10_goDays_153 : decode cX10_goDays 153 = .ok (.ifCond .le 8, 3) := by decide +kernel
theorem dX10_goDays_156 : decode cX10_goDays 156 = .ok (.aload_n 0, 1) := by decide +kernel
theorem dX10_goDays_157 : decode cX10_goDays 157 = .ok (.getfield 105, 3) := by decide +kernel
theorem dX10_goDays_160 : decode cX10_goDays 160 = .ok (.ireturn, 1) := by decide +kernel
theorem dX10_goDays_161 : decode cX10_goDays 161 = .ok (.aload_n 0, 1) := by decide +kernel
theorem dX10_goDays_162 : decode cX10_goDays 162 = .ok (.aload_n 0, 1) := by decide +kernel
theorem dX10_goDays_163 : decode cX10_goDays 163 = .ok (.getfield 99, 3) := by decide +kernel
theorem dX10_goDays_166 : decode cX10_goDays 166 = .ok (.ifCond .ge 18, 3) := by decide +kernel
theorem dX10_goDays_169 : decode cX10_goDays 169 = .ok (.aload_n 0, 1) := by decide +kernel
theorem dX10_goDays_170 : decode cX10_goDays 170 = .ok (.getfield 96, 3) := by decide +kernel
theorem dX10_goDays_173 : decode cX10_goDays 173 = .ok (.iload_n 2, 1) := by decide +kernel
theorem dX10_goDays_174 : decode cX10_goDays 174 = .ok (.if_icmp .le 10, 3) := by decide +kernel
theorem dX10_goDays_177 : decode cX10_goDays 177 = .ok (.aload_n 0, 1) := by decide +kernel
theorem dX10_goDays_178 : decode cX10_goDays 178 = .ok (.getfield 105, 3) := by decide +kernel
theorem dX10_goDays_181 : decode cX10_goDays 181 = .ok (.goto 7, 3) := by decide +kernel
theorem dX10_goDays_184 : decode cX10_goDays 184 = .ok (.aload_n 0, 1) := by decide +kernel
theorem dX10_goDays_185 : decode cX10_goDays 185 = .ok (.getfield 99, 3) := by decide +kernel
theorem dX10_goDays_188 : decode cX10_goDays 188 = .ok (.putfield 99, 3) := by decide +kernel
theorem dX10_goDays_191 : decode cX10_goDays 191 = .ok (.aload_n 0, 1) := by decide +kernel
theorem dX10_goDays_192 : decode cX10_goDays 192 = .ok (.dup, 1) := by decide +kernel
theorem dX10_goDays_193 : decode cX10_goDays 193 = .ok (.getfield 105, 3) := by decide +kernel
theorem dX10_goDays_196 : decode cX10_goDays 196 = .ok (.iconst 1, 1) := by decide +kernel
theorem dX10_goDays_197 : decode cX10_goDays 197 = .ok (.iadd, 1) := by decide +kernel
theorem dX10_goDays_198 : decode cX10_goDays 198 = .ok (.putfield 105, 3) := by decide +kernel
theorem dX10_goDays_201 : decode cX10_goDays 201 = .ok (.goto (-190), 3) := by decide +kernel
theorem dX10_goDays_204 : decode cX10_goDays 204 = .ok (.bipush (-6), 2) := by decide +kernel
theorem dX10_goDays_206 : decode cX10_goDays 206 = .ok (.ireturn, 1) := by decide +kernel
set_option maxRecDepth 20000 in
theorem ggX10_judge_X10_in : GoodIn wsX10_judge wsX10_in := goodIn_r _ [5] (by decide +kernel) (by decide +kernel)
set_option maxRecDepth 20000 in
theorem gX10_judge_X10_in : GoodIn wsX10_judge (va_wsS RX10 57 yX10_in wsX10_in) := goodIn_app (goodIn_of _ (by decide +kernel)) ggX10_judge_X10_in
set_option maxRecDepth 20000 in
theorem ggX10_judge_X10_faultOf : GoodIn wsX10_judge wsX10_faultOf := goodIn_r _ [9, 10, 11, 12, 13, 4, 14, 2, 3, 5, 61, 62, 63, 64, 65, 66, 67, 68, 69, 70, 71, 72, 73, 74, 75, 76, 77, 78, 79, 80, 81, 82, 83, 84] (by decide +kernel) (by decide +kernel)
set_option maxRecDepth 20000 in
theorem gX10_judge_X10_faultOf : GoodIn wsX10_judge (wsV RX10 92 RX10 yX10_faultOf wsX10_faultOf) := goodIn_app (goodIn_of _ (by decide +kernel)) ggX10_judge_X10_faultOf
set_option maxRecDepth 20000 in
theorem ggX10_judge_X10_goDays : GoodIn wsX10_judge wsX10_goDays := goodIn_r _ [18, 19, 10, 20, 11, 1, 21, 22, 23, 24, 4, 25, 26, 27, 28, 29, 30, 31, 32, 33, 34, 35, 36, 37, 38, 39, 40, 41, 42, 43, 44, 2, 3, 5, 45, 46, 47, 48, 49, 50, 51, 52, 53, 54, 55, 56, 57, 58, 59, 60, 61, 62, 63, 64, 65, 66, 67, 68, 69, 70, 71, 72, 73, 74, 75, 76, 77, 78, 79, 80, 81, 82, 83, 84] (by decide +kernel) (by decide +kernel)
set_option maxRecDepth 20000 in
theorem gX10_judge_X10_goDays : GoodIn wsX10_judge (wsV RX10 127 RX10 yX10_goDays wsX10_goDays) := goodIn_app (goodIn_of _ (by decide +kernel)) ggX10_judge_X10_goDays
theorem dX10_judge_0 : decode cX10_judge 0 = .ok (.iload_n 1, 1) := by decide +kernel
theorem dX10_judge_1 : decode cX10_judge 1 = .ok (.iconst 0, 1) := by decide +kernel
theorem dX10_judge_2 : decode cX10_judge 2 = .ok (.iconst 1, 1) := by decide +kernel
theorem dX10_judge_3 : decode cX10_judge 3 = .ok (.invokestatic 57, 3) := by decide +kernel
theorem dX10_judge_6 : decode cX10_judge 6 = .ok (.ifCond .ne 6, 3) := by decide +kernel
theorem dX10_judge_9 : decode cX10_judge 9 = .ok (.bipush (-2), 2) := by decide +kernel
theorem dX10_judge_11 : decode cX10_judge 11 = .ok (.ireturn, 1) := by decide +kernel
theorem dX10_judge_12 : decode cX10_judge 12 = .ok (.aload_n 0, 1) := by decide +kernel
theorem dX10_judge_13 : decode cX10_judge 13 = .ok (.invokevirtual 92, 3) := by decide +kernel
theorem dX10_judge_16 : decode cX10_judge 16 = .ok (.ifCond .lt 6, 3) := by decide +kernel
theorem dX10_judge_19 : decode cX10_judge 19 = .ok (.bipush (-5), 2) := by decide +kernel
theorem dX10_judge_21 : decode cX10_judge 21 = .ok (.ireturn, 1) := by decide +kernel
theorem dX10_judge_22 : decode cX10_judge 22 = .ok (.aload_n 0, 1) := by decide +kernel
theorem dX10_judge_23 : decode cX10_judge 23 = .ok (.invokevirtual 127, 3) := by decide +kernel
theorem dX10_judge_26 : decode cX10_judge 26 = .ok (.istore_n 2, 1) := by decide +kernel
theorem dX10_judge_27 : decode cX10_judge 27 = .ok (.iload_n 2, 1) := by decide +kernel
theorem dX10_judge_28 : decode cX10_judge 28 = .ok (.ifCond .lt 7, 3) := by decide +kernel
theorem dX10_judge_31 : decode cX10_judge 31 = .ok (.iload_n 1, 1) := by decide +kernel
theorem dX10_judge_32 : decode cX10_judge 32 = .ok (.ifCond .ne 7, 3) := by decide +kernel
theorem dX10_judge_35 : decode cX10_judge 35 = .ok (.iload_n 2, 1) := by decide +kernel
theorem dX10_judge_36 : decode cX10_judge 36 = .ok (.goto 7, 3) := by decide +kernel
theorem dX10_judge_39 : decode cX10_judge 39 = .ok (.aload_n 0, 1) := by decide +kernel
theorem dX10_judge_40 : decode cX10_judge 40 = .ok (.getfield 111, 3) := by decide +kernel
theorem dX10_judge_43 : decode cX10_judge 43 = .ok (.ireturn, 1) := by decide +kernel
set_option maxRecDepth 20000 in
theorem ggX10_barOfDays_X10_faultOf : GoodIn wsX10_barOfDays wsX10_faultOf := goodIn_r _ [5, 6, 7, 8, 9, 4, 10, 11, 12, 13, 61, 62, 63, 64, 65, 66, 67, 68, 69, 70, 71, 72, 73, 74, 75, 76, 77, 78, 79, 80, 81, 82, 83, 84] (by decide +kernel) (by decide +kernel)
set_option maxRecDepth 20000 in
theorem gX10_barOfDays_X10_faultOf : GoodIn wsX10_barOfDays (wsV RX10 92 RX10 yX10_faultOf wsX10_faultOf) := goodIn_app (goodIn_of _ (by decide +kernel)) ggX10_barOfDays_X10_faultOf
set_option maxRecDepth 20000 in
theorem ggX10_barOfDays_X10_goDays : GoodIn wsX10_barOfDays wsX10_goDays := goodIn_r _ [17, 18, 6, 19, 7, 20, 21, 22, 23, 24, 4, 25, 26, 27, 28, 29, 30, 31, 32, 33, 34, 35, 36, 37, 38, 39, 40, 41, 42, 43, 44, 11, 12, 13, 45, 46, 47, 48, 49, 50, 51, 52, 53, 54, 55, 56, 57, 58, 59, 60, 61, 62, 63, 64, 65, 66, 67, 68, 69, 70, 71, 72, 73, 74, 75, 76, 77, 78, 79, 80, 81, 82, 83, 84] (by decide +kernel) (by decide +kernel)
set_option maxRecDepth 20000 in
theorem gX10_barOfDays_X10_goDays : GoodIn wsX10_barOfDays (wsV RX10 127 RX10 yX10_goDays wsX10_goDays) := goodIn_app (goodIn_of _ (by decide +kernel)) ggX10_barOfDays_X10_goDays
theorem dX10_barOfDays_0 : decode cX10_barOfDays 0 = .ok (.aload_n 0, 1) := by decide +kernel
theorem dX10_barOfDays_1 : decode cX10_barOfDays 1 = .ok (.invokevirtual 92, 3) := by decide +kernel
theorem dX10_barOfDays_4 : decode cX10_barOfDays 4 = .ok (.ifCond .ge 10, 3) := by decide +kernel
theorem dX10_barOfDays_7 : decode cX10_barOfDays 7 = .ok (.aload_n 0, 1) := by decide +kernel
theorem dX10_barOfDays_8 : decode cX10_barOfDays 8 = .ok (.invokevirtual 127, 3) := by decide +kernel
theorem dX10_barOfDays_11 : decode cX10_barOfDays 11 = .ok (.ifCond .lt 8, 3) := by decide +kernel
theorem dX10_barOfDays_14 : decode cX10_barOfDays 14 = .ok (.bipush (-5), 2) := by decide +kernel
theorem dX10_barOfDays_16 : decode cX10_barOfDays 16 = .ok (.goto 4, 3) := by decide +kernel
theorem dX10_barOfDays_19 : decode cX10_barOfDays 19 = .ok (.iconst 0, 1) := by decide +kernel
theorem dX10_barOfDays_20 : decode cX10_barOfDays 20 = .ok (.ireturn, 1) := by decide +kernel
set_option maxRecDepth 20000 in
theorem ggX10_done_X10_barOfDays : GoodIn wsX10_done wsX10_barOfDays := goodIn_r _ [9, 10, 11, 12, 8, 13, 3, 14, 15, 16, 17, 18, 19, 20, 21, 22, 23, 24, 4, 25, 26, 27, 28, 29, 30, 31, 2, 1, 32, 33, 34, 35, 36, 37, 38, 39, 40, 41, 42, 43, 44, 45, 46, 47, 48, 49, 50, 51, 52, 53, 54, 55, 56, 57, 58, 59, 60, 61, 62, 63, 64, 65, 66, 67, 68, 69, 70, 71, 72, 73, 74, 75, 76, 77, 78, 79, 80, 81, 82, 83, 84, 85, 86, 87, 88] (by decide +kernel) (by decide +kernel)
set_option maxRecDepth 20000 in
theorem gX10_done_X10_barOfDays : GoodIn wsX10_done (wsV RX10 130 RX10 yX10_barOfDays wsX10_barOfDays) := goodIn_app (goodIn_of _ (by decide +kernel)) ggX10_done_X10_barOfDays
theorem dX10_done_0 : decode cX10_done 0 = .ok (.aload_n 0, 1) := by decide +kernel
theorem dX10_done_1 : decode cX10_done 1 = .ok (.invokevirtual 130, 3) := by decide +kernel
theorem dX10_done_4 : decode cX10_done 4 = .ok (.ifCond .ge 6, 3) := by decide +kernel
theorem dX10_done_7 : decode cX10_done 7 = .ok (.bipush (-5), 2) := by decide +kernel
theorem dX10_done_9 : decode cX10_done 9 = .ok (.ireturn, 1) := by decide +kernel
theorem dX10_done_10 : decode cX10_done 10 = .ok (.iconst 0, 1) := by decide +kernel
theorem dX10_done_11 : decode cX10_done 11 = .ok (.istore_n 1, 1) := by decide +kernel
theorem dX10_done_12 : decode cX10_done 12 = .ok (.iload_n 1, 1) := by decide +kernel
theorem dX10_done_13 : decode cX10_done 13 = .ok (.bipush 25, 2) := by decide +kernel
theorem dX10_done_15 : decode cX10_done 15 = .ok (.if_icmp .ge 21, 3) := by decide +kernel
theorem dX10_done_18 : decode cX10_done 18 = .ok (.aload_n 0, 1) := by decide +kernel
theorem dX10_done_19 : decode cX10_done 19 = .ok (.getfield 13, 3) := by decide +kernel
theorem dX10_done_22 : decode cX10_done 22 = .ok (.iload_n 1, 1) := by decide +kernel
theorem dX10_done_23 : decode cX10_done 23 = .ok (.aload_n 0, 1) := by decide +kernel
theorem dX10_done_24 : decode cX10_done 24 = .ok (.getfield 16, 3) := by decide +kernel
theorem dX10_done_27 : decode cX10_done 27 = .ok (.iload_n 1, 1) := by decide +kernel
theorem dX10_done_28 : decode cX10_done 28 = .ok (.iaload, 1) := by decide +kernel
theorem dX10_done_29 : decode cX10_done 29 = .ok (.iastore, 1) := by decide +kernel
theorem dX10_done_30 : decode cX10_done 30 = .ok (.iinc 1 1, 3) := by decide +kernel
theorem dX10_done_33 : decode cX10_done 33 = .ok (.goto (-21), 3) := by decide +kernel
theorem dX10_done_36 : decode cX10_done 36 = .ok (.aload_n 0, 1) := by decide +kernel
theorem dX10_done_37 : decode cX10_done 37 = .ok (.iconst 0, 1) := by decide +kernel
theorem dX10_done_38 : decode cX10_done 38 = .ok (.putfield 86, 3) := by decide +kernel
theorem dX10_done_41 : decode cX10_done 41 = .ok (.aload_n 0, 1) := by decide +kernel
theorem dX10_done_42 : decode cX10_done 42 = .ok (.getfield 105, 3) := by decide +kernel
theorem dX10_done_45 : decode cX10_done 45 = .ok (.ireturn, 1) := by decide +kernel
set_option maxRecDepth 20000 in
theorem ggX10_behind_X10_isThere : GoodIn wsX10_behind wsX10_isThere := goodIn_r _ [6, 7, 8, 9, 5, 10, 11, 12, 13, 14, 15, 16, 65, 66, 67, 68, 69, 70, 71, 72, 73, 74, 75, 76, 77, 78, 79, 80, 81, 82, 83, 84, 85, 86, 87, 88] (by decide +kernel) (by decide +kernel)
set_option maxRecDepth 20000 in
theorem gX10_behind_X10_isThere : GoodIn wsX10_behind (wsV RX10 83 RX10 yX10_isThere wsX10_isThere) := goodIn_app (goodIn_of _ (by decide +kernel)) ggX10_behind_X10_isThere
set_option maxRecDepth 20000 in
theorem ggX10_behind_X10_in : GoodIn wsX10_behind wsX10_in := goodIn_r _ [13] (by decide +kernel) (by decide +kernel)
set_option maxRecDepth 20000 in
theorem gX10_behind_X10_in : GoodIn wsX10_behind (va_wsS RX10 57 yX10_in wsX10_in) := goodIn_app (goodIn_of _ (by decide +kernel)) ggX10_behind_X10_in
set_option maxRecDepth 20000 in
theorem ggX10_behind_X10_barOfDays : GoodIn wsX10_behind wsX10_barOfDays := goodIn_r _ [20, 21, 22, 23, 5, 24, 25, 26, 27, 28, 29, 11, 12, 13, 30, 31, 32, 33, 34, 35, 36, 37, 38, 39, 40, 41, 1, 42, 43, 44, 45, 46, 47, 48, 49, 50, 51, 2, 3, 4, 6, 7, 8, 9, 10, 14, 15, 16, 52, 53, 54, 55, 56, 57, 58, 59, 60, 61, 62, 63, 64, 65, 66, 67, 68, 69, 70, 71, 72, 73, 74, 75, 76, 77, 78, 79, 80, 81, 82, 83, 84, 85, 86, 87, 88] (by decide +kernel) (by decide +kernel)
set_option maxRecDepth 20000 in
theorem gX10_behind_X10_barOfDays : GoodIn wsX10_behind (wsV RX10 130 RX10 yX10_barOfDays wsX10_barOfDays) := goodIn_app (goodIn_of _ (by decide +kernel)) ggX10_behind_X10_barOfDays
theorem dX10_behind_0 : decode cX10_behind 0 = .ok (.aload_n 0, 1) := by decide +kernel
theorem dX10_behind_1 : decode cX10_behind 1 = .ok (.iload_n 1, 1) := by decide +kernel
theorem dX10_behind_2 : decode cX10_behind 2 = .ok (.invokevirtual 83, 3) := by decide +kernel
theorem dX10_behind_5 : decode cX10_behind 5 = .ok (.ifCond .ne 5, 3) := by decide +kernel
theorem dX10_behind_8 : decode cX10_behind 8 = .ok (.iconst (-1), 1) := by decide +kernel
theorem dX10_behind_9 : decode cX10_behind 9 = .ok (.ireturn, 1) := by decide +kernel
theorem dX10_behind_10 : decode cX10_behind 10 = .ok (.iload_n 2, 1) := by decide +kernel
theorem dX10_behind_11 : decode cX10_behind 11 = .ok (.iconst 0, 1) := by decide +kernel
theorem dX10_behind_12 : decode cX10_behind 12 = .ok (.iconst 2, 1) := by decide +kernel
theorem dX10_behind_13 : decode cX10_behind 13 = .ok (.invokestatic 57, 3) := by decide +kernel
theorem dX10_behind_16 : decode cX10_behind 16 = .ok (.ifCond .ne 6, 3) := by decide +kernel
theorem dX10_behind_19 : decode cX10_behind 19 = .ok (.bipush (-2), 2) := by decide +kernel
theorem dX10_behind_21 : decode cX10_behind 21 = .ok (.ireturn, 1) := by decide +kernel
theorem dX10_behind_22 : decode cX10_behind 22 = .ok (.aload_n 0, 1) := by decide +kernel
theorem dX10_behind_23 : decode cX10_behind 23 = .ok (.invokevirtual 130, 3) := by decide +kernel
theorem dX10_behind_26 : decode cX10_behind 26 = .ok (.ifCond .ge 8, 3) := by decide +kernel
theorem dX10_behind_29 : decode cX10_behind 29 = .ok (.bipush (-5), 2) := by decide +kernel
theorem dX10_behind_31 : decode cX10_behind 31 = .ok (.goto 14, 3) := by decide +kernel
theorem dX10_behind_34 : decode cX10_behind 34 = .ok (.aload_n 0, 1) := by decide +kernel
theorem dX10_behind_35 : decode cX10_behind 35 = .ok (.getfield 16, 3) := by decide +kernel
theorem dX10_behind_38 : decode cX10_behind 38 = .ok (.bipush 7, 2) := by decide +kernel
theorem dX10_behind_40 : decode cX10_behind 40 = .ok (.iload_n 2, 1) := by decide +kernel
theorem dX10_behind_41 : decode cX10_behind 41 = .ok (.imul, 1) := by decide +kernel
theorem dX10_behind_42 : decode cX10_behind 42 = .ok (.iload_n 1, 1) := by decide +kernel
theorem dX10_behind_43 : decode cX10_behind 43 = .ok (.iadd, 1) := by decide +kernel
theorem dX10_behind_44 : decode cX10_behind 44 = .ok (.iaload, 1) := by decide +kernel
theorem dX10_behind_45 : decode cX10_behind 45 = .ok (.ireturn, 1) := by decide +kernel
set_option maxRecDepth 20000 in
theorem ggX10_then_X10_in : GoodIn wsX10_then wsX10_in := goodIn_r _ [7] (by decide +kernel) (by decide +kernel)
set_option maxRecDepth 20000 in
theorem gX10_then_X10_in : GoodIn wsX10_then (va_wsS RX10 57 yX10_in wsX10_in) := goodIn_app (goodIn_of _ (by decide +kernel)) ggX10_then_X10_in
set_option maxRecDepth 20000 in
theorem ggX10_then_X10_barOfDays : GoodIn wsX10_then wsX10_barOfDays := goodIn_r _ [11, 12, 13, 14, 6, 15, 16, 17, 18, 19, 20, 4, 5, 7, 21, 22, 23, 24, 25, 2, 26, 3, 27, 28, 29, 30, 1, 31, 32, 33, 34, 35, 36, 37, 38, 39, 40, 41, 42, 43, 44, 45, 46, 47, 48, 49, 50, 51, 52, 53, 54, 55, 56, 57, 58, 59, 60, 61, 62, 63, 64, 65, 66, 67, 68, 69, 70, 71, 72, 73, 74, 75, 76, 77, 78, 79, 80, 81, 82, 83, 84, 85, 86, 87, 88] (by decide +kernel) (by decide +kernel)
set_option maxRecDepth 20000 in
theorem gX10_then_X10_barOfDays : GoodIn wsX10_then (wsV RX10 130 RX10 yX10_barOfDays wsX10_barOfDays) := goodIn_app (goodIn_of _ (by decide +kernel)) ggX10_then_X10_barOfDays
theorem dX10_then_0 : decode cX10_then 0 = .ok (.iload_n 1, 1) := by decide +kernel
theorem dX10_then_1 : decode cX10_then 1 = .ok (.iconst 0, 1) := by decide +kernel
theorem dX10_then_2 : decode cX10_then 2 = .ok (.iconst 4, 1) := by decide +kernel
theorem dX10_then_3 : decode cX10_then 3 = .ok (.invokestatic 57, 3) := by decide +kernel
theorem dX10_then_6 : decode cX10_then 6 = .ok (.ifCond .ne 6, 3) := by decide +kernel
theorem dX10_then_9 : decode cX10_then 9 = .ok (.bipush (-2), 2) := by decide +kernel
theorem dX10_then_11 : decode cX10_then 11 = .ok (.ireturn, 1) := by decide +kernel
theorem dX10_then_12 : decode cX10_then 12 = .ok (.aload_n 0, 1) := by decide +kernel
theorem dX10_then_13 : decode cX10_then 13 = .ok (.invokevirtual 130, 3) := by decide +kernel
theorem dX10_then_16 : decode cX10_then 16 = .ok (.ifCond .ge 6, 3) := by decide +kernel
theorem dX10_then_19 : decode cX10_then 19 = .ok (.bipush (-5), 2) := by decide +kernel
theorem dX10_then_21 : decode cX10_then 21 = .ok (.ireturn, 1) := by decide +kernel
theorem dX10_then_22 : decode cX10_then 22 = .ok (.iload_n 1, 1) := by decide +kernel
theorem dX10_then_23 : decode cX10_then 23 = .ok (.iconst 3, 1) := by decide +kernel
theorem dX10_then_24 : decode cX10_then 24 = .ok (.if_icmp .ge 15, 3) := by decide +kernel
theorem dX10_then_27 : decode cX10_then 27 = .ok (.aload_n 0, 1) := by decide +kernel
theorem dX10_then_28 : decode cX10_then 28 = .ok (.getfield 16, 3) := by decide +kernel
theorem dX10_then_31 : decode cX10_then 31 = .ok (.bipush 22, 2) := by decide +kernel
theorem dX10_then_33 : decode cX10_then 33 = .ok (.iload_n 1, 1) := by decide +kernel
theorem dX10_then_34 : decode cX10_then 34 = .ok (.iadd, 1) := by decide +kernel
theorem dX10_then_35 : decode cX10_then 35 = .ok (.iaload, 1) := by decide +kernel
theorem dX10_then_36 : decode cX10_then 36 = .ok (.goto 19, 3) := by decide +kernel
theorem dX10_then_39 : decode cX10_then 39 = .ok (.iload_n 1, 1) := by decide +kernel
theorem dX10_then_40 : decode cX10_then 40 = .ok (.iconst 3, 1) := by decide +kernel
theorem dX10_then_41 : decode cX10_then 41 = .ok (.if_icmp .ne 10, 3) := by decide +kernel
theorem dX10_then_44 : decode cX10_then 44 = .ok (.aload_n 0, 1) := by decide +kernel
theorem dX10_then_45 : decode cX10_then 45 = .ok (.getfield 96, 3) := by decide +kernel
theorem dX10_then_48 : decode cX10_then 48 = .ok (.goto 7, 3) := by decide +kernel
theorem dX10_then_51 : decode cX10_then 51 = .ok (.aload_n 0, 1) := by decide +kernel
theorem dX10_then_52 : decode cX10_then 52 = .ok (.getfield 99, 3) := by decide +kernel
theorem dX10_then_55 : decode cX10_then 55 = .ok (.ireturn, 1) := by decide +kernel
set_option maxRecDepth 20000 in
theorem ggX10_layFar_X10_has : GoodIn wsX10_layFar wsX10_has := goodIn_r _ [7] (by decide +kernel) (by decide +kernel)
set_option maxRecDepth 20000 in
theorem gX10_layFar_X10_has : GoodIn wsX10_layFar (va_wsS RX10 69 yX10_has wsX10_has) := goodIn_app (goodIn_of _ (by decide +kernel)) ggX10_layFar_X10_has
theorem dX10_layFar_0 : decode cX10_layFar 0 = .ok (.iconst 0, 1) := by decide +kernel
theorem dX10_layFar_1 : decode cX10_layFar 1 = .ok (.istore_n 1, 1) := by decide +kernel
theorem dX10_layFar_2 : decode cX10_layFar 2 = .ok (.iload_n 1, 1) := by decide +kernel
theorem dX10_layFar_3 : decode cX10_layFar 3 = .ok (.bipush 12, 2) := by decide +kernel
theorem dX10_layFar_5 : decode cX10_layFar 5 = .ok (.if_icmp .ge 62, 3) := by decide +kernel
theorem dX10_layFar_8 : decode cX10_layFar 8 = .ok (.iconst 0, 1) := by decide +kernel
theorem dX10_layFar_9 : decode cX10_layFar 9 = .ok (.istore_n 2, 1) := by decide +kernel
theorem dX10_layFar_10 : decode cX10_layFar 10 = .ok (.iload_n 2, 1) := by decide +kernel
theorem dX10_layFar_11 : decode cX10_layFar 11 = .ok (.bipush 12, 2) := by decide +kernel
theorem dX10_layFar_13 : decode cX10_layFar 13 = .ok (.if_icmp .ge 48, 3) := by decide +kernel
theorem dX10_layFar_16 : decode cX10_layFar 16 = .ok (.aload_n 0, 1) := by decide +kernel
theorem dX10_layFar_17 : decode cX10_layFar 17 = .ok (.getfield 28, 3) := by decide +kernel
theorem dX10_layFar_20 : decode cX10_layFar 20 = .ok (.bipush 12, 2) := by decide +kernel
theorem dX10_layFar_22 : decode cX10_layFar 22 = .ok (.iload_n 1, 1) := by decide +kernel
theorem dX10_layFar_23 : decode cX10_layFar 23 = .ok (.imul, 1) := by decide +kernel
theorem dX10_layFar_24 : decode cX10_layFar 24 = .ok (.iload_n 2, 1) := by decide +kernel
theorem dX10_layFar_25 : decode cX10_layFar 25 = .ok (.iadd, 1) := by decide +kernel
theorem dX10_layFar_26 : decode cX10_layFar 26 = .ok (.iload_n 1, 1) := by decide +kernel
theorem dX10_layFar_27 : decode cX10_layFar 27 = .ok (.iload_n 2, 1) := by decide +kernel
theorem dX10_layFar_28 : decode cX10_layFar 28 = .ok (.if_icmp .ne 7, 3) := by decide +kernel
theorem dX10_layFar_31 : decode cX10_layFar 31 = .ok (.iconst 0, 1) := by decide +kernel
theorem dX10_layFar_32 : decode cX10_layFar 32 = .ok (.goto 22, 3) := by decide +kernel
theorem dX10_layFar_35 : decode cX10_layFar 35 = .ok (.aload_n 0, 1) := by decide +kernel
theorem dX10_layFar_36 : decode cX10_layFar 36 = .ok (.getfield 7, 3) := by decide +kernel
theorem dX10_layFar_39 : decode cX10_layFar 39 = .ok (.iload_n 1, 1) := by decide +kernel
theorem dX10_layFar_40 : decode cX10_layFar 40 = .ok (.iaload, 1) := by decide +kernel
theorem dX10_layFar_41 : decode cX10_layFar 41 = .ok (.iload_n 2, 1) := by decide +kernel
theorem dX10_layFar_42 : decode cX10_layFar 42 = .ok (.invokestatic 69, 3) := by decide +kernel
theorem dX10_layFar_45 : decode cX10_layFar 45 = .ok (.ifCond .eq 7, 3) := by decide +kernel
theorem dX10_layFar_48 : decode cX10_layFar 48 = .ok (.iconst 1, 1) := by decide +kernel
theorem dX10_layFar_49 : decode cX10_layFar 49 = .ok (.goto 5, 3) := by decide +kernel
theorem dX10_layFar_52 : decode cX10_layFar 52 = .ok (.ldc 133, 2) := by decide +kernel
theorem dX10_layFar_54 : decode cX10_layFar 54 = .ok (.iastore, 1) := by decide +kernel
theorem dX10_layFar_55 : decode cX10_layFar 55 = .ok (.iinc 2 1, 3) := by decide +kernel
theorem dX10_layFar_58 : decode cX10_layFar 58 = .ok (.goto (-48), 3) := by decide +kernel
theorem dX10_layFar_61 : decode cX10_layFar 61 = .ok (.iinc 1 1, 3) := by decide +kernel
theorem dX10_layFar_64 : decode cX10_layFar 64 = .ok (.goto (-62), 3) := by decide +kernel
theorem dX10_layFar_67 : decode cX10_layFar 67 = .ok (.iconst 0, 1) := by decide +kernel
theorem dX10_layFar_68 : decode cX10_layFar 68 = .ok (.istore_n 1, 1) := by decide +kernel
theorem dX10_layFar_69 : decode cX10_layFar 69 = .ok (.iload_n 1, 1) := by decide +kernel
theorem dX10_layFar_70 : decode cX10_layFar 70 = .ok (.bipush 12, 2) := by decide +kernel
theorem dX10_layFar_72 : decode cX10_layFar 72 = .ok (.if_icmp .ge 105, 3) := by decide +kernel
theorem dX10_layFar_75 : decode cX10_layFar 75 = .ok (.iconst 0, 1) := by decide +kernel
theorem dX10_layFar_76 : decode cX10_layFar 76 = .ok (.istore_n 2, 1) := by decide +kernel
theorem dX10_layFar_77 : decode cX10_layFar 77 = .ok (.iload_n 2, 1) := by decide +kernel
theorem dX10_layFar_78 : decode cX10_layFar 78 = .ok (.bipush 12, 2) := by decide +kernel
theorem dX10_layFar_80 : decode cX10_layFar 80 = .ok (.if_icmp .ge 91, 3) := by decide +kernel
theorem dX10_layFar_83 : decode cX10_layFar 83 = .ok (.iconst 0, 1) := by decide +kernel
theorem dX10_layFar_84 : decode cX10_layFar 84 = .ok (.istore_n 3, 1) := by decide +kernel
theorem dX10_layFar_85 : decode cX10_layFar 85 = .ok (.iload_n 3, 1) := by decide +kernel
theorem dX10_layFar_86 : decode cX10_layFar 86 = .ok (.bipush 12, 2) := by decide +kernel
theorem dX10_layFar_88 : decode cX10_layFar 88 = .ok (.if_icmp .ge 77, 3) := by decide +kernel
theorem dX10_layFar_91 : decode cX10_layFar 91 = .ok (.aload_n 0, 1) := by decide +kernel
theorem dX10_layFar_92 : decode cX10_layFar 92 = .ok (.getfield 28, 3) := by decide +kernel
theorem dX10_layFar_95 : decode cX10_layFar 95 = .ok (.bipush 12, 2) := by decide +kernel
theorem dX10_layFar_97 : decode cX10_layFar 97 = .ok (.iload_n 2, 1) := by decide +kernel
theorem dX10_layFar_98 : decode cX10_layFar 98 = .ok (.imul, 1) := by decide +kernel
theorem dX10_layFar_99 : decode cX10_layFar 99 = .ok (.iload_n 1, 1) := by decide +kernel
theorem dX10_layFar_100 : decode cX10_layFar 100 = .ok (.iadd, 1) := by decide +kernel
theorem dX10_layFar_101 : decode cX10_layFar 101 = .ok (.iaload, 1) := by decide +kernel
theorem dX10_layFar_102 : decode cX10_layFar 102 = .ok (.aload_n 0, 1) := by decide +kernel
theorem dX10_layFar_103 : decode cX10_layFar 103 = .ok (.getfield 28, 3) := by decide +kernel
theorem dX10_layFar_106 : decode cX10_layFar 106 = .ok (.bipush 12, 2) := by decide +kernel
theorem dX10_layFar_108 : decode cX10_layFar 108 = .ok (.iload_n 1, 1) := by decide +kernel
theorem dX10_layFar_109 : decode cX10_layFar 109 = .ok (.imul, 1) := by decide +kernel
theorem dX10_layFar_110 : decode cX10_layFar 110 = .ok (.iload_n 3, 1) := by decide +kernel
theorem dX10_layFar_111 : decode cX10_layFar 111 = .ok (.iadd, 1) := by decide +kernel
theorem dX10_layFar_112 : decode cX10_layFar 112 = .ok (.iaload, 1) := by decide +kernel
theorem dX10_layFar_113 : decode cX10_layFar 113 = .ok (.iadd, 1) := by decide +kernel
theorem dX10_layFar_114 : decode cX10_layFar 114 = .ok (.istore 4, 2) := by decide +kernel
theorem dX10_layFar_116 : decode cX10_layFar 116 = .ok (.aload_n 0, 1) := by decide +kernel
theorem dX10_layFar_117 : decode cX10_layFar 117 = .ok (.getfield 28, 3) := by decide +kernel
theorem dX10_layFar_120 : decode cX10_layFar 120 = .ok (.bipush 12, 2) := by decide +kernel
theorem dX10_layFar_122 : decode cX10_layFar 122 = .ok (.iload_n 2, 1) := by decide +kernel
theorem dX10_layFar_123 : decode cX10_layFar 123 = .ok (.imul, 1) := by decide +kernel
theorem dX10_layFar_124 : decode cX10_layFar 124 = .ok (.iload_n 3, 1) := by decide +kernel
theorem dX10_layFar_125 : decode cX10_layFar 125 = .ok (.iadd, 1) := by decide +kernel
theorem dX10_layFar_126 : decode cX10_layFar 126 = .ok (.iload 4, 2) := by decide +kernel
theorem dX10_layFar_128 : decode cX10_layFar 128 = .ok (.aload_n 0, 1) := by decide +kernel
theorem dX10_layFar_129 : decode cX10_layFar 129 = .ok (.getfield 28, 3) := by decide +kernel
theorem dX10_layFar_132 : decode cX10_layFar 132 = .ok (.bipush 12, 2) := by decide +kernel
theorem dX10_layFar_134 : decode cX10_layFar 134 = .ok (.iload_n 2, 1) := by decide +kernel
theorem dX10_layFar_135 : decode cX10_layFar 135 = .ok (.imul, 1) := by decide +kernel
theorem dX10_layFar_136 : decode cX10_layFar 136 = .ok (.iload_n 3, 1) := by decide +kernel
theorem dX10_layFar_137 : decode cX10_layFar 137 = .ok (.iadd, 1) := by decide +kernel
theorem dX10_layFar_138 : decode cX10_layFar 138 = .ok (.iaload, 1) := by decide +kernel
theorem dX10_layFar_139 : decode cX10_layFar 139 = .ok (.if_icmp .ge 8, 3) := by decide +kernel
theorem dX10_layFar_142 : decode cX10_layFar 142 = .ok (.iload 4, 2) := by decide +kernel
theorem dX10_layFar_144 : decode cX10_layFar 144 = .ok (.goto 14, 3) := by decide +kernel
theorem dX10_layFar_147 : decode cX10_layFar 147 = .ok (.aload_n 0, 1) := by decide +kernel
theorem dX10_layFar_148 : decode cX10_layFar 148 = .ok (.getfield 28, 3) := by decide +kernel
theorem dX10_layFar_151 : decode cX10_layFar 151 = .ok (.bipush 12, 2) := by decide +kernel
theorem dX10_layFar_153 : decode cX10_layFar 153 = .ok (.iload_n 2, 1) := by decide +kernel
theorem dX10_layFar_154 : decode cX10_layFar 154 = .ok (.imul, 1) := by decide +kernel
theorem dX10_layFar_155 : decode cX10_layFar 155 = .ok (.iload_n 3, 1) := by decide +kernel
theorem dX10_layFar_156 : decode cX10_layFar 156 = .ok (.iadd, 1) := by decide +kernel
theorem dX10_layFar_157 : decode cX10_layFar 157 = .ok (.iaload, 1) := by decide +kernel
theorem dX10_layFar_158 : decode cX10_layFar 158 = .ok (.iastore, 1) := by decide +kernel
theorem dX10_layFar_159 : decode cX10_layFar 159 = .ok (.iinc 3 1, 3) := by decide +kernel
theorem dX10_layFar_162 : decode cX10_layFar 162 = .ok (.goto (-77), 3) := by decide +kernel
theorem dX10_layFar_165 : decode cX10_layFar 165 = .ok (.iinc 2 1, 3) := by decide +kernel
theorem dX10_layFar_168 : decode cX10_layFar 168 = .ok (.goto (-91), 3) := by decide +kernel
theorem dX10_layFar_171 : decode cX10_layFar 171 = .ok (.iinc 1 1, 3) := by decide +kernel
theorem dX10_layFar_174 : decode cX10_layFar 174 = .ok (.goto (-105), 3) := by decide +kernel
theorem dX10_layFar_177 : decode cX10_layFar 177 = .ok (.return_, 1) := by decide +kernel
set_option maxRecDepth 20000 in
theorem ggX10_far_X10_isPlace : GoodIn wsX10_far wsX10_isPlace := goodIn_r _ [6, 7, 8, 5, 9] (by decide +kernel) (by decide +kernel)
set_option maxRecDepth 20000 in
theorem gX10_far_X10_isPlace : GoodIn wsX10_far (va_wsS RX10 73 yX10_isPlace wsX10_isPlace) := goodIn_app (goodIn_of _ (by decide +kernel)) ggX10_far_X10_isPlace
set_option maxRecDepth 20000 in
theorem ggX10_far_X10_layFar : GoodIn wsX10_far wsX10_layFar := goodIn_r _ [13, 1, 14, 2, 15, 16, 5, 17, 18, 19, 20, 21, 22, 23, 24, 25, 26, 27, 28, 29, 30, 31, 32, 33, 34, 35, 36, 37, 38, 39, 40, 41] (by decide +kernel) (by decide +kernel)
set_option maxRecDepth 20000 in
theorem gX10_far_X10_layFar : GoodIn wsX10_far (wsV RX10 134 RX10 yX10_layFar wsX10_layFar) := goodIn_app (goodIn_of _ (by decide +kernel)) ggX10_far_X10_layFar
theorem dX10_far_0 : decode cX10_far 0 = .ok (.iload_n 1, 1) := by decide +kernel
theorem dX10_far_1 : decode cX10_far 1 = .ok (.invokestatic 73, 3) := by decide +kernel
theorem dX10_far_4 : decode cX10_far 4 = .ok (.ifCond .eq 10, 3) := by decide +kernel
theorem dX10_far_7 : decode cX10_far 7 = .ok (.iload_n 2, 1) := by decide +kernel
theorem dX10_far_8 : decode cX10_far 8 = .ok (.invokestatic 73, 3) := by decide +kernel
theorem dX10_far_11 : decode cX10_far 11 = .ok (.ifCond .ne 5, 3) := by decide +kernel
theorem dX10_far_14 : decode cX10_far 14 = .ok (.iconst (-1), 1) := by decide +kernel
theorem dX10_far_15 : decode cX10_far 15 = .ok (.ireturn, 1) := by decide +kernel
theorem dX10_far_16 : decode cX10_far 16 = .ok (.aload_n 0, 1) := by decide +kernel
theorem dX10_far_17 : decode cX10_far 17 = .ok (.invokevirtual 134, 3) := by decide +kernel
theorem dX10_far_20 : decode cX10_far 20 = .ok (.aload_n 0, 1) := by decide +kernel
theorem dX10_far_21 : decode cX10_far 21 = .ok (.getfield 28, 3) := by decide +kernel
theorem dX10_far_24 : decode cX10_far 24 = .ok (.bipush 12, 2) := by decide +kernel
theorem dX10_far_26 : decode cX10_far 26 = .ok (.iload_n 1, 1) := by decide +kernel
theorem dX10_far_27 : decode cX10_far 27 = .ok (.imul, 1) := by decide +kernel
theorem dX10_far_28 : decode cX10_far 28 = .ok (.iload_n 2, 1) := by decide +kernel
theorem dX10_far_29 : decode cX10_far 29 = .ok (.iadd, 1) := by decide +kernel
theorem dX10_far_30 : decode cX10_far 30 = .ok (.iaload, 1) := by decide +kernel
theorem dX10_far_31 : decode cX10_far 31 = .ok (.ldc 133, 2) := by decide +kernel
theorem dX10_far_33 : decode cX10_far 33 = .ok (.if_icmp .lt 8, 3) := by decide +kernel
theorem dX10_far_36 : decode cX10_far 36 = .ok (.bipush (-6), 2) := by decide +kernel
theorem dX10_far_38 : decode cX10_far 38 = .ok (.goto 14, 3) := by decide +kernel
theorem dX10_far_41 : decode cX10_far 41 = .ok (.aload_n 0, 1) := by decide +kernel
theorem dX10_far_42 : decode cX10_far 42 = .ok (.getfield 28, 3) := by decide +kernel
theorem dX10_far_45 : decode cX10_far 45 = .ok (.bipush 12, 2) := by decide +kernel
theorem dX10_far_47 : decode cX10_far 47 = .ok (.iload_n 1, 1) := by decide +kernel
theorem dX10_far_48 : decode cX10_far 48 = .ok (.imul, 1) := by decide +kernel
theorem dX10_far_49 : decode cX10_far 49 = .ok (.iload_n 2, 1) := by decide +kernel
theorem dX10_far_50 : decode cX10_far 50 = .ok (.iadd, 1) := by decide +kernel
theorem dX10_far_51 : decode cX10_far 51 = .ok (.iaload, 1) := by decide +kernel
theorem dX10_far_52 : decode cX10_far 52 = .ok (.ireturn, 1) := by decide +kernel
set_option maxRecDepth 20000 in
theorem ggX10_isTouched_X10_has : GoodIn wsX10_isTouched wsX10_has := goodIn_r _ [5] (by decide +kernel) (by decide +kernel)
set_option maxRecDepth 20000 in
theorem gX10_isTouched_X10_has : GoodIn wsX10_isTouched (va_wsS RX10 69 yX10_has wsX10_has) := goodIn_app (goodIn_of _ (by decide +kernel)) ggX10_isTouched_X10_has
theorem dX10_isTouched_0 : decode cX10_isTouched 0 = .ok (.iload_n 1, 1) := by decide +kernel
theorem dX10_isTouched_1 : decode cX10_isTouched 1 = .ok (.iload_n 2, 1) := by decide +kernel
theorem dX10_isTouched_2 : decode cX10_isTouched 2 = .ok (.if_icmp .ne 18, 3) := by decide +kernel
theorem dX10_isTouched_5 : decode cX10_isTouched 5 = .ok (.aload_n 0, 1) := by decide +kernel
theorem dX10_isTouched_6 : decode cX10_isTouched 6 = .ok (.getfield 80, 3) := by decide +kernel
theorem dX10_isTouched_9 : decode cX10_isTouched 9 = .ok (.iload_n 1, 1) := by decide +kernel
theorem dX10_isTouched_10 : decode cX10_isTouched 10 = .ok (.invokestatic 69, 3) := by decide +kernel
theorem dX10_isTouched_13 : decode cX10_isTouched 13 = .ok (.ifCond .ne 7, 3) := by decide +kernel
theorem dX10_isTouched_16 : decode cX10_isTouched 16 = .ok (.iconst 1, 1) := by decide +kernel
theorem dX10_isTouched_17 : decode cX10_isTouched 17 = .ok (.goto 4, 3) := by decide +kernel
theorem dX10_isTouched_20 : decode cX10_isTouched 20 = .ok (.iconst 0, 1) := by decide +kernel
theorem dX10_isTouched_21 : decode cX10_isTouched 21 = .ok (.ireturn, 1) := by decide +kernel
set_option maxRecDepth 20000 in
theorem ggX10_mostBehind_X10_has : GoodIn wsX10_mostBehind wsX10_has := goodIn_r _ [6] (by decide +kernel) (by decide +kernel)
set_option maxRecDepth 20000 in
theorem gX10_mostBehind_X10_has : GoodIn wsX10_mostBehind (va_wsS RX10 69 yX10_has wsX10_has) := goodIn_app (goodIn_of _ (by decide +kernel)) ggX10_mostBehind_X10_has
theorem dX10_mostBehind_0 : decode cX10_mostBehind 0 = .ok (.iconst 0, 1) := by decide +kernel
theorem dX10_mostBehind_1 : decode cX10_mostBehind 1 = .ok (.istore_n 3, 1) := by decide +kernel
theorem dX10_mostBehind_2 : decode cX10_mostBehind 2 = .ok (.iconst 0, 1) := by decide +kernel
theorem dX10_mostBehind_3 : decode cX10_mostBehind 3 = .ok (.istore 4, 2) := by decide +kernel
theorem dX10_mostBehind_5 : decode cX10_mostBehind 5 = .ok (.iload 4, 2) := by decide +kernel
theorem dX10_mostBehind_7 : decode cX10_mostBehind 7 = .ok (.bipush 12, 2) := by decide +kernel
theorem dX10_mostBehind_9 : decode cX10_mostBehind 9 = .ok (.if_icmp .ge 74, 3) := by decide +kernel
theorem dX10_mostBehind_12 : decode cX10_mostBehind 12 = .ok (.iload 4, 2) := by decide +kernel
theorem dX10_mostBehind_14 : decode cX10_mostBehind 14 = .ok (.iload_n 2, 1) := by decide +kernel
theorem dX10_mostBehind_15 : decode cX10_mostBehind 15 = .ok (.if_icmp .eq 17, 3) := by decide +kernel
theorem dX10_mostBehind_18 : decode cX10_mostBehind 18 = .ok (.aload_n 0, 1) := by decide +kernel
theorem dX10_mostBehind_19 : decode cX10_mostBehind 19 = .ok (.getfield 7, 3) := by decide +kernel
theorem dX10_mostBehind_22 : decode cX10_mostBehind 22 = .ok (.iload_n 2, 1) := by decide +kernel
theorem dX10_mostBehind_23 : decode cX10_mostBehind 23 = .ok (.iaload, 1) := by decide +kernel
theorem dX10_mostBehind_24 : decode cX10_mostBehind 24 = .ok (.iload 4, 2) := by decide +kernel
theorem dX10_mostBehind_26 : decode cX10_mostBehind 26 = .ok (.invokestatic 69, 3) := by decide +kernel
theorem dX10_mostBehind_29 : decode cX10_mostBehind 29 = .ok (.ifCond .eq 7, 3) := by decide +kernel
theorem dX10_mostBehind_32 : decode cX10_mostBehind 32 = .ok (.iconst 1, 1) := by decide +kernel
theorem dX10_mostBehind_33 : decode cX10_mostBehind 33 = .ok (.goto 4, 3) := by decide +kernel
theorem dX10_mostBehind_36 : decode cX10_mostBehind 36 = .ok (.iconst 0, 1) := by decide +kernel
theorem dX10_mostBehind_37 : decode cX10_mostBehind 37 = .ok (.istore 5, 2) := by decide +kernel
theorem dX10_mostBehind_39 : decode cX10_mostBehind 39 = .ok (.iload 5, 2) := by decide +kernel
theorem dX10_mostBehind_41 : decode cX10_mostBehind 41 = .ok (.ifCond .eq 34, 3) := by decide +kernel
theorem dX10_mostBehind_44 : decode cX10_mostBehind 44 = .ok (.aload_n 0, 1) := by decide +kernel
theorem dX10_mostBehind_45 : decode cX10_mostBehind 45 = .ok (.getfield 31, 3) := by decide +kernel
theorem dX10_mostBehind_48 : decode cX10_mostBehind 48 = .ok (.bipush 12, 2) := by decide +kernel
theorem dX10_mostBehind_50 : decode cX10_mostBehind 50 = .ok (.iload_n 1, 1) := by decide +kernel
theorem dX10_mostBehind_51 : decode cX10_mostBehind 51 = .ok (.imul, 1) := by decide +kernel
theorem dX10_mostBehind_52 : decode cX10_mostBehind 52 = .ok (.iload 4, 2) := by decide +kernel
theorem dX10_mostBehind_54 : decode cX10_mostBehind 54 = .ok (.iadd, 1) := by decide +kernel
theorem dX10_mostBehind_55 : decode cX10_mostBehind 55 = .ok (.iaload, 1) := by decide +kernel
theorem dX10_mostBehind_56 : decode cX10_mostBehind 56 = .ok (.iload_n 3, 1) := by decide +kernel
theorem dX10_mostBehind_57 : decode cX10_mostBehind 57 = .ok (.if_icmp .le 18, 3) := by decide +kernel
theorem dX10_mostBehind_60 : decode cX10_mostBehind 60 = .ok (.aload_n 0, 1) := by decide +kernel
theorem dX10_mostBehind_61 : decode cX10_mostBehind 61 = .ok (.getfield 31, 3) := by decide +kernel
theorem dX10_mostBehind_64 : decode cX10_mostBehind 64 = .ok (.bipush 12, 2) := by decide +kernel
theorem dX10_mostBehind_66 : decode cX10_mostBehind 66 = .ok (.iload_n 1, 1) := by decide +kernel
theorem dX10_mostBehind_67 : decode cX10_mostBehind 67 = .ok (.imul, 1) := by decide +kernel
theorem dX10_mostBehind_68 : decode cX10_mostBehind 68 = .ok (.iload 4, 2) := by decide +kernel
theorem dX10_mostBehind_70 : decode cX10_mostBehind 70 = .ok (.iadd, 1) := by decide +kernel
theorem dX10_mostBehind_71 : decode cX10_mostBehind 71 = .ok (.iaload, 1) := by decide +kernel
theorem dX10_mostBehind_72 : decode cX10_mostBehind 72 = .ok (.goto 4, 3) := by decide +kernel
theorem dX10_mostBehind_75 : decode cX10_mostBehind 75 = .ok (.iload_n 3, 1) := by decide +kernel
theorem dX10_mostBehind_76 : decode cX10_mostBehind 76 = .ok (.istore_n 3, 1) := by decide +kernel
theorem dX10_mostBehind_77 : decode cX10_mostBehind 77 = .ok (.iinc 4 1, 3) := by decide +kernel
theorem dX10_mostBehind_80 : decode cX10_mostBehind 80 = .ok (.goto (-75), 3) := by decide +kernel
theorem dX10_mostBehind_83 : decode cX10_mostBehind 83 = .ok (.iload_n 3, 1) := by decide +kernel
theorem dX10_mostBehind_84 : decode cX10_mostBehind 84 = .ok (.ireturn, 1) := by decide +kernel
set_option maxRecDepth 20000 in
theorem ggX10_by_X10_isTouched : GoodIn wsX10_by wsX10_isTouched := goodIn_r _ [6, 7, 8, 9, 5, 10, 17, 18, 19, 20, 21, 22, 23, 24, 25, 26, 27, 28, 29, 30, 31, 32, 33, 34, 35, 36, 37, 38, 39, 40] (by decide +kernel) (by decide +kernel)
set_option maxRecDepth 20000 in
theorem gX10_by_X10_isTouched : GoodIn wsX10_by (wsV RX10 137 RX10 yX10_isTouched wsX10_isTouched) := goodIn_app (goodIn_of _ (by decide +kernel)) ggX10_by_X10_isTouched
set_option maxRecDepth 20000 in
theorem ggX10_by_X10_mostBehind : GoodIn wsX10_by wsX10_mostBehind := goodIn_r _ [14, 15, 16, 8, 9, 5, 10, 17, 18, 19, 20, 21, 22, 23, 24, 25, 26, 27, 28, 29, 30, 31, 32, 33, 34, 35, 36, 37, 38, 39, 40] (by decide +kernel) (by decide +kernel)
set_option maxRecDepth 20000 in
theorem gX10_by_X10_mostBehind : GoodIn wsX10_by (wsV RX10 140 RX10 yX10_mostBehind wsX10_mostBehind) := goodIn_app (goodIn_of _ (by decide +kernel)) ggX10_by_X10_mostBehind
theorem dX10_by_0 : decode cX10_by 0 = .ok (.aload_n 0, 1) := by decide +kernel
theorem dX10_by_1 : decode cX10_by 1 = .ok (.iload_n 1, 1) := by decide +kernel
theorem dX10_by_2 : decode cX10_by 2 = .ok (.iload_n 2, 1) := by decide +kernel
theorem dX10_by_3 : decode cX10_by 3 = .ok (.invokevirtual 137, 3) := by decide +kernel
theorem dX10_by_6 : decode cX10_by 6 = .ok (.ifCond .eq 7, 3) := by decide +kernel
theorem dX10_by_9 : decode cX10_by 9 = .ok (.iconst 1, 1) := by decide +kernel
theorem dX10_by_10 : decode cX10_by 10 = .ok (.goto 11, 3) := by decide +kernel
theorem dX10_by_13 : decode cX10_by 13 = .ok (.aload_n 0, 1) := by decide +kernel
theorem dX10_by_14 : decode cX10_by 14 = .ok (.iload_n 1, 1) := by decide +kernel
theorem dX10_by_15 : decode cX10_by 15 = .ok (.iload_n 2, 1) := by decide +kernel
theorem dX10_by_16 : decode cX10_by 16 = .ok (.invokevirtual 140, 3) := by decide +kernel
theorem dX10_by_19 : decode cX10_by 19 = .ok (.iconst 1, 1) := by decide +kernel
theorem dX10_by_20 : decode cX10_by 20 = .ok (.iadd, 1) := by decide +kernel
theorem dX10_by_21 : decode cX10_by 21 = .ok (.istore_n 3, 1) := by decide +kernel
theorem dX10_by_22 : decode cX10_by 22 = .ok (.iload_n 3, 1) := by decide +kernel
theorem dX10_by_23 : decode cX10_by 23 = .ok (.ldc 133, 2) := by decide +kernel
theorem dX10_by_25 : decode cX10_by 25 = .ok (.if_icmp .le 8, 3) := by decide +kernel
theorem dX10_by_28 : decode cX10_by 28 = .ok (.ldc 133, 2) := by decide +kernel
theorem dX10_by_30 : decode cX10_by 30 = .ok (.goto 4, 3) := by decide +kernel
theorem dX10_by_33 : decode cX10_by 33 = .ok (.iload_n 3, 1) := by decide +kernel
theorem dX10_by_34 : decode cX10_by 34 = .ok (.ireturn, 1) := by decide +kernel
set_option maxRecDepth 20000 in
theorem ggX10_layRounds_X10_isTouched : GoodIn wsX10_layRounds wsX10_isTouched := goodIn_r _ [8, 9, 10, 11, 7, 12, 21, 22, 23, 24, 25, 26, 27, 28, 29, 30, 31, 32, 33, 34, 35, 36, 37, 38, 39, 40, 41, 42, 43, 44] (by decide +kernel) (by decide +kernel)
set_option maxRecDepth 20000 in
theorem gX10_layRounds_X10_isTouched : GoodIn wsX10_layRounds (wsV RX10 137 RX10 yX10_isTouched wsX10_isTouched) := goodIn_app (goodIn_of _ (by decide +kernel)) ggX10_layRounds_X10_isTouched
set_option maxRecDepth 20000 in
theorem ggX10_layRounds_X10_has : GoodIn wsX10_layRounds wsX10_has := goodIn_r _ [12] (by decide +kernel) (by decide +kernel)
set_option maxRecDepth 20000 in
theorem gX10_layRounds_X10_has : GoodIn wsX10_layRounds (va_wsS RX10 69 yX10_has wsX10_has) := goodIn_app (goodIn_of _ (by decide +kernel)) ggX10_layRounds_X10_has
set_option maxRecDepth 20000 in
theorem ggX10_layRounds_X10_by : GoodIn wsX10_layRounds wsX10_by := goodIn_r _ [16, 2, 4, 5, 6, 7, 8, 9, 10, 11, 12, 17, 18, 19, 20, 3, 1, 21, 22, 23, 24, 25, 26, 27, 28, 29, 30, 31, 32, 33, 34, 35, 36, 37, 38, 39, 40, 41, 42, 43, 44] (by decide +kernel) (by decide +kernel)
set_option maxRecDepth 20000 in
theorem gX10_layRounds_X10_by : GoodIn wsX10_layRounds (wsV RX10 143 RX10 yX10_by wsX10_by) := goodIn_app (goodIn_of _ (by decide +kernel)) ggX10_layRounds_X10_by
theorem dX10_layRounds_0 : decode cX10_layRounds 0 = .ok (.iconst 0, 1) := by decide +kernel
theorem dX10_layRounds_1 : decode cX10_layRounds 1 = .ok (.istore_n 1, 1) := by decide +kernel
theorem dX10_layRounds_2 : decode cX10_layRounds 2 = .ok (.iload_n 1, 1) := by decide +kernel
theorem dX10_layRounds_3 : decode cX10_layRounds 3 = .ok (.sipush 144, 3) := by decide +kernel
theorem dX10_layRounds_6 : decode cX10_layRounds 6 = .ok (.if_icmp .ge 36, 3) := by decide +kernel
theorem dX10_layRounds_9 : decode cX10_layRounds 9 = .ok (.aload_n 0, 1) := by decide +kernel
theorem dX10_layRounds_10 : decode cX10_layRounds 10 = .ok (.getfield 31, 3) := by decide +kernel
theorem dX10_layRounds_13 : decode cX10_layRounds 13 = .ok (.iload_n 1, 1) := by decide +kernel
theorem dX10_layRounds_14 : decode cX10_layRounds 14 = .ok (.aload_n 0, 1) := by decide +kernel
theorem dX10_layRounds_15 : decode cX10_layRounds 15 = .ok (.iload_n 1, 1) := by decide +kernel
theorem dX10_layRounds_16 : decode cX10_layRounds 16 = .ok (.bipush 12, 2) := by decide +kernel
theorem dX10_layRounds_18 : decode cX10_layRounds 18 = .ok (.idiv, 1) := by decide +kernel
theorem dX10_layRounds_19 : decode cX10_layRounds 19 = .ok (.iload_n 1, 1) := by decide +kernel
theorem dX10_layRounds_20 : decode cX10_layRounds 20 = .ok (.bipush 12, 2) := by decide +kernel
theorem dX10_layRounds_22 : decode cX10_layRounds 22 = .ok (.irem, 1) := by decide +kernel
theorem dX10_layRounds_23 : decode cX10_layRounds 23 = .ok (.invokevirtual 137, 3) := by decide +kernel
theorem dX10_layRounds_26 : decode cX10_layRounds 26 = .ok (.ifCond .eq 7, 3) := by decide +kernel
theorem dX10_layRounds_29 : decode cX10_layRounds 29 = .ok (.iconst 0, 1) := by decide +kernel
theorem dX10_layRounds_30 : decode cX10_layRounds 30 = .ok (.goto 5, 3) := by decide +kernel
theorem dX10_layRounds_33 : decode cX10_layRounds 33 = .ok (.ldc 133, 2) := by decide +kernel
theorem dX10_layRounds_35 : decode cX10_layRounds 35 = .ok (.iastore, 1) := by decide +kernel
theorem dX10_layRounds_36 : decode cX10_layRounds 36 = .ok (.iinc 1 1, 3) := by decide +kernel
theorem dX10_layRounds_39 : decode cX10_layRounds 39 = .ok (.goto (-37), 3) := by decide +kernel
theorem dX10_layRounds_42 : decode cX10_layRounds 42 = .ok (.iconst 1, 1) := by decide +kernel
theorem dX10_layRounds_43 : decode cX10_layRounds 43 = .ok (.istore_n 1, 1) := by decide +kernel
theorem dX10_layRounds_44 : decode cX10_layRounds 44 = .ok (.iload_n 1, 1) := by decide +kernel
theorem dX10_layRounds_45 : decode cX10_layRounds 45 = .ok (.ifCond .eq 149, 3) := by decide +kernel
theorem dX10_layRounds_48 : decode cX10_layRounds 48 = .ok (.iconst 0, 1) := by decide +kernel
theorem dX10_layRounds_49 : decode cX10_layRounds 49 = .ok (.istore_n 1, 1) := by decide +kernel
theorem dX10_layRounds_50 : decode cX10_layRounds 50 = .ok (.iconst 0, 1) := by decide +kernel
theorem dX10_layRounds_51 : decode cX10_layRounds 51 = .ok (.istore_n 2, 1) := by decide +kernel
theorem dX10_layRounds_52 : decode cX10_layRounds 52 = .ok (.iload_n 2, 1) := by decide +kernel
theorem dX10_layRounds_53 : decode cX10_layRounds 53 = .ok (.sipush 144, 3) := by decide +kernel
theorem dX10_layRounds_56 : decode cX10_layRounds 56 = .ok (.if_icmp .ge 135, 3) := by decide +kernel
theorem dX10_layRounds_59 : decode cX10_layRounds 59 = .ok (.aload_n 0, 1) := by decide +kernel
theorem dX10_layRounds_60 : decode cX10_layRounds 60 = .ok (.getfield 31, 3) := by decide +kernel
theorem dX10_layRounds_63 : decode cX10_layRounds 63 = .ok (.iload_n 2, 1) := by decide +kernel
theorem dX10_layRounds_64 : decode cX10_layRounds 64 = .ok (.iaload, 1) := by decide +kernel
theorem dX10_layRounds_65 : decode cX10_layRounds 65 = .ok (.ifCond .le 120, 3) := by decide +kernel
theorem dX10_layRounds_68 : decode cX10_layRounds 68 = .ok (.aload_n 0, 1) := by decide +kernel
theorem dX10_layRounds_69 : decode cX10_layRounds 69 = .ok (.getfield 31, 3) := by decide +kernel
theorem dX10_layRounds_72 : decode cX10_layRounds 72 = .ok (.iload_n 2, 1) := by decide +kernel
theorem dX10_layRounds_73 : decode cX10_layRounds 73 = .ok (.iaload, 1) := by decide +kernel
theorem dX10_layRounds_74 : decode cX10_layRounds 74 = .ok (.istore_n 3, 1) := by decide +kernel
theorem dX10_layRounds_75 : decode cX10_layRounds 75 = .ok (.iconst 0, 1) := by decide +kernel
theorem dX10_layRounds_76 : decode cX10_layRounds 76 = .ok (.istore 4, 2) := by decide +kernel
theorem dX10_layRounds_78 : decode cX10_layRounds 78 = .ok (.iload 4, 2) := by decide +kernel
theorem dX10_layRounds_80 : decode cX10_layRounds 80 = .ok (.bipush 12, 2) := by decide +kernel
theorem dX10_layRounds_82 : decode cX10_layRounds 82 = .ok (.if_icmp .ge 76, 3) := by decide +kernel
theorem dX10_layRounds_85 : decode cX10_layRounds 85 = .ok (.iload 4, 2) := by decide +kernel
theorem dX10_layRounds_87 : decode cX10_layRounds 87 = .ok (.iload_n 2, 1) := by decide +kernel
theorem dX10_layRounds_88 : decode cX10_layRounds 88 = .ok (.bipush 12, 2) := by decide +kernel
theorem dX10_layRounds_90 : decode cX10_layRounds 90 = .ok (.idiv, 1) := by decide +kernel
theorem dX10_layRounds_91 : decode cX10_layRounds 91 = .ok (.if_icmp .eq 20, 3) := by decide +kernel
theorem dX10_layRounds_94 : decode cX10_layRounds 94 = .ok (.aload_n 0, 1) := by decide +kernel
theorem dX10_layRounds_95 : decode cX10_layRounds 95 = .ok (.getfield 7, 3) := by decide +kernel
theorem dX10_layRounds_98 : decode cX10_layRounds 98 = .ok (.iload_n 2, 1) := by decide +kernel
theorem dX10_layRounds_99 : decode cX10_layRounds 99 = .ok (.bipush 12, 2) := by decide +kernel
theorem dX10_layRounds_101 : decode cX10_layRounds 101 = .ok (.idiv, 1) := by decide +kernel
theorem dX10_layRounds_102 : decode cX10_layRounds 102 = .ok (.iaload, 1) := by decide +kernel
theorem dX10_layRounds_103 : decode cX10_layRounds 103 = .ok (.iload 4, 2) := by decide +kernel
theorem dX10_layRounds_105 : decode cX10_layRounds 105 = .ok (.invokestatic 69, 3) := by decide +kernel
theorem dX10_layRounds_108 : decode cX10_layRounds 108 = .ok (.ifCond .eq 7, 3) := by decide +kernel
theorem dX10_layRounds_111 : decode cX10_layRounds 111 = .ok (.iconst 1, 1) := by decide +kernel
theorem dX10_layRounds_112 : decode cX10_layRounds 112 = .ok (.goto 4, 3) := by decide +kernel
theorem dX10_layRounds_115 : decode cX10_layRounds 115 = .ok (.iconst 0, 1) := by decide +kernel
theorem dX10_layRounds_116 : decode cX10_layRounds 116 = .ok (.istore 5, 2) := by decide +kernel
theorem dX10_layRounds_118 : decode cX10_layRounds 118 = .ok (.iload 5, 2) := by decide +kernel
theorem dX10_layRounds_120 : decode cX10_layRounds 120 = .ok (.ifCond .eq 30, 3) := by decide +kernel
theorem dX10_layRounds_123 : decode cX10_layRounds 123 = .ok (.aload_n 0, 1) := by decide +kernel
theorem dX10_layRounds_124 : decode cX10_layRounds 124 = .ok (.iload 4, 2) := by decide +kernel
theorem dX10_layRounds_126 : decode cX10_layRounds 126 = .ok (.iload_n 2, 1) := by decide +kernel
theorem dX10_layRounds_127 : decode cX10_layRounds 127 = .ok (.bipush 12, 2) := by decide +kernel
theorem dX10_layRounds_129 : decode cX10_layRounds 129 = .ok (.irem, 1) := by decide +kernel
theorem dX10_layRounds_130 : decode cX10_layRounds 130 = .ok (.invokevirtual 143, 3) := by decide +kernel
theorem dX10_layRounds_133 : decode cX10_layRounds 133 = .ok (.iload_n 3, 1) := by decide +kernel
theorem dX10_layRounds_134 : decode cX10_layRounds 134 = .ok (.if_icmp .ge 16, 3) := by decide +kernel
theorem dX10_layRounds_137 : decode cX10_layRounds 137 = .ok (.aload_n 0, 1) := by decide +kernel
theorem dX10_layRounds_138 : decode cX10_layRounds 138 = .ok (.iload 4, 2) := by decide +kernel
theorem dX10_layRounds_140 : decode cX10_layRounds 140 = .ok (.iload_n 2, 1) := by decide +kernel
theorem dX10_layRounds_141 : decode cX10_layRounds 141 = .ok (.bipush 12, 2) := by decide +kernel
theorem dX10_layRounds_143 : decode cX10_layRounds 143 = .ok (.irem, 1) := by decide +kernel
theorem dX10_layRounds_144 : decode cX10_layRounds 144 = .ok (.invokevirtual 143, 3) := by decide +kernel
theorem dX10_layRounds_147 : decode cX10_layRounds 147 = .ok (.goto 4, 3) := by decide +kernel
theorem dX10_layRounds_150 : decode cX10_layRounds 150 = .ok (.iload_n 3, 1) := by decide +kernel
theorem dX10_layRounds_151 : decode cX10_layRounds 151 = .ok (.istore_n 3, 1) := by decide +kernel
theorem dX10_layRounds_152 : decode cX10_layRounds 152 = .ok (.iinc 4 1, 3) := by decide +kernel
theorem dX10_layRounds_155 : decode cX10_layRounds 155 = .ok (.goto (-77), 3) := by decide +kernel
theorem dX10_layRounds_158 : decode cX10_layRounds 158 = .ok (.iload_n 1, 1) := by decide +kernel
theorem dX10_layRounds_159 : decode cX10_layRounds 159 = .ok (.ifCond .ne 13, 3) := by decide +kernel
theorem dX10_layRounds_162 : decode cX10_layRounds 162 = .ok (.iload_n 3, 1) := by decide +kernel
theorem dX10_layRounds_163 : decode cX10_layRounds 163 = .ok (.aload_n 0, 1) := by decide +kernel
theorem dX10_layRounds_164 : decode cX10_layRounds 164 = .ok (.getfield 31, 3) := by decide +kernel
theorem dX10_layRounds_167 : decode cX10_layRounds 167 = .ok (.iload_n 2, 1) := by decide +kernel
theorem dX10_layRounds_168 : decode cX10_layRounds 168 = .ok (.iaload, 1) := by decide +kernel
theorem dX10_layRounds_169 : decode cX10_layRounds 169 = .ok (.if_icmp .ge 7, 3) := by decide +kernel
theorem dX10_layRounds_172 : decode cX10_layRounds 172 = .ok (.iconst 1, 1) := by decide +kernel
theorem dX10_layRounds_173 : decode cX10_layRounds 173 = .ok (.goto 4, 3) := by decide +kernel
theorem dX10_layRounds_176 : decode cX10_layRounds 176 = .ok (.iconst 0, 1) := by decide +kernel
theorem dX10_layRounds_177 : decode cX10_layRounds 177 = .ok (.istore_n 1, 1) := by decide +kernel
theorem dX10_layRounds_178 : decode cX10_layRounds 178 = .ok (.aload_n 0, 1) := by decide +kernel
theorem dX10_layRounds_179 : decode cX10_layRounds 179 = .ok (.getfield 31, 3) := by decide +kernel
theorem dX10_layRounds_182 : decode cX10_layRounds 182 = .ok (.iload_n 2, 1) := by decide +kernel
theorem dX10_layRounds_183 : decode cX10_layRounds 183 = .ok (.iload_n 3, 1) := by decide +kernel
theorem dX10_layRounds_184 : decode cX10_layRounds 184 = .ok (.iastore, 1) := by decide +kernel
theorem dX10_layRounds_185 : decode cX10_layRounds 185 = .ok (.iinc 2 1, 3) := by decide +kernel
theorem dX10_layRounds_188 : decode cX10_layRounds 188 = .ok (.goto (-136), 3) := by decide +kernel
theorem dX10_layRounds_191 : decode cX10_layRounds 191 = .ok (.goto (-147), 3) := by decide +kernel
theorem dX10_layRounds_194 : decode cX10_layRounds 194 = .ok (.return_, 1) := by decide +kernel
set_option maxRecDepth 20000 in
theorem ggX10_rounds_X10_isPlace : GoodIn wsX10_rounds wsX10_isPlace := goodIn_r _ [6, 7, 8, 5, 9] (by decide +kernel) (by decide +kernel)
set_option maxRecDepth 20000 in
theorem gX10_rounds_X10_isPlace : GoodIn wsX10_rounds (va_wsS RX10 73 yX10_isPlace wsX10_isPlace) := goodIn_app (goodIn_of _ (by decide +kernel)) ggX10_rounds_X10_isPlace
set_option maxRecDepth 20000 in
theorem ggX10_rounds_X10_layRounds : GoodIn wsX10_rounds wsX10_layRounds := goodIn_r _ [13, 1, 2, 14, 15, 16, 17, 5, 18, 19, 20, 21, 22, 23, 24, 25, 26, 27, 28, 29, 30, 31, 32, 33, 34, 35, 36, 37, 38, 39, 40, 41, 42, 43, 44, 45, 46, 47, 48, 49, 50, 51, 52, 53, 54] (by decide +kernel) (by decide +kernel)
set_option maxRecDepth 20000 in
theorem gX10_rounds_X10_layRounds : GoodIn wsX10_rounds (wsV RX10 146 RX10 yX10_layRounds wsX10_layRounds) := goodIn_app (goodIn_of _ (by decide +kernel)) ggX10_rounds_X10_layRounds
theorem dX10_rounds_0 : decode cX10_rounds 0 = .ok (.iload_n 1, 1) := by decide +kernel
theorem dX10_rounds_1 : decode cX10_rounds 1 = .ok (.invokestatic 73, 3) := by decide +kernel
theorem dX10_rounds_4 : decode cX10_rounds 4 = .ok (.ifCond .eq 10, 3) := by decide +kernel
theorem dX10_rounds_7 : decode cX10_rounds 7 = .ok (.iload_n 2, 1) := by decide +kernel
theorem dX10_rounds_8 : decode cX10_rounds 8 = .ok (.invokestatic 73, 3) := by decide +kernel
theorem dX10_rounds_11 : decode cX10_rounds 11 = .ok (.ifCond .ne 5, 3) := by decide +kernel
theorem dX10_rounds_14 : decode cX10_rounds 14 = .ok (.iconst (-1), 1) := by decide +kernel
theorem dX10_rounds_15 : decode cX10_rounds 15 = .ok (.ireturn, 1) := by decide +kernel
theorem dX10_rounds_16 : decode cX10_rounds 16 = .ok (.aload_n 0, 1) := by decide +kernel
theorem dX10_rounds_17 : decode cX10_rounds 17 = .ok (.invokevirtual 146, 3) := by decide +kernel
theorem dX10_rounds_20 : decode cX10_rounds 20 = .ok (.aload_n 0, 1) := by decide +kernel
theorem dX10_rounds_21 : decode cX10_rounds 21 = .ok (.getfield 31, 3) := by decide +kernel
theorem dX10_rounds_24 : decode cX10_rounds 24 = .ok (.bipush 12, 2) := by decide +kernel
theorem dX10_rounds_26 : decode cX10_rounds 26 = .ok (.iload_n 1, 1) := by decide +kernel
theorem dX10_rounds_27 : decode cX10_rounds 27 = .ok (.imul, 1) := by decide +kernel
theorem dX10_rounds_28 : decode cX10_rounds 28 = .ok (.iload_n 2, 1) := by decide +kernel
theorem dX10_rounds_29 : decode cX10_rounds 29 = .ok (.iadd, 1) := by decide +kernel
theorem dX10_rounds_30 : decode cX10_rounds 30 = .ok (.iaload, 1) := by decide +kernel
theorem dX10_rounds_31 : decode cX10_rounds 31 = .ok (.istore_n 3, 1) := by decide +kernel
theorem dX10_rounds_32 : decode cX10_rounds 32 = .ok (.iload_n 3, 1) := by decide +kernel
theorem dX10_rounds_33 : decode cX10_rounds 33 = .ok (.ldc 133, 2) := by decide +kernel
theorem dX10_rounds_35 : decode cX10_rounds 35 = .ok (.if_icmp .lt 8, 3) := by decide +kernel
theorem dX10_rounds_38 : decode cX10_rounds 38 = .ok (.bipush (-6), 2) := by decide +kernel
theorem dX10_rounds_40 : decode cX10_rounds 40 = .ok (.goto 4, 3) := by decide +kernel
theorem dX10_rounds_43 : decode cX10_rounds 43 = .ok (.iload_n 3, 1) := by decide +kernel
theorem dX10_rounds_44 : decode cX10_rounds 44 = .ok (.ireturn, 1) := by decide +kernel
set_option maxRecDepth 20000 in
theorem ggX10_heads_X10_isPlace : GoodIn wsX10_heads wsX10_isPlace := goodIn_r _ [7, 8, 9, 6, 10] (by decide +kernel) (by decide +kernel)
set_option maxRecDepth 20000 in
theorem gX10_heads_X10_isPlace : GoodIn wsX10_heads (va_wsS RX10 73 yX10_isPlace wsX10_isPlace) := goodIn_app (goodIn_of _ (by decide +kernel)) ggX10_heads_X10_isPlace
set_option maxRecDepth 20000 in
theorem ggX10_heads_X10_layRounds : GoodIn wsX10_heads wsX10_layRounds := goodIn_r _ [14, 1, 2, 3, 15, 16, 17, 6, 18, 19, 20, 21, 22, 23, 24, 25, 26, 27, 28, 29, 30, 31, 32, 33, 34, 35, 36, 37, 38, 39, 40, 41, 42, 43, 44, 45, 46, 47, 48, 49, 50, 51, 52, 53, 54] (by decide +kernel) (by decide +kernel)
set_option maxRecDepth 20000 in
theorem gX10_heads_X10_layRounds : GoodIn wsX10_heads (wsV RX10 146 RX10 yX10_layRounds wsX10_layRounds) := goodIn_app (goodIn_of _ (by decide +kernel)) ggX10_heads_X10_layRounds
set_option maxRecDepth 20000 in
theorem ggX10_heads_X10_has : GoodIn wsX10_heads wsX10_has := goodIn_r _ [22] (by decide +kernel) (by decide +kernel)
set_option maxRecDepth 20000 in
theorem gX10_heads_X10_has : GoodIn wsX10_heads (va_wsS RX10 69 yX10_has wsX10_has) := goodIn_app (goodIn_of _ (by decide +kernel)) ggX10_heads_X10_has
set_option maxRecDepth 20000 in
theorem ggX10_heads_X10_by : GoodIn wsX10_heads wsX10_by := goodIn_r _ [26, 2, 15, 16, 17, 6, 18, 19, 20, 21, 22, 27, 28, 29, 30, 3, 1, 31, 32, 33, 34, 35, 36, 37, 38, 39, 40, 41, 42, 43, 44, 45, 46, 47, 48, 49, 50, 51, 52, 53, 54] (by decide +kernel) (by decide +kernel)
set_option maxRecDepth 20000 in
theorem gX10_heads_X10_by : GoodIn wsX10_heads (wsV RX10 143 RX10 yX10_by wsX10_by) := goodIn_app (goodIn_of _ (by decide +kernel)) ggX10_heads_X10_by
theorem dX10_heads_0 : decode cX10_heads 0 = .ok (.iload_n 1, 1) := by decide +kernel
theorem dX10_heads_1 : decode cX10_heads 1 = .ok (.invokestatic 73, 3) := by decide +kernel
theorem dX10_heads_4 : decode cX10_heads 4 = .ok (.ifCond .eq 10, 3) := by decide +kernel
theorem dX10_heads_7 : decode cX10_heads 7 = .ok (.iload_n 2, 1) := by decide +kernel
theorem dX10_heads_8 : decode cX10_heads 8 = .ok (.invokestatic 73, 3) := by decide +kernel
theorem dX10_heads_11 : decode cX10_heads 11 = .ok (.ifCond .ne 5, 3) := by decide +kernel
theorem dX10_heads_14 : decode cX10_heads 14 = .ok (.iconst (-1), 1) := by decide +kernel
theorem dX10_heads_15 : decode cX10_heads 15 = .ok (.ireturn, 1) := by decide +kernel
theorem dX10_heads_16 : decode cX10_heads 16 = .ok (.aload_n 0, 1) := by decide +kernel
theorem dX10_heads_17 : decode cX10_heads 17 = .ok (.invokevirtual 146, 3) := by decide +kernel
theorem dX10_heads_20 : decode cX10_heads 20 = .ok (.aload_n 0, 1) := by decide +kernel
theorem dX10_heads_21 : decode cX10_heads 21 = .ok (.getfield 31, 3) := by decide +kernel
theorem dX10_heads_24 : decode cX10_heads 24 = .ok (.bipush 12, 2) := by decide +kernel
theorem dX10_heads_26 : decode cX10_heads 26 = .ok (.iload_n 1, 1) := by decide +kernel
theorem dX10_heads_27 : decode cX10_heads 27 = .ok (.imul, 1) := by decide +kernel
theorem dX10_heads_28 : decode cX10_heads 28 = .ok (.iload_n 2, 1) := by decide +kernel
theorem dX10_heads_29 : decode cX10_heads 29 = .ok (.iadd, 1) := by decide +kernel
theorem dX10_heads_30 : decode cX10_heads 30 = .ok (.iaload, 1) := by decide +kernel
theorem dX10_heads_31 : decode cX10_heads 31 = .ok (.istore_n 3, 1) := by decide +kernel
theorem dX10_heads_32 : decode cX10_heads 32 = .ok (.bipush (-6), 2) := by decide +kernel
theorem dX10_heads_34 : decode cX10_heads 34 = .ok (.istore 4, 2) := by decide +kernel
theorem dX10_heads_36 : decode cX10_heads 36 = .ok (.bipush 11, 2) := by decide +kernel
theorem dX10_heads_38 : decode cX10_heads 38 = .ok (.istore 5, 2) := by decide +kernel
theorem dX10_heads_40 : decode cX10_heads 40 = .ok (.iload 5, 2) := by decide +kernel
theorem dX10_heads_42 : decode cX10_heads 42 = .ok (.ifCond .lt 71, 3) := by decide +kernel
theorem dX10_heads_45 : decode cX10_heads 45 = .ok (.iload_n 3, 1) := by decide +kernel
theorem dX10_heads_46 : decode cX10_heads 46 = .ok (.ifCond .le 67, 3) := by decide +kernel
theorem dX10_heads_49 : decode cX10_heads 49 = .ok (.iload_n 3, 1) := by decide +kernel
theorem dX10_heads_50 : decode cX10_heads 50 = .ok (.ldc 133, 2) := by decide +kernel
theorem dX10_heads_52 : decode cX10_heads 52 = .ok (.if_icmp .ge 61, 3) := by decide +kernel
theorem dX10_heads_55 : decode cX10_heads 55 = .ok (.iload 5, 2) := by decide +kernel
theorem dX10_heads_57 : decode cX10_heads 57 = .ok (.iload_n 1, 1) := by decide +kernel
theorem dX10_heads_58 : decode cX10_heads 58 = .ok (.if_icmp .eq 17, 3) := by decide +kernel
theorem dX10_heads_61 : decode cX10_heads 61 = .ok (.aload_n 0, 1) := by decide +kernel
theorem dX10_heads_62 : decode cX10_heads 62 = .ok (.getfield 7, 3) := by decide +kernel
theorem dX10_heads_65 : decode cX10_heads 65 = .ok (.iload_n 1, 1) := by decide +kernel
theorem dX10_heads_66 : decode cX10_heads 66 = .ok (.iaload, 1) := by decide +kernel
theorem dX10_heads_67 : decode cX10_heads 67 = .ok (.iload 5, 2) := by decide +kernel
theorem dX10_heads_69 : decode cX10_heads 69 = .ok (.invokestatic 69, 3) := by decide +kernel
theorem dX10_heads_72 : decode cX10_heads 72 = .ok (.ifCond .eq 7, 3) := by decide +kernel
theorem dX10_heads_75 : decode cX10_heads 75 = .ok (.iconst 1, 1) := by decide +kernel
theorem dX10_heads_76 : decode cX10_heads 76 = .ok (.goto 4, 3) := by decide +kernel
theorem dX10_heads_79 : decode cX10_heads 79 = .ok (.iconst 0, 1) := by decide +kernel
theorem dX10_heads_80 : decode cX10_heads 80 = .ok (.istore 6, 2) := by decide +kernel
theorem dX10_heads_82 : decode cX10_heads 82 = .ok (.iload 6, 2) := by decide +kernel
theorem dX10_heads_84 : decode cX10_heads 84 = .ok (.ifCond .eq 19, 3) := by decide +kernel
theorem dX10_heads_87 : decode cX10_heads 87 = .ok (.aload_n 0, 1) := by decide +kernel
theorem dX10_heads_88 : decode cX10_heads 88 = .ok (.iload 5, 2) := by decide +kernel
theorem dX10_heads_90 : decode cX10_heads 90 = .ok (.iload_n 2, 1) := by decide +kernel
theorem dX10_heads_91 : decode cX10_heads 91 = .ok (.invokevirtual 143, 3) := by decide +kernel
theorem dX10_heads_94 : decode cX10_heads 94 = .ok (.iload_n 3, 1) := by decide +kernel
theorem dX10_heads_95 : decode cX10_heads 95 = .ok (.if_icmp .ne 8, 3) := by decide +kernel
theorem dX10_heads_98 : decode cX10_heads 98 = .ok (.iload 5, 2) := by decide +kernel
theorem dX10_heads_100 : decode cX10_heads 100 = .ok (.goto 5, 3) := by decide +kernel
theorem dX10_heads_103 : decode cX10_heads 103 = .ok (.iload 4, 2) := by decide +kernel
theorem dX10_heads_105 : decode cX10_heads 105 = .ok (.istore 4, 2) := by decide +kernel
theorem dX10_heads_107 : decode cX10_heads 107 = .ok (.iinc 5 (-1), 3) := by decide +kernel
theorem dX10_heads_110 : decode cX10_heads 110 = .ok (.goto (-70), 3) := by decide +kernel
theorem dX10_heads_113 : decode cX10_heads 113 = .ok (.iload 4, 2) := by decide +kernel
theorem dX10_heads_115 : decode cX10_heads 115 = .ok (.ireturn, 1) := by decide +kernel
set_option maxRecDepth 20000 in
theorem ggX10_flees_X10_isPlace : GoodIn wsX10_flees wsX10_isPlace := goodIn_r _ [6, 7, 8, 5, 9] (by decide +kernel) (by decide +kernel)
set_option maxRecDepth 20000 in
theorem gX10_flees_X10_isPlace : GoodIn wsX10_flees (va_wsS RX10 73 yX10_isPlace wsX10_isPlace) := goodIn_app (goodIn_of _ (by decide +kernel)) ggX10_flees_X10_isPlace
set_option maxRecDepth 20000 in
theorem ggX10_flees_X10_isTouched : GoodIn wsX10_flees wsX10_isTouched := goodIn_r _ [13, 14, 15, 16, 5, 17, 31, 32, 33, 34, 35, 36, 37, 38, 39, 40, 41, 42, 43, 44, 45, 46, 47, 48, 49, 50, 51, 52, 53, 54] (by decide +kernel) (by decide +kernel)
set_option maxRecDepth 20000 in
theorem gX10_flees_X10_isTouched : GoodIn wsX10_flees (wsV RX10 137 RX10 yX10_isTouched wsX10_isTouched) := goodIn_app (goodIn_of _ (by decide +kernel)) ggX10_flees_X10_isTouched
set_option maxRecDepth 20000 in
theorem ggX10_flees_X10_layRounds : GoodIn wsX10_flees wsX10_layRounds := goodIn_r _ [21, 2, 22, 1, 10, 11, 12, 5, 13, 14, 15, 16, 17, 23, 24, 25, 26, 27, 28, 29, 30, 31, 32, 33, 34, 35, 36, 37, 38, 39, 40, 41, 42, 43, 44, 45, 46, 47, 48, 49, 50, 51, 52, 53, 54] (by decide +kernel) (by decide +kernel)
set_option maxRecDepth 20000 in
theorem gX10_flees_X10_layRounds : GoodIn wsX10_flees (wsV RX10 146 RX10 yX10_layRounds wsX10_layRounds) := goodIn_app (goodIn_of _ (by decide +kernel)) ggX10_flees_X10_layRounds
set_option maxRecDepth 20000 in
theorem ggX10_flees_X10_mostBehind : GoodIn wsX10_flees wsX10_mostBehind := goodIn_r _ [30, 1, 2, 15, 16, 5, 17, 31, 32, 33, 34, 35, 36, 37, 38, 39, 40, 41, 42, 43, 44, 45, 46, 47, 48, 49, 50, 51, 52, 53, 54] (by decide +kernel) (by decide +kernel)
set_option maxRecDepth 20000 in
theorem gX10_flees_X10_mostBehind : GoodIn wsX10_flees (wsV RX10 140 RX10 yX10_mostBehind wsX10_mostBehind) := goodIn_app (goodIn_of _ (by decide +kernel)) ggX10_flees_X10_mostBehind
set_option maxRecDepth 20000 in
theorem ggX10_flees_X10_has : GoodIn wsX10_flees wsX10_has := goodIn_r _ [17] (by decide +kernel) (by decide +kernel)
set_option maxRecDepth 20000 in
theorem gX10_flees_X10_has : GoodIn wsX10_flees (va_wsS RX10 69 yX10_has wsX10_has) := goodIn_app (goodIn_of _ (by decide +kernel)) ggX10_flees_X10_has
theorem dX10_flees_0 : decode cX10_flees 0 = .ok (.iload_n 1, 1) := by decide +kernel
theorem dX10_flees_1 : decode cX10_flees 1 = .ok (.invokestatic 73, 3) := by decide +kernel
theorem dX10_flees_4 : decode cX10_flees 4 = .ok (.ifCond .eq 10, 3) := by decide +kernel
theorem dX10_flees_7 : decode cX10_flees 7 = .ok (.iload_n 2, 1) := by decide +kernel
theorem dX10_flees_8 : decode cX10_flees 8 = .ok (.invokestatic 73, 3) := by decide +kernel
theorem dX10_flees_11 : decode cX10_flees 11 = .ok (.ifCond .ne 5, 3) := by decide +kernel
theorem dX10_flees_14 : decode cX10_flees 14 = .ok (.iconst (-1), 1) := by decide +kernel
theorem dX10_flees_15 : decode cX10_flees 15 = .ok (.ireturn, 1) := by decide +kernel
theorem dX10_flees_16 : decode cX10_flees 16 = .ok (.aload_n 0, 1) := by decide +kernel
theorem dX10_flees_17 : decode cX10_flees 17 = .ok (.iload_n 1, 1) := by decide +kernel
theorem dX10_flees_18 : decode cX10_flees 18 = .ok (.iload_n 2, 1) := by decide +kernel
theorem dX10_flees_19 : decode cX10_flees 19 = .ok (.invokevirtual 137, 3) := by decide +kernel
theorem dX10_flees_22 : decode cX10_flees 22 = .ok (.ifCond .eq 6, 3) := by decide +kernel
theorem dX10_flees_25 : decode cX10_flees 25 = .ok (.bipush (-6), 2) := by decide +kernel
theorem dX10_flees_27 : decode cX10_flees 27 = .ok (.ireturn, 1) := by decide +kernel
theorem dX10_flees_28 : decode cX10_flees 28 = .ok (.aload_n 0, 1) := by decide +kernel
theorem dX10_flees_29 : decode cX10_flees 29 = .ok (.invokevirtual 146, 3) := by decide +kernel
theorem dX10_flees_32 : decode cX10_flees 32 = .ok (.aload_n 0, 1) := by decide +kernel
theorem dX10_flees_33 : decode cX10_flees 33 = .ok (.iload_n 1, 1) := by decide +kernel
theorem dX10_flees_34 : decode cX10_flees 34 = .ok (.iload_n 2, 1) := by decide +kernel
theorem dX10_flees_35 : decode cX10_flees 35 = .ok (.invokevirtual 140, 3) := by decide +kernel
theorem dX10_flees_38 : decode cX10_flees 38 = .ok (.istore_n 3, 1) := by decide +kernel
theorem dX10_flees_39 : decode cX10_flees 39 = .ok (.bipush (-6), 2) := by decide +kernel
theorem dX10_flees_41 : decode cX10_flees 41 = .ok (.istore 4, 2) := by decide +kernel
theorem dX10_flees_43 : decode cX10_flees 43 = .ok (.bipush 11, 2) := by decide +kernel
theorem dX10_flees_45 : decode cX10_flees 45 = .ok (.istore 5, 2) := by decide +kernel
theorem dX10_flees_47 : decode cX10_flees 47 = .ok (.iload 5, 2) := by decide +kernel
theorem dX10_flees_49 : decode cX10_flees 49 = .ok (.ifCond .lt 66, 3) := by decide +kernel
theorem dX10_flees_52 : decode cX10_flees 52 = .ok (.iload 5, 2) := by decide +kernel
theorem dX10_flees_54 : decode cX10_flees 54 = .ok (.iload_n 2, 1) := by decide +kernel
theorem dX10_flees_55 : decode cX10_flees 55 = .ok (.if_icmp .eq 17, 3) := by decide +kernel
theorem dX10_flees_58 : decode cX10_flees 58 = .ok (.aload_n 0, 1) := by decide +kernel
theorem dX10_flees_59 : decode cX10_flees 59 = .ok (.getfield 7, 3) := by decide +kernel
theorem dX10_flees_62 : decode cX10_flees 62 = .ok (.iload_n 2, 1) := by decide +kernel
theorem dX10_flees_63 : decode cX10_flees 63 = .ok (.iaload, 1) := by decide +kernel
theorem dX10_flees_64 : decode cX10_flees 64 = .ok (.iload 5, 2) := by decide +kernel
theorem dX10_flees_66 : decode cX10_flees 66 = .ok (.invokestatic 69, 3) := by decide +kernel
theorem dX10_flees_69 : decode cX10_flees 69 = .ok (.ifCond .eq 7, 3) := by decide +kernel
theorem dX10_flees_72 : decode cX10_flees 72 = .ok (.iconst 1, 1) := by decide +kernel
theorem dX10_flees_73 : decode cX10_flees 73 = .ok (.goto 4, 3) := by decide +kernel
theorem dX10_flees_76 : decode cX10_flees 76 = .ok (.iconst 0, 1) := by decide +kernel
theorem dX10_flees_77 : decode cX10_flees 77 = .ok (.istore 6, 2) := by decide +kernel
theorem dX10_flees_79 : decode cX10_flees 79 = .ok (.iload 6, 2) := by decide +kernel
theorem dX10_flees_81 : decode cX10_flees 81 = .ok (.ifCond .eq 24, 3) := by decide +kernel
theorem dX10_flees_84 : decode cX10_flees 84 = .ok (.aload_n 0, 1) := by decide +kernel
theorem dX10_flees_85 : decode cX10_flees 85 = .ok (.getfield 31, 3) := by decide +kernel
theorem dX10_flees_88 : decode cX10_flees 88 = .ok (.bipush 12, 2) := by decide +kernel
theorem dX10_flees_90 : decode cX10_flees 90 = .ok (.iload_n 1, 1) := by decide +kernel
theorem dX10_flees_91 : decode cX10_flees 91 = .ok (.imul, 1) := by decide +kernel
theorem dX10_flees_92 : decode cX10_flees 92 = .ok (.iload 5, 2) := by decide +kernel
theorem dX10_flees_94 : decode cX10_flees 94 = .ok (.iadd, 1) := by decide +kernel
theorem dX10_flees_95 : decode cX10_flees 95 = .ok (.iaload, 1) := by decide +kernel
theorem dX10_flees_96 : decode cX10_flees 96 = .ok (.iload_n 3, 1) := by decide +kernel
theorem dX10_flees_97 : decode cX10_flees 97 = .ok (.if_icmp .ne 8, 3) := by decide +kernel
theorem dX10_flees_100 : decode cX10_flees 100 = .ok (.iload 5, 2) := by decide +kernel
theorem dX10_flees_102 : decode cX10_flees 102 = .ok (.goto 5, 3) := by decide +kernel
theorem dX10_flees_105 : decode cX10_flees 105 = .ok (.iload 4, 2) := by decide +kernel
theorem dX10_flees_107 : decode cX10_flees 107 = .ok (.istore 4, 2) := by decide +kernel
theorem dX10_flees_109 : decode cX10_flees 109 = .ok (.iinc 5 (-1), 3) := by decide +kernel
theorem dX10_flees_112 : decode cX10_flees 112 = .ok (.goto (-65), 3) := by decide +kernel
theorem dX10_flees_115 : decode cX10_flees 115 = .ok (.iload 4, 2) := by decide +kernel
theorem dX10_flees_117 : decode cX10_flees 117 = .ok (.ireturn, 1) := by decide +kernel
set_option maxRecDepth 20000 in
theorem ggX10_shade_X10_in : GoodIn wsX10_shade wsX10_in := goodIn_r _ [5] (by decide +kernel) (by decide +kernel)
set_option maxRecDepth 20000 in
theorem gX10_shade_X10_in : GoodIn wsX10_shade (va_wsS RX10 57 yX10_in wsX10_in) := goodIn_app (goodIn_of _ (by decide +kernel)) ggX10_shade_X10_in
set_option maxRecDepth 20000 in
theorem ggX10_shade_X10_layFar : GoodIn wsX10_shade wsX10_layFar := goodIn_r _ [9, 1, 10, 11, 12, 13, 4, 14, 18, 19, 20, 21, 22, 23, 24, 25, 26, 27, 28, 29, 30, 31, 32, 33, 34, 35, 36, 37, 38, 39, 40, 41] (by decide +kernel) (by decide +kernel)
set_option maxRecDepth 20000 in
theorem gX10_shade_X10_layFar : GoodIn wsX10_shade (wsV RX10 134 RX10 yX10_layFar wsX10_layFar) := goodIn_app (goodIn_of _ (by decide +kernel)) ggX10_shade_X10_layFar
set_option maxRecDepth 20000 in
theorem ggX10_shade_X10_bits : GoodIn wsX10_shade wsX10_bits := goodIn_r _ [17] (by decide +kernel) (by decide +kernel)
set_option maxRecDepth 20000 in
theorem gX10_shade_X10_bits : GoodIn wsX10_shade (va_wsS RX10 76 yX10_bits wsX10_bits) := goodIn_app (goodIn_of _ (by decide +kernel)) ggX10_shade_X10_bits
set_option maxRecDepth 20000 in
theorem ggX10_shade_X10_has : GoodIn wsX10_shade wsX10_has := goodIn_r _ [14] (by decide +kernel) (by decide +kernel)
set_option maxRecDepth 20000 in
theorem gX10_shade_X10_has : GoodIn wsX10_shade (va_wsS RX10 69 yX10_has wsX10_has) := goodIn_app (goodIn_of _ (by decide +kernel)) ggX10_shade_X10_has
theorem dX10_shade_0 : decode cX10_shade 0 = .ok (.iload_n 1, 1) := by decide +kernel
theorem dX10_shade_1 : decode cX10_shade 1 = .ok (.iconst 0, 1) := by decide +kernel
theorem dX10_shade_2 : decode cX10_shade 2 = .ok (.bipush 11, 2) := by decide +kernel
theorem dX10_shade_4 : decode cX10_shade 4 = .ok (.invokestatic 57, 3) := by decide +kernel
theorem dX10_shade_7 : decode cX10_shade 7 = .ok (.ifCond .eq 12, 3) := by decide +kernel
theorem dX10_shade_10 : decode cX10_shade 10 = .ok (.iload_n 2, 1) := by decide +kernel
theorem dX10_shade_11 : decode cX10_shade 11 = .ok (.iconst 0, 1) := by decide +kernel
theorem dX10_shade_12 : decode cX10_shade 12 = .ok (.iconst 1, 1) := by decide +kernel
theorem dX10_shade_13 : decode cX10_shade 13 = .ok (.invokestatic 57, 3) := by decide +kernel
theorem dX10_shade_16 : decode cX10_shade 16 = .ok (.ifCond .ne 6, 3) := by decide +kernel
theorem dX10_shade_19 : decode cX10_shade 19 = .ok (.bipush (-2), 2) := by decide +kernel
theorem dX10_shade_21 : decode cX10_shade 21 = .ok (.ireturn, 1) := by decide +kernel
theorem dX10_shade_22 : decode cX10_shade 22 = .ok (.aload_n 0, 1) := by decide +kernel
theorem dX10_shade_23 : decode cX10_shade 23 = .ok (.invokevirtual 134, 3) := by decide +kernel
theorem dX10_shade_26 : decode cX10_shade 26 = .ok (.sipush 4095, 3) := by decide +kernel
theorem dX10_shade_29 : decode cX10_shade 29 = .ok (.istore_n 3, 1) := by decide +kernel
theorem dX10_shade_30 : decode cX10_shade 30 = .ok (.iconst 0, 1) := by decide +kernel
theorem dX10_shade_31 : decode cX10_shade 31 = .ok (.istore 4, 2) := by decide +kernel
theorem dX10_shade_33 : decode cX10_shade 33 = .ok (.iload 4, 2) := by decide +kernel
theorem dX10_shade_35 : decode cX10_shade 35 = .ok (.sipush 4096, 3) := by decide +kernel
theorem dX10_shade_38 : decode cX10_shade 38 = .ok (.if_icmp .ge 123, 3) := by decide +kernel
theorem dX10_shade_41 : decode cX10_shade 41 = .ok (.iload 4, 2) := by decide +kernel
theorem dX10_shade_43 : decode cX10_shade 43 = .ok (.invokestatic 76, 3) := by decide +kernel
theorem dX10_shade_46 : decode cX10_shade 46 = .ok (.iload_n 3, 1) := by decide +kernel
theorem dX10_shade_47 : decode cX10_shade 47 = .ok (.invokestatic 76, 3) := by decide +kernel
theorem dX10_shade_50 : decode cX10_shade 50 = .ok (.if_icmp .ge 7, 3) := by decide +kernel
theorem dX10_shade_53 : decode cX10_shade 53 = .ok (.iconst 1, 1) := by decide +kernel
theorem dX10_shade_54 : decode cX10_shade 54 = .ok (.goto 4, 3) := by decide +kernel
theorem dX10_shade_57 : decode cX10_shade 57 = .ok (.iconst 0, 1) := by decide +kernel
theorem dX10_shade_58 : decode cX10_shade 58 = .ok (.istore 5, 2) := by decide +kernel
theorem dX10_shade_60 : decode cX10_shade 60 = .ok (.iconst 0, 1) := by decide +kernel
theorem dX10_shade_61 : decode cX10_shade 61 = .ok (.istore 6, 2) := by decide +kernel
theorem dX10_shade_63 : decode cX10_shade 63 = .ok (.iload 6, 2) := by decide +kernel
theorem dX10_shade_65 : decode cX10_shade 65 = .ok (.bipush 12, 2) := by decide +kernel
theorem dX10_shade_67 : decode cX10_shade 67 = .ok (.if_icmp .ge 76, 3) := by decide +kernel
theorem dX10_shade_70 : decode cX10_shade 70 = .ok (.iload 5, 2) := by decide +kernel
theorem dX10_shade_72 : decode cX10_shade 72 = .ok (.ifCond .eq 71, 3) := by decide +kernel
theorem dX10_shade_75 : decode cX10_shade 75 = .ok (.iconst 0, 1) := by decide +kernel
theorem dX10_shade_76 : decode cX10_shade 76 = .ok (.istore 7, 2) := by decide +kernel
theorem dX10_shade_78 : decode cX10_shade 78 = .ok (.iconst 0, 1) := by decide +kernel
theorem dX10_shade_79 : decode cX10_shade 79 = .ok (.istore 8, 2) := by decide +kernel
theorem dX10_shade_81 : decode cX10_shade 81 = .ok (.iload 8, 2) := by decide +kernel
theorem dX10_shade_83 : decode cX10_shade 83 = .ok (.bipush 12, 2) := by decide +kernel
theorem dX10_shade_85 : decode cX10_shade 85 = .ok (.if_icmp .ge 48, 3) := by decide +kernel
theorem dX10_shade_88 : decode cX10_shade 88 = .ok (.iload 7, 2) := by decide +kernel
theorem dX10_shade_90 : decode cX10_shade 90 = .ok (.ifCond .ne 30, 3) := by decide +kernel
theorem dX10_shade_93 : decode cX10_shade 93 = .ok (.iload 4, 2) := by decide +kernel
theorem dX10_shade_95 : decode cX10_shade 95 = .ok (.iload 8, 2) := by decide +kernel
theorem dX10_shade_97 : decode cX10_shade 97 = .ok (.invokestatic 69, 3) := by decide +kernel
theorem dX10_shade_100 : decode cX10_shade 100 = .ok (.ifCond .eq 24, 3) := by decide +kernel
theorem dX10_shade_103 : decode cX10_shade 103 = .ok (.aload_n 0, 1) := by decide +kernel
theorem dX10_shade_104 : decode cX10_shade 104 = .ok (.getfield 28, 3) := by decide +kernel
theorem dX10_shade_107 : decode cX10_shade 107 = .ok (.bipush 12, 2) := by decide +kernel
theorem dX10_shade_109 : decode cX10_shade 109 = .ok (.iload 6, 2) := by decide +kernel
theorem dX10_shade_111 : decode cX10_shade 111 = .ok (.imul, 1) := by decide +kernel
theorem dX10_shade_112 : decode cX10_shade 112 = .ok (.iload 8, 2) := by decide +kernel
theorem dX10_shade_114 : decode cX10_shade 114 = .ok (.iadd, 1) := by decide +kernel
theorem dX10_shade_115 : decode cX10_shade 115 = .ok (.iaload, 1) := by decide +kernel
theorem dX10_shade_116 : decode cX10_shade 116 = .ok (.iload_n 1, 1) := by decide +kernel
theorem dX10_shade_117 : decode cX10_shade 117 = .ok (.if_icmp .gt 7, 3) := by decide +kernel
theorem dX10_shade_120 : decode cX10_shade 120 = .ok (.iconst 1, 1) := by decide +kernel
theorem dX10_shade_121 : decode cX10_shade 121 = .ok (.goto 4, 3) := by decide +kernel
theorem dX10_shade_124 : decode cX10_shade 124 = .ok (.iconst 0, 1) := by decide +kernel
theorem dX10_shade_125 : decode cX10_shade 125 = .ok (.istore 7, 2) := by decide +kernel
theorem dX10_shade_127 : decode cX10_shade 127 = .ok (.iinc 8 1, 3) := by decide +kernel
theorem dX10_shade_130 : decode cX10_shade 130 = .ok (.goto (-49), 3) := by decide +kernel
theorem dX10_shade_133 : decode cX10_shade 133 = .ok (.iload 7, 2) := by decide +kernel
theorem dX10_shade_135 : decode cX10_shade 135 = .ok (.istore 5, 2) := by decide +kernel
theorem dX10_shade_137 : decode cX10_shade 137 = .ok (.iinc 6 1, 3) := by decide +kernel
theorem dX10_shade_140 : decode cX10_shade 140 = .ok (.goto (-77), 3) := by decide +kernel
theorem dX10_shade_143 : decode cX10_shade 143 = .ok (.iload 5, 2) := by decide +kernel
theorem dX10_shade_145 : decode cX10_shade 145 = .ok (.ifCond .eq 8, 3) := by decide +kernel
theorem dX10_shade_148 : decode cX10_shade 148 = .ok (.iload 4, 2) := by decide +kernel
theorem dX10_shade_150 : decode cX10_shade 150 = .ok (.goto 4, 3) := by decide +kernel
theorem dX10_shade_153 : decode cX10_shade 153 = .ok (.iload_n 3, 1) := by decide +kernel
theorem dX10_shade_154 : decode cX10_shade 154 = .ok (.istore_n 3, 1) := by decide +kernel
theorem dX10_shade_155 : decode cX10_shade 155 = .ok (.iinc 4 1, 3) := by decide +kernel
theorem dX10_shade_158 : decode cX10_shade 158 = .ok (.goto (-125), 3) := by decide +kernel
theorem dX10_shade_161 : decode cX10_shade 161 = .ok (.iload_n 2, 1) := by decide +kernel
theorem dX10_shade_162 : decode cX10_shade 162 = .ok (.iconst 1, 1) := by decide +kernel
theorem dX10_shade_163 : decode cX10_shade 163 = .ok (.if_icmp .ne 7, 3) := by decide +kernel
theorem dX10_shade_166 : decode cX10_shade 166 = .ok (.iload_n 3, 1) := by decide +kernel
theorem dX10_shade_167 : decode cX10_shade 167 = .ok (.goto 7, 3) := by decide +kernel
theorem dX10_shade_170 : decode cX10_shade 170 = .ok (.iload_n 3, 1) := by decide +kernel
theorem dX10_shade_171 : decode cX10_shade 171 = .ok (.invokestatic 76, 3) := by decide +kernel
theorem dX10_shade_174 : decode cX10_shade 174 = .ok (.ireturn, 1) := by decide +kernel
set_option maxRecDepth 20000 in
theorem ggX10_met_X10_isNumber : GoodIn wsX10_met wsX10_isNumber := goodIn_r _ [6, 7, 8, 5, 9] (by decide +kernel) (by decide +kernel)
set_option maxRecDepth 20000 in
theorem gX10_met_X10_isNumber : GoodIn wsX10_met (va_wsS RX10 61 yX10_isNumber wsX10_isNumber) := goodIn_app (goodIn_of _ (by decide +kernel)) ggX10_met_X10_isNumber
theorem dX10_met_0 : decode cX10_met 0 = .ok (.iload_n 1, 1) := by decide +kernel
theorem dX10_met_1 : decode cX10_met 1 = .ok (.invokestatic 61, 3) := by decide +kernel
theorem dX10_met_4 : decode cX10_met 4 = .ok (.ifCond .eq 15, 3) := by decide +kernel
theorem dX10_met_7 : decode cX10_met 7 = .ok (.iload_n 2, 1) := by decide +kernel
theorem dX10_met_8 : decode cX10_met 8 = .ok (.invokestatic 61, 3) := by decide +kernel
theorem dX10_met_11 : decode cX10_met 11 = .ok (.ifCond .eq 8, 3) := by decide +kernel
theorem dX10_met_14 : decode cX10_met 14 = .ok (.iload_n 1, 1) := by decide +kernel
theorem dX10_met_15 : decode cX10_met 15 = .ok (.iload_n 2, 1) := by decide +kernel
theorem dX10_met_16 : decode cX10_met 16 = .ok (.if_icmp .ne 5, 3) := by decide +kernel
theorem dX10_met_19 : decode cX10_met 19 = .ok (.iconst (-1), 1) := by decide +kernel
theorem dX10_met_20 : decode cX10_met 20 = .ok (.ireturn, 1) := by decide +kernel
theorem dX10_met_21 : decode cX10_met 21 = .ok (.aload_n 0, 1) := by decide +kernel
theorem dX10_met_22 : decode cX10_met 22 = .ok (.getfield 149, 3) := by decide +kernel
theorem dX10_met_25 : decode cX10_met 25 = .ok (.bipush 8, 2) := by decide +kernel
theorem dX10_met_27 : decode cX10_met 27 = .ok (.if_icmp .ne 6, 3) := by decide +kernel
theorem dX10_met_30 : decode cX10_met 30 = .ok (.bipush (-4), 2) := by decide +kernel
theorem dX10_met_32 : decode cX10_met 32 = .ok (.ireturn, 1) := by decide +kernel
theorem dX10_met_33 : decode cX10_met 33 = .ok (.aload_n 0, 1) := by decide +kernel
theorem dX10_met_34 : decode cX10_met 34 = .ok (.getfield 19, 3) := by decide +kernel
theorem dX10_met_37 : decode cX10_met 37 = .ok (.iconst 2, 1) := by decide +kernel
theorem dX10_met_38 : decode cX10_met 38 = .ok (.aload_n 0, 1) := by decide +kernel
theorem dX10_met_39 : decode cX10_met 39 = .ok (.getfield 149, 3) := by decide +kernel
theorem dX10_met_42 : decode cX10_met 42 = .ok (.imul, 1) := by decide +kernel
theorem dX10_met_43 : decode cX10_met 43 = .ok (.iload_n 1, 1) := by decide +kernel
theorem dX10_met_44 : decode cX10_met 44 = .ok (.iastore, 1) := by decide +kernel
theorem dX10_met_45 : decode cX10_met 45 = .ok (.aload_n 0, 1) := by decide +kernel
theorem dX10_met_46 : decode cX10_met 46 = .ok (.getfield 19, 3) := by decide +kernel
theorem dX10_met_49 : decode cX10_met 49 = .ok (.iconst 2, 1) := by decide +kernel
theorem dX10_met_50 : decode cX10_met 50 = .ok (.aload_n 0, 1) := by decide +kernel
theorem dX10_met_51 : decode cX10_met 51 = .ok (.getfield 149, 3) := by decide +kernel
theorem dX10_met_54 : decode cX10_met 54 = .ok (.imul, 1) := by decide +kernel
theorem dX10_met_55 : decode cX10_met 55 = .ok (.iconst 1, 1) := by decide +kernel
theorem dX10_met_56 : decode cX10_met 56 = .ok (.iadd, 1) := by decide +kernel
theorem dX10_met_57 : decode cX10_met 57 = .ok (.iload_n 2, 1) := by decide +kernel
theorem dX10_met_58 : decode cX10_met 58 = .ok (.iastore, 1) := by decide +kernel
theorem dX10_met_59 : decode cX10_met 59 = .ok (.aload_n 0, 1) := by decide +kernel
theorem dX10_met_60 : decode cX10_met 60 = .ok (.dup, 1) := by decide +kernel
theorem dX10_met_61 : decode cX10_met 61 = .ok (.getfield 149, 3) := by decide +kernel
theorem dX10_met_64 : decode cX10_met 64 = .ok (.iconst 1, 1) := by decide +kernel
theorem dX10_met_65 : decode cX10_met 65 = .ok (.iadd, 1) := by decide +kernel
theorem dX10_met_66 : decode cX10_met 66 = .ok (.putfield 149, 3) := by decide +kernel
theorem dX10_met_69 : decode cX10_met 69 = .ok (.aload_n 0, 1) := by decide +kernel
theorem dX10_met_70 : decode cX10_met 70 = .ok (.getfield 149, 3) := by decide +kernel
theorem dX10_met_73 : decode cX10_met 73 = .ok (.ireturn, 1) := by decide +kernel
theorem dX10_unmeet_0 : decode cX10_unmeet 0 = .ok (.aload_n 0, 1) := by decide +kernel
theorem dX10_unmeet_1 : decode cX10_unmeet 1 = .ok (.getfield 149, 3) := by decide +kernel
theorem dX10_unmeet_4 : decode cX10_unmeet 4 = .ok (.istore_n 1, 1) := by decide +kernel
theorem dX10_unmeet_5 : decode cX10_unmeet 5 = .ok (.aload_n 0, 1) := by decide +kernel
theorem dX10_unmeet_6 : decode cX10_unmeet 6 = .ok (.iconst 0, 1) := by decide +kernel
theorem dX10_unmeet_7 : decode cX10_unmeet 7 = .ok (.putfield 149, 3) := by decide +kernel
theorem dX10_unmeet_10 : decode cX10_unmeet 10 = .ok (.iload_n 1, 1) := by decide +kernel
theorem dX10_unmeet_11 : decode cX10_unmeet 11 = .ok (.ireturn, 1) := by decide +kernel
theorem dX10_touchAt_0 : decode cX10_touchAt 0 = .ok (.iload_n 2, 1) := by decide +kernel
theorem dX10_touchAt_1 : decode cX10_touchAt 1 = .ok (.bipush 8, 2) := by decide +kernel
theorem dX10_touchAt_3 : decode cX10_touchAt 3 = .ok (.idiv, 1) := by decide +kernel
theorem dX10_touchAt_4 : decode cX10_touchAt 4 = .ok (.istore_n 3, 1) := by decide +kernel
theorem dX10_touchAt_5 : decode cX10_touchAt 5 = .ok (.aload_n 0, 1) := by decide +kernel
theorem dX10_touchAt_6 : decode cX10_touchAt 6 = .ok (.getfield 19, 3) := by decide +kernel
theorem dX10_touchAt_9 : decode cX10_touchAt 9 = .ok (.iconst 2, 1) := by decide +kernel
theorem dX10_touchAt_10 : decode cX10_touchAt 10 = .ok (.iload_n 1, 1) := by decide +kernel
theorem dX10_touchAt_11 : decode cX10_touchAt 11 = .ok (.imul, 1) := by decide +kernel
theorem dX10_touchAt_12 : decode cX10_touchAt 12 = .ok (.iaload, 1) := by decide +kernel
theorem dX10_touchAt_13 : decode cX10_touchAt 13 = .ok (.istore 4, 2) := by decide +kernel
theorem dX10_touchAt_15 : decode cX10_touchAt 15 = .ok (.aload_n 0, 1) := by decide +kernel
theorem dX10_touchAt_16 : decode cX10_touchAt 16 = .ok (.getfield 19, 3) := by decide +kernel
theorem dX10_touchAt_19 : decode cX10_touchAt 19 = .ok (.iconst 2, 1) := by decide +kernel
theorem dX10_touchAt_20 : decode cX10_touchAt 20 = .ok (.iload_n 1, 1) := by decide +kernel
theorem dX10_touchAt_21 : decode cX10_touchAt 21 = .ok (.imul, 1) := by decide +kernel
theorem dX10_touchAt_22 : decode cX10_touchAt 22 = .ok (.iconst 1, 1) := by decide +kernel
theorem dX10_touchAt_23 : decode cX10_touchAt 23 = .ok (.iadd, 1) := by decide +kernel
theorem dX10_touchAt_24 : decode cX10_touchAt 24 = .ok (.iaload, 1) := by decide +kernel
theorem dX10_touchAt_25 : decode cX10_touchAt 25 = .ok (.istore 5, 2) := by decide +kernel
theorem dX10_touchAt_27 : decode cX10_touchAt 27 = .ok (.iload_n 3, 1) := by decide +kernel
theorem dX10_touchAt_28 : decode cX10_touchAt 28 = .ok (.iload 4, 2) := by decide +kernel
theorem dX10_touchAt_30 : decode cX10_touchAt 30 = .ok (.if_icmp .ne 8, 3) := by decide +kernel
theorem dX10_touchAt_33 : decode cX10_touchAt 33 = .ok (.iload 5, 2) := by decide +kernel
theorem dX10_touchAt_35 : decode cX10_touchAt 35 = .ok (.goto 16, 3) := by decide +kernel
theorem dX10_touchAt_38 : decode cX10_touchAt 38 = .ok (.iload_n 3, 1) := by decide +kernel
theorem dX10_touchAt_39 : decode cX10_touchAt 39 = .ok (.iload 5, 2) := by decide +kernel
theorem dX10_touchAt_41 : decode cX10_touchAt 41 = .ok (.if_icmp .ne 8, 3) := by decide +kernel
theorem dX10_touchAt_44 : decode cX10_touchAt 44 = .ok (.iload 4, 2) := by decide +kernel
theorem dX10_touchAt_46 : decode cX10_touchAt 46 = .ok (.goto 5, 3) := by decide +kernel
theorem dX10_touchAt_49 : decode cX10_touchAt 49 = .ok (.bipush (-6), 2) := by decide +kernel
theorem dX10_touchAt_51 : decode cX10_touchAt 51 = .ok (.istore 6, 2) := by decide +kernel
theorem dX10_touchAt_53 : decode cX10_touchAt 53 = .ok (.iload 6, 2) := by decide +kernel
theorem dX10_touchAt_55 : decode cX10_touchAt 55 = .ok (.ifCond .lt 12, 3) := by decide +kernel
theorem dX10_touchAt_58 : decode cX10_touchAt 58 = .ok (.iload 6, 2) := by decide +kernel
theorem dX10_touchAt_60 : decode cX10_touchAt 60 = .ok (.iload_n 2, 1) := by decide +kernel
theorem dX10_touchAt_61 : decode cX10_touchAt 61 = .ok (.bipush 8, 2) := by decide +kernel
theorem dX10_touchAt_63 : decode cX10_touchAt 63 = .ok (.irem, 1) := by decide +kernel
theorem dX10_touchAt_64 : decode cX10_touchAt 64 = .ok (.if_icmp .ne 7, 3) := by decide +kernel
theorem dX10_touchAt_67 : decode cX10_touchAt 67 = .ok (.iload_n 2, 1) := by decide +kernel
theorem dX10_touchAt_68 : decode cX10_touchAt 68 = .ok (.goto 10, 3) := by decide +kernel
theorem dX10_touchAt_71 : decode cX10_touchAt 71 = .ok (.bipush 8, 2) := by decide +kernel
theorem dX10_touchAt_73 : decode cX10_touchAt 73 = .ok (.iload 6, 2) := by decide +kernel
theorem dX10_touchAt_75 : decode cX10_touchAt 75 = .ok (.imul, 1) := by decide +kernel
theorem dX10_touchAt_76 : decode cX10_touchAt 76 = .ok (.iload_n 3, 1) := by decide +kernel
theorem dX10_touchAt_77 : decode cX10_touchAt 77 = .ok (.iadd, 1) := by decide +kernel
theorem dX10_touchAt_78 : decode cX10_touchAt 78 = .ok (.ireturn, 1) := by decide +kernel
set_option maxRecDepth 20000 in
theorem ggX10_layTouches_X10_touchAt : GoodIn wsX10_layTouches wsX10_touchAt := goodIn_r _ [9, 10, 11, 12, 13, 14, 15, 16, 17, 18, 19, 20, 21, 22, 23, 24, 25, 26, 27, 28, 29, 30, 31, 32, 33, 34] (by decide +kernel) (by decide +kernel)
set_option maxRecDepth 20000 in
theorem gX10_layTouches_X10_touchAt : GoodIn wsX10_layTouches (wsV RX10 152 RX10 yX10_touchAt wsX10_touchAt) := goodIn_app (goodIn_of _ (by decide +kernel)) ggX10_layTouches_X10_touchAt
theorem dX10_layTouches_0 : decode cX10_layTouches 0 = .ok (.iconst 0, 1) := by decide +kernel
theorem dX10_layTouches_1 : decode cX10_layTouches 1 = .ok (.istore_n 2, 1) := by decide +kernel
theorem dX10_layTouches_2 : decode cX10_layTouches 2 = .ok (.iload_n 2, 1) := by decide +kernel
theorem dX10_layTouches_3 : decode cX10_layTouches 3 = .ok (.bipush 56, 2) := by decide +kernel
theorem dX10_layTouches_5 : decode cX10_layTouches 5 = .ok (.if_icmp .ge 32, 3) := by decide +kernel
theorem dX10_layTouches_8 : decode cX10_layTouches 8 = .ok (.aload_n 0, 1) := by decide +kernel
theorem dX10_layTouches_9 : decode cX10_layTouches 9 = .ok (.getfield 34, 3) := by decide +kernel
theorem dX10_layTouches_12 : decode cX10_layTouches 12 = .ok (.iload_n 2, 1) := by decide +kernel
theorem dX10_layTouches_13 : decode cX10_layTouches 13 = .ok (.iload_n 2, 1) := by decide +kernel
theorem dX10_layTouches_14 : decode cX10_layTouches 14 = .ok (.bipush 8, 2) := by decide +kernel
theorem dX10_layTouches_16 : decode cX10_layTouches 16 = .ok (.iload_n 1, 1) := by decide +kernel
theorem dX10_layTouches_17 : decode cX10_layTouches 17 = .ok (.imul, 1) := by decide +kernel
theorem dX10_layTouches_18 : decode cX10_layTouches 18 = .ok (.bipush 7, 2) := by decide +kernel
theorem dX10_layTouches_20 : decode cX10_layTouches 20 = .ok (.iadd, 1) := by decide +kernel
theorem dX10_layTouches_21 : decode cX10_layTouches 21 = .ok (.if_icmp .ne 7, 3) := by decide +kernel
theorem dX10_layTouches_24 : decode cX10_layTouches 24 = .ok (.iconst 0, 1) := by decide +kernel
theorem dX10_layTouches_25 : decode cX10_layTouches 25 = .ok (.goto 5, 3) := by decide +kernel
theorem dX10_layTouches_28 : decode cX10_layTouches 28 = .ok (.ldc 133, 2) := by decide +kernel
theorem dX10_layTouches_30 : decode cX10_layTouches 30 = .ok (.iastore, 1) := by decide +kernel
theorem dX10_layTouches_31 : decode cX10_layTouches 31 = .ok (.iinc 2 1, 3) := by decide +kernel
theorem dX10_layTouches_34 : decode cX10_layTouches 34 = .ok (.goto (-32), 3) := by decide +kernel
theorem dX10_layTouches_37 : decode cX10_layTouches 37 = .ok (.iconst 0, 1) := by decide +kernel
theorem dX10_layTouches_38 : decode cX10_layTouches 38 = .ok (.istore_n 2, 1) := by decide +kernel
theorem dX10_layTouches_39 : decode cX10_layTouches 39 = .ok (.iload_n 2, 1) := by decide +kernel
theorem dX10_layTouches_40 : decode cX10_layTouches 40 = .ok (.aload_n 0, 1) := by decide +kernel
theorem dX10_layTouches_41 : decode cX10_layTouches 41 = .ok (.getfield 149, 3) := by decide +kernel
theorem dX10_layTouches_44 : decode cX10_layTouches 44 = .ok (.if_icmp .ge 122, 3) := by decide +kernel
theorem dX10_layTouches_47 : decode cX10_layTouches 47 = .ok (.iconst 0, 1) := by decide +kernel
theorem dX10_layTouches_48 : decode cX10_layTouches 48 = .ok (.istore_n 3, 1) := by decide +kernel
theorem dX10_layTouches_49 : decode cX10_layTouches 49 = .ok (.iload_n 3, 1) := by decide +kernel
theorem dX10_layTouches_50 : decode cX10_layTouches 50 = .ok (.bipush 56, 2) := by decide +kernel
theorem dX10_layTouches_52 : decode cX10_layTouches 52 = .ok (.if_icmp .ge 21, 3) := by decide +kernel
theorem dX10_layTouches_55 : decode cX10_layTouches 55 = .ok (.aload_n 0, 1) := by decide +kernel
theorem dX10_layTouches_56 : decode cX10_layTouches 56 = .ok (.getfield 37, 3) := by decide +kernel
theorem dX10_layTouches_59 : decode cX10_layTouches 59 = .ok (.iload_n 3, 1) := by decide +kernel
theorem dX10_layTouches_60 : decode cX10_layTouches 60 = .ok (.aload_n 0, 1) := by decide +kernel
theorem dX10_layTouches_61 : decode cX10_layTouches 61 = .ok (.getfield 34, 3) := by decide +kernel
theorem dX10_layTouches_64 : decode cX10_layTouches 64 = .ok (.iload_n 3, 1) := by decide +kernel
theorem dX10_layTouches_65 : decode cX10_layTouches 65 = .ok (.iaload, 1) := by decide +kernel
theorem dX10_layTouches_66 : decode cX10_layTouches 66 = .ok (.iastore, 1) := by decide +kernel
theorem dX10_layTouches_67 : decode cX10_layTouches 67 = .ok (.iinc 3 1, 3) := by decide +kernel
theorem dX10_layTouches_70 : decode cX10_layTouches 70 = .ok (.goto (-21), 3) := by decide +kernel
theorem dX10_layTouches_73 : decode cX10_layTouches 73 = .ok (.iconst 0, 1) := by decide +kernel
theorem dX10_layTouches_74 : decode cX10_layTouches 74 = .ok (.istore_n 3, 1) := by decide +kernel
theorem dX10_layTouches_75 : decode cX10_layTouches 75 = .ok (.iload_n 3, 1) := by decide +kernel
theorem dX10_layTouches_76 : decode cX10_layTouches 76 = .ok (.bipush 56, 2) := by decide +kernel
theorem dX10_layTouches_78 : decode cX10_layTouches 78 = .ok (.if_icmp .ge 56, 3) := by decide +kernel
theorem dX10_layTouches_81 : decode cX10_layTouches 81 = .ok (.aload_n 0, 1) := by decide +kernel
theorem dX10_layTouches_82 : decode cX10_layTouches 82 = .ok (.iload_n 2, 1) := by decide +kernel
theorem dX10_layTouches_83 : decode cX10_layTouches 83 = .ok (.iload_n 3, 1) := by decide +kernel
theorem dX10_layTouches_84 : decode cX10_layTouches 84 = .ok (.invokevirtual 152, 3) := by decide +kernel
theorem dX10_layTouches_87 : decode cX10_layTouches 87 = .ok (.istore 4, 2) := by decide +kernel
theorem dX10_layTouches_89 : decode cX10_layTouches 89 = .ok (.iload 4, 2) := by decide +kernel
theorem dX10_layTouches_91 : decode cX10_layTouches 91 = .ok (.iload_n 3, 1) := by decide +kernel
theorem dX10_layTouches_92 : decode cX10_layTouches 92 = .ok (.if_icmp .eq 36, 3) := by decide +kernel
theorem dX10_layTouches_95 : decode cX10_layTouches 95 = .ok (.aload_n 0, 1) := by decide +kernel
theorem dX10_layTouches_96 : decode cX10_layTouches 96 = .ok (.getfield 34, 3) := by decide +kernel
theorem dX10_layTouches_99 : decode cX10_layTouches 99 = .ok (.iload_n 3, 1) := by decide +kernel
theorem dX10_layTouches_100 : decode cX10_layTouches 100 = .ok (.iaload, 1) := by decide +kernel
theorem dX10_layTouches_101 : decode cX10_layTouches 101 = .ok (.iconst 1, 1) := by decide +kernel
theorem dX10_layTouches_102 : decode cX10_layTouches 102 = .ok (.iadd, 1) := by decide +kernel
theorem dX10_layTouches_103 : decode cX10_layTouches 103 = .ok (.aload_n 0, 1) := by decide +kernel
theorem dX10_layTouches_104 : decode cX10_layTouches 104 = .ok (.getfield 37, 3) := by decide +kernel
theorem dX10_layTouches_107 : decode cX10_layTouches 107 = .ok (.iload 4, 2) := by decide +kernel
theorem dX10_layTouches_109 : decode cX10_layTouches 109 = .ok (.iaload, 1) := by decide +kernel
theorem dX10_layTouches_110 : decode cX10_layTouches 110 = .ok (.if_icmp .ge 18, 3) := by decide +kernel
theorem dX10_layTouches_113 : decode cX10_layTouches 113 = .ok (.aload_n 0, 1) := by decide +kernel
theorem dX10_layTouches_114 : decode cX10_layTouches 114 = .ok (.getfield 37, 3) := by decide +kernel
theorem dX10_layTouches_117 : decode cX10_layTouches 117 = .ok (.iload 4, 2) := by decide +kernel
theorem dX10_layTouches_119 : decode cX10_layTouches 119 = .ok (.aload_n 0, 1) := by decide +kernel
theorem dX10_layTouches_120 : decode cX10_layTouches 120 = .ok (.getfield 34, 3) := by decide +kernel
theorem dX10_layTouches_123 : decode cX10_layTouches 123 = .ok (.iload_n 3, 1) := by decide +kernel
theorem dX10_layTouches_124 : decode cX10_layTouches 124 = .ok (.iaload, 1) := by decide +kernel
theorem dX10_layTouches_125 : decode cX10_layTouches 125 = .ok (.iconst 1, 1) := by decide +kernel
theorem dX10_layTouches_126 : decode cX10_layTouches 126 = .ok (.iadd, 1) := by decide +kernel
theorem dX10_layTouches_127 : decode cX10_layTouches 127 = .ok (.iastore, 1) := by decide +kernel
theorem dX10_layTouches_128 : decode cX10_layTouches 128 = .ok (.iinc 3 1, 3) := by decide +kernel
theorem dX10_layTouches_131 : decode cX10_layTouches 131 = .ok (.goto (-56), 3) := by decide +kernel
theorem dX10_layTouches_134 : decode cX10_layTouches 134 = .ok (.iconst 0, 1) := by decide +kernel
theorem dX10_layTouches_135 : decode cX10_layTouches 135 = .ok (.istore_n 3, 1) := by decide +kernel
theorem dX10_layTouches_136 : decode cX10_layTouches 136 = .ok (.iload_n 3, 1) := by decide +kernel
theorem dX10_layTouches_137 : decode cX10_layTouches 137 = .ok (.bipush 56, 2) := by decide +kernel
theorem dX10_layTouches_139 : decode cX10_layTouches 139 = .ok (.if_icmp .ge 21, 3) := by decide +kernel
theorem dX10_layTouches_142 : decode cX10_layTouches 142 = .ok (.aload_n 0, 1) := by decide +kernel
theorem dX10_layTouches_143 : decode cX10_layTouches 143 = .ok (.getfield 34, 3) := by decide +kernel
theorem dX10_layTouches_146 : decode cX10_layTouches 146 = .ok (.iload_n 3, 1) := by decide +kernel
theorem dX10_layTouches_147 : decode cX10_layTouches 147 = .ok (.aload_n 0, 1) := by decide +kernel
theorem dX10_layTouches_148 : decode cX10_layTouches 148 = .ok (.getfield 37, 3) := by decide +kernel
theorem dX10_layTouches_151 : decode cX10_layTouches 151 = .ok (.iload_n 3, 1) := by decide +kernel
theorem dX10_layTouches_152 : decode cX10_layTouches 152 = .ok (.iaload, 1) := by decide +kernel
theorem dX10_layTouches_153 : decode cX10_layTouches 153 = .ok (.iastore, 1) := by decide +kernel
theorem dX10_layTouches_154 : decode cX10_layTouches 154 = .ok (.iinc 3 1, 3) := by decide +kernel
theorem dX10_layTouches_157 : decode cX10_layTouches 157 = .ok (.goto (-21), 3) := by decide +kernel
theorem dX10_layTouches_160 : decode cX10_layTouches 160 = .ok (.iinc 2 1, 3) := by decide +kernel
theorem dX10_layTouches_163 : decode cX10_layTouches 163 = .ok (.goto (-124), 3) := by decide +kernel
theorem dX10_layTouches_166 : decode cX10_layTouches 166 = .ok (.return_, 1) := by decide +kernel
set_option maxRecDepth 20000 in
theorem ggX10_maybe_X10_isNumber : GoodIn wsX10_maybe wsX10_isNumber := goodIn_r _ [6, 7, 8, 5, 9] (by decide +kernel) (by decide +kernel)
set_option maxRecDepth 20000 in
theorem gX10_maybe_X10_isNumber : GoodIn wsX10_maybe (va_wsS RX10 61 yX10_isNumber wsX10_isNumber) := goodIn_app (goodIn_of _ (by decide +kernel)) ggX10_maybe_X10_isNumber
set_option maxRecDepth 20000 in
theorem ggX10_maybe_X10_layTouches : GoodIn wsX10_maybe wsX10_layTouches := goodIn_r _ [13, 1, 2, 14, 15, 16, 17, 18, 5, 19, 20, 21, 22, 23, 24, 25, 26, 27, 28, 29, 30, 31, 32, 33, 34, 35, 36, 37, 38, 39, 40, 41, 42, 43, 44] (by decide +kernel) (by decide +kernel)
set_option maxRecDepth 20000 in
theorem gX10_maybe_X10_layTouches : GoodIn wsX10_maybe (wsV RX10 155 RX10 yX10_layTouches wsX10_layTouches) := goodIn_app (goodIn_of _ (by decide +kernel)) ggX10_maybe_X10_layTouches
theorem dX10_maybe_0 : decode cX10_maybe 0 = .ok (.iload_n 1, 1) := by decide +kernel
theorem dX10_maybe_1 : decode cX10_maybe 1 = .ok (.invokestatic 61, 3) := by decide +kernel
theorem dX10_maybe_4 : decode cX10_maybe 4 = .ok (.ifCond .ne 5, 3) := by decide +kernel
theorem dX10_maybe_7 : decode cX10_maybe 7 = .ok (.iconst (-1), 1) := by decide +kernel
theorem dX10_maybe_8 : decode cX10_maybe 8 = .ok (.ireturn, 1) := by decide +kernel
theorem dX10_maybe_9 : decode cX10_maybe 9 = .ok (.aload_n 0, 1) := by decide +kernel
theorem dX10_maybe_10 : decode cX10_maybe 10 = .ok (.iload_n 1, 1) := by decide +kernel
theorem dX10_maybe_11 : decode cX10_maybe 11 = .ok (.invokevirtual 155, 3) := by decide +kernel
theorem dX10_maybe_14 : decode cX10_maybe 14 = .ok (.iconst 0, 1) := by decide +kernel
theorem dX10_maybe_15 : decode cX10_maybe 15 = .ok (.istore_n 2, 1) := by decide +kernel
theorem dX10_maybe_16 : decode cX10_maybe 16 = .ok (.iconst 0, 1) := by decide +kernel
theorem dX10_maybe_17 : decode cX10_maybe 17 = .ok (.istore_n 3, 1) := by decide +kernel
theorem dX10_maybe_18 : decode cX10_maybe 18 = .ok (.iload_n 3, 1) := by decide +kernel
theorem dX10_maybe_19 : decode cX10_maybe 19 = .ok (.bipush 56, 2) := by decide +kernel
theorem dX10_maybe_21 : decode cX10_maybe 21 = .ok (.if_icmp .ge 33, 3) := by decide +kernel
theorem dX10_maybe_24 : decode cX10_maybe 24 = .ok (.iload_n 2, 1) := by decide +kernel
theorem dX10_maybe_25 : decode cX10_maybe 25 = .ok (.aload_n 0, 1) := by decide +kernel
theorem dX10_maybe_26 : decode cX10_maybe 26 = .ok (.getfield 34, 3) := by decide +kernel
theorem dX10_maybe_29 : decode cX10_maybe 29 = .ok (.iload_n 3, 1) := by decide +kernel
theorem dX10_maybe_30 : decode cX10_maybe 30 = .ok (.iaload, 1) := by decide +kernel
theorem dX10_maybe_31 : decode cX10_maybe 31 = .ok (.ldc 133, 2) := by decide +kernel
theorem dX10_maybe_33 : decode cX10_maybe 33 = .ok (.if_icmp .ge 12, 3) := by decide +kernel
theorem dX10_maybe_36 : decode cX10_maybe 36 = .ok (.iconst 1, 1) := by decide +kernel
theorem dX10_maybe_37 : decode cX10_maybe 37 = .ok (.iload_n 3, 1) := by decide +kernel
theorem dX10_maybe_38 : decode cX10_maybe 38 = .ok (.bipush 8, 2) := by decide +kernel
theorem dX10_maybe_40 : decode cX10_maybe 40 = .ok (.idiv, 1) := by decide +kernel
theorem dX10_maybe_41 : decode cX10_maybe 41 = .ok (.ishl, 1) := by decide +kernel
theorem dX10_maybe_42 : decode cX10_maybe 42 = .ok (.goto 4, 3) := by decide +kernel
theorem dX10_maybe_45 : decode cX10_maybe 45 = .ok (.iconst 0, 1) := by decide +kernel
theorem dX10_maybe_46 : decode cX10_maybe 46 = .ok (.ior, 1) := by decide +kernel
theorem dX10_maybe_47 : decode cX10_maybe 47 = .ok (.istore_n 2, 1) := by decide +kernel
theorem dX10_maybe_48 : decode cX10_maybe 48 = .ok (.iinc 3 1, 3) := by decide +kernel
theorem dX10_maybe_51 : decode cX10_maybe 51 = .ok (.goto (-33), 3) := by decide +kernel
theorem dX10_maybe_54 : decode cX10_maybe 54 = .ok (.iload_n 2, 1) := by decide +kernel
theorem dX10_maybe_55 : decode cX10_maybe 55 = .ok (.ireturn, 1) := by decide +kernel
set_option maxRecDepth 20000 in
theorem ggX10_touches_X10_isNumber : GoodIn wsX10_touches wsX10_isNumber := goodIn_r _ [6, 7, 8, 5, 9] (by decide +kernel) (by decide +kernel)
set_option maxRecDepth 20000 in
theorem gX10_touches_X10_isNumber : GoodIn wsX10_touches (va_wsS RX10 61 yX10_isNumber wsX10_isNumber) := goodIn_app (goodIn_of _ (by decide +kernel)) ggX10_touches_X10_isNumber
set_option maxRecDepth 20000 in
theorem ggX10_touches_X10_layTouches : GoodIn wsX10_touches wsX10_layTouches := goodIn_r _ [13, 2, 1, 14, 15, 16, 17, 18, 5, 19, 20, 21, 22, 23, 24, 25, 26, 27, 28, 29, 30, 31, 32, 33, 34, 35, 36, 37, 38, 39, 40, 41, 42, 43, 44] (by decide +kernel) (by decide +kernel)
set_option maxRecDepth 20000 in
theorem gX10_touches_X10_layTouches : GoodIn wsX10_touches (wsV RX10 155 RX10 yX10_layTouches wsX10_layTouches) := goodIn_app (goodIn_of _ (by decide +kernel)) ggX10_touches_X10_layTouches
theorem dX10_touches_0 : decode cX10_touches 0 = .ok (.iload_n 1, 1) := by decide +kernel
theorem dX10_touches_1 : decode cX10_touches 1 = .ok (.invokestatic 61, 3) := by decide +kernel
theorem dX10_touches_4 : decode cX10_touches 4 = .ok (.ifCond .eq 10, 3) := by decide +kernel
theorem dX10_touches_7 : decode cX10_touches 7 = .ok (.iload_n 2, 1) := by decide +kernel
theorem dX10_touches_8 : decode cX10_touches 8 = .ok (.invokestatic 61, 3) := by decide +kernel
theorem dX10_touches_11 : decode cX10_touches 11 = .ok (.ifCond .ne 5, 3) := by decide +kernel
theorem dX10_touches_14 : decode cX10_touches 14 = .ok (.iconst (-1), 1) := by decide +kernel
theorem dX10_touches_15 : decode cX10_touches 15 = .ok (.ireturn, 1) := by decide +kernel
theorem dX10_touches_16 : decode cX10_touches 16 = .ok (.aload_n 0, 1) := by decide +kernel
theorem dX10_touches_17 : decode cX10_touches 17 = .ok (.iload_n 1, 1) := by decide +kernel
theorem dX10_touches_18 : decode cX10_touches 18 = .ok (.invokevirtual 155, 3) := by decide +kernel
theorem dX10_touches_21 : decode cX10_touches 21 = .ok (.ldc 133, 2) := by decide +kernel
theorem dX10_touches_23 : decode cX10_touches 23 = .ok (.istore_n 3, 1) := by decide +kernel
theorem dX10_touches_24 : decode cX10_touches 24 = .ok (.bipush 8, 2) := by decide +kernel
theorem dX10_touches_26 : decode cX10_touches 26 = .ok (.iload_n 2, 1) := by decide +kernel
theorem dX10_touches_27 : decode cX10_touches 27 = .ok (.imul, 1) := by decide +kernel
theorem dX10_touches_28 : decode cX10_touches 28 = .ok (.istore 4, 2) := by decide +kernel
theorem dX10_touches_30 : decode cX10_touches 30 = .ok (.iload 4, 2) := by decide +kernel
theorem dX10_touches_32 : decode cX10_touches 32 = .ok (.bipush 8, 2) := by decide +kernel
theorem dX10_touches_34 : decode cX10_touches 34 = .ok (.iload_n 2, 1) := by decide +kernel
theorem dX10_touches_35 : decode cX10_touches 35 = .ok (.imul, 1) := by decide +kernel
theorem dX10_touches_36 : decode cX10_touches 36 = .ok (.bipush 8, 2) := by decide +kernel
theorem dX10_touches_38 : decode cX10_touches 38 = .ok (.iadd, 1) := by decide +kernel
theorem dX10_touches_39 : decode cX10_touches 39 = .ok (.if_icmp .ge 32, 3) := by decide +kernel
theorem dX10_touches_42 : decode cX10_touches 42 = .ok (.aload_n 0, 1) := by decide +kernel
theorem dX10_touches_43 : decode cX10_touches 43 = .ok (.getfield 34, 3) := by decide +kernel
theorem dX10_touches_46 : decode cX10_touches 46 = .ok (.iload 4, 2) := by decide +kernel
theorem dX10_touches_48 : decode cX10_touches 48 = .ok (.iaload, 1) := by decide +kernel
theorem dX10_touches_49 : decode cX10_touches 49 = .ok (.iload_n 3, 1) := by decide +kernel
theorem dX10_touches_50 : decode cX10_touches 50 = .ok (.if_icmp .ge 13, 3) := by decide +kernel
theorem dX10_touches_53 : decode cX10_touches 53 = .ok (.aload_n 0, 1) := by decide +kernel
theorem dX10_touches_54 : decode cX10_touches 54 = .ok (.getfield 34, 3) := by decide +kernel
theorem dX10_touches_57 : decode cX10_touches 57 = .ok (.iload 4, 2) := by decide +kernel
theorem dX10_touches_59 : decode cX10_touches 59 = .ok (.iaload, 1) := by decide +kernel
theorem dX10_touches_60 : decode cX10_touches 60 = .ok (.goto 4, 3) := by decide +kernel
theorem dX10_touches_63 : decode cX10_touches 63 = .ok (.iload_n 3, 1) := by decide +kernel
theorem dX10_touches_64 : decode cX10_touches 64 = .ok (.istore_n 3, 1) := by decide +kernel
theorem dX10_touches_65 : decode cX10_touches 65 = .ok (.iinc 4 1, 3) := by decide +kernel
theorem dX10_touches_68 : decode cX10_touches 68 = .ok (.goto (-38), 3) := by decide +kernel
theorem dX10_touches_71 : decode cX10_touches 71 = .ok (.iload_n 3, 1) := by decide +kernel
theorem dX10_touches_72 : decode cX10_touches 72 = .ok (.ldc 133, 2) := by decide +kernel
theorem dX10_touches_74 : decode cX10_touches 74 = .ok (.if_icmp .lt 8, 3) := by decide +kernel
theorem dX10_touches_77 : decode cX10_touches 77 = .ok (.bipush (-6), 2) := by decide +kernel
theorem dX10_touches_79 : decode cX10_touches 79 = .ok (.goto 4, 3) := by decide +kernel
theorem dX10_touches_82 : decode cX10_touches 82 = .ok (.iload_n 3, 1) := by decide +kernel
theorem dX10_touches_83 : decode cX10_touches 83 = .ok (.ireturn, 1) := by decide +kernel
set_option maxRecDepth 20000 in
theorem ggX10_chance_X10_isNumber : GoodIn wsX10_chance wsX10_isNumber := goodIn_r _ [10, 11, 12, 9, 13] (by decide +kernel) (by decide +kernel)
set_option maxRecDepth 20000 in
theorem gX10_chance_X10_isNumber : GoodIn wsX10_chance (va_wsS RX10 61 yX10_isNumber wsX10_isNumber) := goodIn_app (goodIn_of _ (by decide +kernel)) ggX10_chance_X10_isNumber
set_option maxRecDepth 20000 in
theorem ggX10_chance_X10_in : GoodIn wsX10_chance wsX10_in := goodIn_r _ [13] (by decide +kernel) (by decide +kernel)
set_option maxRecDepth 20000 in
theorem gX10_chance_X10_in : GoodIn wsX10_chance (va_wsS RX10 57 yX10_in wsX10_in) := goodIn_app (goodIn_of _ (by decide +kernel)) ggX10_chance_X10_in
set_option maxRecDepth 20000 in
theorem ggX10_chance_X10_touchAt : GoodIn wsX10_chance wsX10_touchAt := goodIn_r _ [17, 18, 19, 20, 21, 22, 23, 24, 25, 26, 27, 28, 29, 30, 31, 32, 33, 34, 35, 36, 37, 38, 39, 40, 41, 42] (by decide +kernel) (by decide +kernel)
set_option maxRecDepth 20000 in
theorem gX10_chance_X10_touchAt : GoodIn wsX10_chance (wsV RX10 152 RX10 yX10_touchAt wsX10_touchAt) := goodIn_app (goodIn_of _ (by decide +kernel)) ggX10_chance_X10_touchAt
theorem dX10_chance_0 : decode cX10_chance 0 = .ok (.iload_n 1, 1) := by decide +kernel
theorem dX10_chance_1 : decode cX10_chance 1 = .ok (.invokestatic 61, 3) := by decide +kernel
theorem dX10_chance_4 : decode cX10_chance 4 = .ok (.ifCond .eq 10, 3) := by decide +kernel
theorem dX10_chance_7 : decode cX10_chance 7 = .ok (.iload_n 2, 1) := by decide +kernel
theorem dX10_chance_8 : decode cX10_chance 8 = .ok (.invokestatic 61, 3) := by decide +kernel
theorem dX10_chance_11 : decode cX10_chance 11 = .ok (.ifCond .ne 7, 3) := by decide +kernel
theorem dX10_chance_14 : decode cX10_chance 14 = .ok (.ldc2_w 159, 3) := by decide +kernel
theorem dX10_chance_17 : decode cX10_chance 17 = .ok (.lreturn, 1) := by decide +kernel
theorem dX10_chance_18 : decode cX10_chance 18 = .ok (.iload_n 3, 1) := by decide +kernel
theorem dX10_chance_19 : decode cX10_chance 19 = .ok (.iconst 0, 1) := by decide +kernel
theorem dX10_chance_20 : decode cX10_chance 20 = .ok (.bipush 10, 2) := by decide +kernel
theorem dX10_chance_22 : decode cX10_chance 22 = .ok (.invokestatic 57, 3) := by decide +kernel
theorem dX10_chance_25 : decode cX10_chance 25 = .ok (.ifCond .eq 13, 3) := by decide +kernel
theorem dX10_chance_28 : decode cX10_chance 28 = .ok (.iload 4, 2) := by decide +kernel
theorem dX10_chance_30 : decode cX10_chance 30 = .ok (.iconst 0, 1) := by decide +kernel
theorem dX10_chance_31 : decode cX10_chance 31 = .ok (.iconst 1, 1) := by decide +kernel
theorem dX10_chance_32 : decode cX10_chance 32 = .ok (.invokestatic 57, 3) := by decide +kernel
theorem dX10_chance_35 : decode cX10_chance 35 = .ok (.ifCond .ne 7, 3) := by decide +kernel
theorem dX10_chance_38 : decode cX10_chance 38 = .ok (.ldc2_w 161, 3) := by decide +kernel
theorem dX10_chance_41 : decode cX10_chance 41 = .ok (.lreturn, 1) := by decide +kernel
theorem dX10_chance_42 : decode cX10_chance 42 = .ok (.lconst 1, 1) := by decide +kernel
theorem dX10_chance_43 : decode cX10_chance 43 = .ok (.lstore 5, 2) := by decide +kernel
theorem dX10_chance_45 : decode cX10_chance 45 = .ok (.iconst 0, 1) := by decide +kernel
theorem dX10_chance_46 : decode cX10_chance 46 = .ok (.istore 7, 2) := by decide +kernel
theorem dX10_chance_48 : decode cX10_chance 48 = .ok (.iload 7, 2) := by decide +kernel
theorem dX10_chance_50 : decode cX10_chance 50 = .ok (.bipush 56, 2) := by decide +kernel
theorem dX10_chance_52 : decode cX10_chance 52 = .ok (.if_icmp .ge 33, 3) := by decide +kernel
theorem dX10_chance_55 : decode cX10_chance 55 = .ok (.aload_n 0, 1) := by decide +kernel
theorem dX10_chance_56 : decode cX10_chance 56 = .ok (.getfield 40, 3) := by decide +kernel
theorem dX10_chance_59 : decode cX10_chance 59 = .ok (.iload 7, 2) := by decide +kernel
theorem dX10_chance_61 : decode cX10_chance 61 = .ok (.iload 7, 2) := by decide +kernel
theorem dX10_chance_63 : decode cX10_chance 63 = .ok (.bipush 8, 2) := by decide +kernel
theorem dX10_chance_65 : decode cX10_chance 65 = .ok (.iload_n 1, 1) := by decide +kernel
theorem dX10_chance_66 : decode cX10_chance 66 = .ok (.imul, 1) := by decide +kernel
theorem dX10_chance_67 : decode cX10_chance 67 = .ok (.bipush 7, 2) := by decide +kernel
theorem dX10_chance_69 : decode cX10_chance 69 = .ok (.iadd, 1) := by decide +kernel
theorem dX10_chance_70 : decode cX10_chance 70 = .ok (.if_icmp .ne 7, 3) := by decide +kernel
theorem dX10_chance_73 : decode cX10_chance 73 = .ok (.lconst 1, 1) := by decide +kernel
theorem dX10_chance_74 : decode cX10_chance 74 = .ok (.goto 4, 3) := by decide +kernel
theorem dX10_chance_77 : decode cX10_chance 77 = .ok (.lconst 0, 1) := by decide +kernel
theorem dX10_chance_78 : decode cX10_chance 78 = .ok (.lastore, 1) := by decide +kernel
theorem dX10_chance_79 : decode cX10_chance 79 = .ok (.iinc 7 1, 3) := by decide +kernel
theorem dX10_chance_82 : decode cX10_chance 82 = .ok (.goto (-34), 3) := by decide +kernel
theorem dX10_chance_85 : decode cX10_chance 85 = .ok (.iconst 0, 1) := by decide +kernel
theorem dX10_chance_86 : decode cX10_chance 86 = .ok (.istore 7, 2) := by decide +kernel
theorem dX10_chance_88 : decode cX10_chance 88 = .ok (.iload 7, 2) := by decide +kernel
theorem dX10_chance_90 : decode cX10_chance 90 = .ok (.aload_n 0, 1) := by decide +kernel
theorem dX10_chance_91 : decode cX10_chance 91 = .ok (.getfield 149, 3) := by decide +kernel
theorem dX10_chance_94 : decode cX10_chance 94 = .ok (.if_icmp .ge 136, 3) := by decide +kernel
theorem dX10_chance_97 : decode cX10_chance 97 = .ok (.lload 5, 2) := by decide +kernel
theorem dX10_chance_99 : decode cX10_chance 99 = .ok (.ldc2_w 163, 3) := by decide +kernel
theorem dX10_chance_102 : decode cX10_chance 102 = .ok (.lmul, 1) := by decide +kernel
theorem dX10_chance_103 : decode cX10_chance 103 = .ok (.lstore 5, 2) := by decide +kernel
theorem dX10_chance_105 : decode cX10_chance 105 = .ok (.iconst 0, 1) := by decide +kernel
theorem dX10_chance_106 : decode cX10_chance 106 = .ok (.istore 8, 2) := by decide +kernel
theorem dX10_chance_108 : decode cX10_chance 108 = .ok (.iload 8, 2) := by decide +kernel
theorem dX10_chance_110 : decode cX10_chance 110 = .ok (.bipush 56, 2) := by decide +kernel
theorem dX10_chance_112 : decode cX10_chance 112 = .ok (.if_icmp .ge 17, 3) := by decide +kernel
theorem dX10_chance_115 : decode cX10_chance 115 = .ok (.aload_n 0, 1) := by decide +kernel
theorem dX10_chance_116 : decode cX10_chance 116 = .ok (.getfield 44, 3) := by decide +kernel
theorem dX10_chance_119 : decode cX10_chance 119 = .ok (.iload 8, 2) := by decide +kernel
theorem dX10_chance_121 : decode cX10_chance 121 = .ok (.lconst 0, 1) := by decide +kernel
theorem dX10_chance_122 : decode cX10_chance 122 = .ok (.lastore, 1) := by decide +kernel
theorem dX10_chance_123 : decode cX10_chance 123 = .ok (.iinc 8 1, 3) := by decide +kernel
theorem dX10_chance_126 : decode cX10_chance 126 = .ok (.goto (-18), 3) := by decide +kernel
theorem dX10_chance_129 : decode cX10_chance 129 = .ok (.iconst 0, 1) := by decide +kernel
theorem dX10_chance_130 : decode cX10_chance 130 = .ok (.istore 8, 2) := by decide +kernel
theorem dX10_chance_132 : decode cX10_chance 132 = .ok (.iload 8, 2) := by decide +kernel
theorem dX10_chance_134 : decode cX10_chance 134 = .ok (.bipush 56, 2) := by decide +kernel
theorem dX10_chance_136 : decode cX10_chance 136 = .ok (.if_icmp .ge 58, 3) := by decide +kernel
theorem dX10_chance_139 : decode cX10_chance 139 = .ok (.aload_n 0, 1) := by decide +kernel
theorem dX10_chance_140 : decode cX10_chance 140 = .ok (.getfield 44, 3) := by decide +kernel
theorem dX10_chance_143 : decode cX10_chance 143 = .ok (.aload_n 0, 1) := by decide +kernel
theorem dX10_chance_144 : decode cX10_chance 144 = .ok (.iload 7, 2) := by decide +kernel
theorem dX10_chance_146 : decode cX10_chance 146 = .ok (.iload 8, 2) := by decide +kernel
theorem dX10_chance_148 : decode cX10_chance 148 = .ok (.invokevirtual 152, 3) := by decide +kernel
theorem dX10_chance_151 : decode cX10_chance 151 = .ok (.dup2, 1) := by decide +kernel
theorem dX10_chance_152 : decode cX10_chance 152 = .ok (.laload, 1) := by decide +kernel
theorem dX10_chance_153 : decode cX10_chance 153 = .ok (.aload_n 0, 1) := by decide +kernel
theorem dX10_chance_154 : decode cX10_chance 154 = .ok (.getfield 40, 3) := by decide +kernel
theorem dX10_chance_157 : decode cX10_chance 157 = .ok (.iload 8, 2) := by decide +kernel
theorem dX10_chance_159 : decode cX10_chance 159 = .ok (.laload, 1) := by decide +kernel
theorem dX10_chance_160 : decode cX10_chance 160 = .ok (.iload_n 3, 1) := by decide +kernel
theorem dX10_chance_161 : decode cX10_chance 161 = .ok (.i2l, 1) := by decide +kernel
theorem dX10_chance_162 : decode cX10_chance 162 = .ok (.lmul, 1) := by decide +kernel
theorem dX10_chance_163 : decode cX10_chance 163 = .ok (.ladd, 1) := by decide +kernel
theorem dX10_chance_164 : decode cX10_chance 164 = .ok (.lastore, 1) := by decide +kernel
theorem dX10_chance_165 : decode cX10_chance 165 = .ok (.aload_n 0, 1) := by decide +kernel
theorem dX10_chance_166 : decode cX10_chance 166 = .ok (.getfield 44, 3) := by decide +kernel
theorem dX10_chance_169 : decode cX10_chance 169 = .ok (.iload 8, 2) := by decide +kernel
theorem dX10_chance_171 : decode cX10_chance 171 = .ok (.dup2, 1) := by decide +kernel
theorem dX10_chance_172 : decode cX10_chance 172 = .ok (.laload, 1) := by decide +kernel
theorem dX10_chance_173 : decode cX10_chance 173 = .ok (.aload_n 0, 1) := by decide +kernel
theorem dX10_chance_174 : decode cX10_chance 174 = .ok (.getfield 40, 3) := by decide +kernel
theorem dX10_chance_177 : decode cX10_chance 177 = .ok (.iload 8, 2) := by decide +kernel
theorem dX10_chance_179 : decode cX10_chance 179 = .ok (.laload, 1) := by decide +kernel
theorem dX10_chance_180 : decode cX10_chance 180 = .ok (.bipush 10, 2) := by decide +kernel
theorem dX10_chance_182 : decode cX10_chance 182 = .ok (.iload_n 3, 1) := by decide +kernel
theorem dX10_chance_183 : decode cX10_chance 183 = .ok (.isub, 1) := by decide +kernel
theorem dX10_chance_184 : decode cX10_chance 184 = .ok (.i2l, 1) := by decide +kernel
theorem dX10_chance_185 : decode cX10_chance 185 = .ok (.lmul, 1) := by decide +kernel
theorem dX10_chance_186 : decode cX10_chance 186 = .ok (.ladd, 1) := by decide +kernel
theorem dX10_chance_187 : decode cX10_chance 187 = .ok (.lastore, 1) := by decide +kernel
theorem dX10_chance_188 : decode cX10_chance 188 = .ok (.iinc 8 1, 3) := by decide +kernel
theorem dX10_chance_191 : decode cX10_chance 191 = .ok (.goto (-59), 3) := by decide +kernel
theorem dX10_chance_194 : decode cX10_chance 194 = .ok (.iconst 0, 1) := by decide +kernel
theorem dX10_chance_195 : decode cX10_chance 195 = .ok (.istore 8, 2) := by decide +kernel
theorem dX10_chance_197 : decode cX10_chance 197 = .ok (.iload 8, 2) := by decide +kernel
theorem dX10_chance_199 : decode cX10_chance 199 = .ok (.bipush 56, 2) := by decide +kernel
theorem dX10_chance_201 : decode cX10_chance 201 = .ok (.if_icmp .ge 23, 3) := by decide +kernel
theorem dX10_chance_204 : decode cX10_chance 204 = .ok (.aload_n 0, 1) := by decide +kernel
theorem dX10_chance_205 : decode cX10_chance 205 = .ok (.getfield 40, 3) := by decide +kernel
theorem dX10_chance_208 : decode cX10_chance 208 = .ok (.iload 8, 2) := by decide +kernel
theorem dX10_chance_210 : decode cX10_chance 210 = .ok (.aload_n 0, 1) := by decide +kernel
theorem dX10_chance_211 : decode cX10_chance 211 = .ok (.getfield 44, 3) := by decide +kernel
theorem dX10_chance_214 : decode cX10_chance 214 = .ok (.iload 8, 2) := by decide +kernel
theorem dX10_chance_216 : decode cX10_chance 216 = .ok (.laload, 1) := by decide +kernel
theorem dX10_chance_217 : decode cX10_chance 217 = .ok (.lastore, 1) := by decide +kernel
theorem dX10_chance_218 : decode cX10_chance 218 = .ok (.iinc 8 1, 3) := by decide +kernel
theorem dX10_chance_221 : decode cX10_chance 221 = .ok (.goto (-24), 3) := by decide +kernel
theorem dX10_chance_224 : decode cX10_chance 224 = .ok (.iinc 7 1, 3) := by decide +kernel
theorem dX10_chance_227 : decode cX10_chance 227 = .ok (.goto (-139), 3) := by decide +kernel
theorem dX10_chance_230 : decode cX10_chance 230 = .ok (.lconst 0, 1) := by decide +kernel
theorem dX10_chance_231 : decode cX10_chance 231 = .ok (.lstore 7, 2) := by decide +kernel
theorem dX10_chance_233 : decode cX10_chance 233 = .ok (.bipush 8, 2) := by decide +kernel
theorem dX10_chance_235 : decode cX10_chance 235 = .ok (.iload_n 2, 1) := by decide +kernel
theorem dX10_chance_236 : decode cX10_chance 236 = .ok (.imul, 1) := by decide +kernel
theorem dX10_chance_237 : decode cX10_chance 237 = .ok (.istore 9, 2) := by decide +kernel
theorem dX10_chance_239 : decode cX10_chance 239 = .ok (.iload 9, 2) := by decide +kernel
theorem dX10_chance_241 : decode cX10_chance 241 = .ok (.bipush 8, 2) := by decide +kernel
theorem dX10_chance_243 : decode cX10_chance 243 = .ok (.iload_n 2, 1) := by decide +kernel
theorem dX10_chance_244 : decode cX10_chance 244 = .ok (.imul, 1) := by decide +kernel
theorem dX10_chance_245 : decode cX10_chance 245 = .ok (.bipush 8, 2) := by decide +kernel
theorem dX10_chance_247 : decode cX10_chance 247 = .ok (.iadd, 1) := by decide +kernel
theorem dX10_chance_248 : decode cX10_chance 248 = .ok (.if_icmp .ge 21, 3) := by decide +kernel
theorem dX10_chance_251 : decode cX10_chance 251 = .ok (.lload 7, 2) := by decide +kernel
theorem dX10_chance_253 : decode cX10_chance 253 = .ok (.aload_n 0, 1) := by decide +kernel
theorem dX10_chance_254 : decode cX10_chance 254 = .ok (.getfield 40, 3) := by decide +kernel
theorem dX10_chance_257 : decode cX10_chance 257 = .ok (.iload 9, 2) := by decide +kernel
theorem dX10_chance_259 : decode cX10_chance 259 = .ok (.laload, 1) := by decide +kernel
theorem dX10_chance_260 : decode cX10_chance 260 = .ok (.ladd, 1) := by decide +kernel
theorem dX10_chance_261 : decode cX10_chance 261 = .ok (.lstore 7, 2) := by decide +kernel
theorem dX10_chance_263 : decode cX10_chance 263 = .ok (.iinc 9 1, 3) := by decide +kernel
theorem dX10_chance_266 : decode cX10_chance 266 = .ok (.goto (-27), 3) := by decide +kernel
theorem dX10_chance_269 : decode cX10_chance 269 = .ok (.lload 7, 2) := by decide +kernel
theorem dX10_chance_271 : decode cX10_chance 271 = .ok (.lstore 9, 2) := by decide +kernel
theorem dX10_chance_273 : decode cX10_chance 273 = .ok (.lload 5, 2) := by decide +kernel
theorem dX10_chance_275 : decode cX10_chance 275 = .ok (.lstore 11, 2) := by decide +kernel
theorem dX10_chance_277 : decode cX10_chance 277 = .ok (.lload 11, 2) := by decide +kernel
theorem dX10_chance_279 : decode cX10_chance 279 = .ok (.lconst 0, 1) := by decide +kernel
theorem dX10_chance_280 : decode cX10_chance 280 = .ok (.lcmp, 1) := by decide +kernel
theorem dX10_chance_281 : decode cX10_chance 281 = .ok (.ifCond .eq 21, 3) := by decide +kernel
theorem dX10_chance_284 : decode cX10_chance 284 = .ok (.lload 9, 2) := by decide +kernel
theorem dX10_chance_286 : decode cX10_chance 286 = .ok (.lload 11, 2) := by decide +kernel
theorem dX10_chance_288 : decode cX10_chance 288 = .ok (.lrem, 1) := by decide +kernel
theorem dX10_chance_289 : decode cX10_chance 289 = .ok (.lstore 13, 2) := by decide +kernel
theorem dX10_chance_291 : decode cX10_chance 291 = .ok (.lload 11, 2) := by decide +kernel
theorem dX10_chance_293 : decode cX10_chance 293 = .ok (.lstore 9, 2) := by decide +kernel
theorem dX10_chance_295 : decode cX10_chance 295 = .ok (.lload 13, 2) := by decide +kernel
theorem dX10_chance_297 : decode cX10_chance 297 = .ok (.lstore 11, 2) := by decide +kernel
theorem dX10_chance_299 : decode cX10_chance 299 = .ok (.goto (-22), 3) := by decide +kernel
theorem dX10_chance_302 : decode cX10_chance 302 = .ok (.iload 4, 2) := by decide +kernel
theorem dX10_chance_304 : decode cX10_chance 304 = .ok (.ifCond .ne 11, 3) := by decide +kernel
theorem dX10_chance_307 : decode cX10_chance 307 = .ok (.lload 7, 2) := by decide +kernel
theorem dX10_chance_309 : decode cX10_chance 309 = .ok (.lload 9, 2) := by decide +kernel
theorem dX10_chance_311 : decode cX10_chance 311 = .ok (.ldiv, 1) := by decide +kernel
theorem dX10_chance_312 : decode cX10_chance 312 = .ok (.goto 8, 3) := by decide +kernel
theorem dX10_chance_315 : decode cX10_chance 315 = .ok (.lload 5, 2) := by decide +kernel
theorem dX10_chance_317 : decode cX10_chance 317 = .ok (.lload 9, 2) := by decide +kernel
theorem dX10_chance_319 : decode cX10_chance 319 = .ok (.ldiv, 1) := by decide +kernel
theorem dX10_chance_320 : decode cX10_chance 320 = .ok (.lreturn, 1) := by decide +kernel
set_option maxRecDepth 20000 in
theorem ggX10_seen_X10_isPlace : GoodIn wsX10_seen wsX10_isPlace := goodIn_r _ [6, 7, 8, 5, 9] (by decide +kernel) (by decide +kernel)
set_option maxRecDepth 20000 in
theorem gX10_seen_X10_isPlace : GoodIn wsX10_seen (va_wsS RX10 73 yX10_isPlace wsX10_isPlace) := goodIn_app (goodIn_of _ (by decide +kernel)) ggX10_seen_X10_isPlace
theorem dX10_seen_0 : decode cX10_seen 0 = .ok (.iload_n 1, 1) := by decide +kernel
theorem dX10_seen_1 : decode cX10_seen 1 = .ok (.invokestatic 73, 3) := by decide +kernel
theorem dX10_seen_4 : decode cX10_seen 4 = .ok (.ifCond .eq 10, 3) := by decide +kernel
theorem dX10_seen_7 : decode cX10_seen 7 = .ok (.iload_n 2, 1) := by decide +kernel
theorem dX10_seen_8 : decode cX10_seen 8 = .ok (.invokestatic 73, 3) := by decide +kernel
theorem dX10_seen_11 : decode cX10_seen 11 = .ok (.ifCond .ne 5, 3) := by decide +kernel
theorem dX10_seen_14 : decode cX10_seen 14 = .ok (.iconst (-1), 1) := by decide +kernel
theorem dX10_seen_15 : decode cX10_seen 15 = .ok (.ireturn, 1) := by decide +kernel
theorem dX10_seen_16 : decode cX10_seen 16 = .ok (.aload_n 0, 1) := by decide +kernel
theorem dX10_seen_17 : decode cX10_seen 17 = .ok (.getfield 165, 3) := by decide +kernel
theorem dX10_seen_20 : decode cX10_seen 20 = .ok (.bipush 8, 2) := by decide +kernel
theorem dX10_seen_22 : decode cX10_seen 22 = .ok (.if_icmp .ne 6, 3) := by decide +kernel
theorem dX10_seen_25 : decode cX10_seen 25 = .ok (.bipush (-4), 2) := by decide +kernel
theorem dX10_seen_27 : decode cX10_seen 27 = .ok (.ireturn, 1) := by decide +kernel
theorem dX10_seen_28 : decode cX10_seen 28 = .ok (.aload_n 0, 1) := by decide +kernel
theorem dX10_seen_29 : decode cX10_seen 29 = .ok (.getfield 22, 3) := by decide +kernel
theorem dX10_seen_32 : decode cX10_seen 32 = .ok (.iconst 3, 1) := by decide +kernel
theorem dX10_seen_33 : decode cX10_seen 33 = .ok (.aload_n 0, 1) := by decide +kernel
theorem dX10_seen_34 : decode cX10_seen 34 = .ok (.getfield 165, 3) := by decide +kernel
theorem dX10_seen_37 : decode cX10_seen 37 = .ok (.imul, 1) := by decide +kernel
theorem dX10_seen_38 : decode cX10_seen 38 = .ok (.iload_n 1, 1) := by decide +kernel
theorem dX10_seen_39 : decode cX10_seen 39 = .ok (.iastore, 1) := by decide +kernel
theorem dX10_seen_40 : decode cX10_seen 40 = .ok (.aload_n 0, 1) := by decide +kernel
theorem dX10_seen_41 : decode cX10_seen 41 = .ok (.getfield 22, 3) := by decide +kernel
theorem dX10_seen_44 : decode cX10_seen 44 = .ok (.iconst 3, 1) := by decide +kernel
theorem dX10_seen_45 : decode cX10_seen 45 = .ok (.aload_n 0, 1) := by decide +kernel
theorem dX10_seen_46 : decode cX10_seen 46 = .ok (.getfield 165, 3) := by decide +kernel
theorem dX10_seen_49 : decode cX10_seen 49 = .ok (.imul, 1) := by decide +kernel
theorem dX10_seen_50 : decode cX10_seen 50 = .ok (.iconst 1, 1) := by decide +kernel
theorem dX10_seen_51 : decode cX10_seen 51 = .ok (.iadd, 1) := by decide +kernel
theorem dX10_seen_52 : decode cX10_seen 52 = .ok (.iload_n 2, 1) := by decide +kernel
theorem dX10_seen_53 : decode cX10_seen 53 = .ok (.iastore, 1) := by decide +kernel
theorem dX10_seen_54 : decode cX10_seen 54 = .ok (.aload_n 0, 1) := by decide +kernel
theorem dX10_seen_55 : decode cX10_seen 55 = .ok (.getfield 22, 3) := by decide +kernel
theorem dX10_seen_58 : decode cX10_seen 58 = .ok (.iconst 3, 1) := by decide +kernel
theorem dX10_seen_59 : decode cX10_seen 59 = .ok (.aload_n 0, 1) := by decide +kernel
theorem dX10_seen_60 : decode cX10_seen 60 = .ok (.getfield 165, 3) := by decide +kernel
theorem dX10_seen_63 : decode cX10_seen 63 = .ok (.imul, 1) := by decide +kernel
theorem dX10_seen_64 : decode cX10_seen 64 = .ok (.iconst 2, 1) := by decide +kernel
theorem dX10_seen_65 : decode cX10_seen 65 = .ok (.iadd, 1) := by decide +kernel
theorem dX10_seen_66 : decode cX10_seen 66 = .ok (.iload_n 3, 1) := by decide +kernel
theorem dX10_seen_67 : decode cX10_seen 67 = .ok (.ifCond .eq 7, 3) := by decide +kernel
theorem dX10_seen_70 : decode cX10_seen 70 = .ok (.iconst 1, 1) := by decide +kernel
theorem dX10_seen_71 : decode cX10_seen 71 = .ok (.goto 4, 3) := by decide +kernel
theorem dX10_seen_74 : decode cX10_seen 74 = .ok (.iconst 0, 1) := by decide +kernel
theorem dX10_seen_75 : decode cX10_seen 75 = .ok (.iastore, 1) := by decide +kernel
theorem dX10_seen_76 : decode cX10_seen 76 = .ok (.aload_n 0, 1) := by decide +kernel
theorem dX10_seen_77 : decode cX10_seen 77 = .ok (.dup, 1) := by decide +kernel
theorem dX10_seen_78 : decode cX10_seen 78 = .ok (.getfield 165, 3) := by decide +kernel
theorem dX10_seen_81 : decode cX10_seen 81 = .ok (.iconst 1, 1) := by decide +kernel
theorem dX10_seen_82 : decode cX10_seen 82 = .ok (.iadd, 1) := by decide +kernel
theorem dX10_seen_83 : decode cX10_seen 83 = .ok (.putfield 165, 3) := by decide +kernel
theorem dX10_seen_86 : decode cX10_seen 86 = .ok (.aload_n 0, 1) := by decide +kernel
theorem dX10_seen_87 : decode cX10_seen 87 = .ok (.getfield 165, 3) := by decide +kernel
theorem dX10_seen_90 : decode cX10_seen 90 = .ok (.ireturn, 1) := by decide +kernel
theorem dX10_forget_0 : decode cX10_forget 0 = .ok (.aload_n 0, 1) := by decide +kernel
theorem dX10_forget_1 : decode cX10_forget 1 = .ok (.getfield 165, 3) := by decide +kernel
theorem dX10_forget_4 : decode cX10_forget 4 = .ok (.istore_n 1, 1) := by decide +kernel
theorem dX10_forget_5 : decode cX10_forget 5 = .ok (.aload_n 0, 1) := by decide +kernel
theorem dX10_forget_6 : decode cX10_forget 6 = .ok (.iconst 0, 1) := by decide +kernel
theorem dX10_forget_7 : decode cX10_forget 7 = .ok (.putfield 165, 3) := by decide +kernel
theorem dX10_forget_10 : decode cX10_forget 10 = .ok (.iload_n 1, 1) := by decide +kernel
theorem dX10_forget_11 : decode cX10_forget 11 = .ok (.ireturn, 1) := by decide +kernel
set_option maxRecDepth 20000 in
theorem ggX10_lairSet_X10_layFar : GoodIn wsX10_lairSet wsX10_layFar := goodIn_r _ [9, 2, 10, 4, 11, 12, 8, 13, 14, 15, 16, 17, 18, 19, 20, 21, 22, 23, 24, 25, 26, 27, 28, 29, 30, 31, 32, 33, 34, 35, 36, 37] (by decide +kernel) (by decide +kernel)
set_option maxRecDepth 20000 in
theorem gX10_lairSet_X10_layFar : GoodIn wsX10_lairSet (wsV RX10 134 RX10 yX10_layFar wsX10_layFar) := goodIn_app (goodIn_of _ (by decide +kernel)) ggX10_lairSet_X10_layFar
theorem dX10_lairSet_0 : decode cX10_lairSet 0 = .ok (.aload_n 0, 1) := by decide +kernel
theorem dX10_lairSet_1 : decode cX10_lairSet 1 = .ok (.invokevirtual 134, 3) := by decide +kernel
theorem dX10_lairSet_4 : decode cX10_lairSet 4 = .ok (.iconst 0, 1) := by decide +kernel
theorem dX10_lairSet_5 : decode cX10_lairSet 5 = .ok (.istore_n 1, 1) := by decide +kernel
theorem dX10_lairSet_6 : decode cX10_lairSet 6 = .ok (.iconst 0, 1) := by decide +kernel
theorem dX10_lairSet_7 : decode cX10_lairSet 7 = .ok (.istore_n 2, 1) := by decide +kernel
theorem dX10_lairSet_8 : decode cX10_lairSet 8 = .ok (.iload_n 2, 1) := by decide +kernel
theorem dX10_lairSet_9 : decode cX10_lairSet 9 = .ok (.bipush 12, 2) := by decide +kernel
theorem dX10_lairSet_11 : decode cX10_lairSet 11 = .ok (.if_icmp .ge 137, 3) := by decide +kernel
theorem dX10_lairSet_14 : decode cX10_lairSet 14 = .ok (.iconst 1, 1) := by decide +kernel
theorem dX10_lairSet_15 : decode cX10_lairSet 15 = .ok (.istore_n 3, 1) := by decide +kernel
theorem dX10_lairSet_16 : decode cX10_lairSet 16 = .ok (.iconst 0, 1) := by decide +kernel
theorem dX10_lairSet_17 : decode cX10_lairSet 17 = .ok (.istore 4, 2) := by decide +kernel
theorem dX10_lairSet_19 : decode cX10_lairSet 19 = .ok (.iload 4, 2) := by decide +kernel
theorem dX10_lairSet_21 : decode cX10_lairSet 21 = .ok (.aload_n 0, 1) := by decide +kernel
theorem dX10_lairSet_22 : decode cX10_lairSet 22 = .ok (.getfield 165, 3) := by decide +kernel
theorem dX10_lairSet_25 : decode cX10_lairSet 25 = .ok (.if_icmp .ge 103, 3) := by decide +kernel
theorem dX10_lairSet_28 : decode cX10_lairSet 28 = .ok (.aload_n 0, 1) := by decide +kernel
theorem dX10_lairSet_29 : decode cX10_lairSet 29 = .ok (.getfield 28, 3) := by decide +kernel
theorem dX10_lairSet_32 : decode cX10_lairSet 32 = .ok (.bipush 12, 2) := by decide +kernel
theorem dX10_lairSet_34 : decode cX10_lairSet 34 = .ok (.iload_n 2, 1) := by decide +kernel
theorem dX10_lairSet_35 : decode cX10_lairSet 35 = .ok (.imul, 1) := by decide +kernel
theorem dX10_lairSet_36 : decode cX10_lairSet 36 = .ok (.aload_n 0, 1) := by decide +kernel
theorem dX10_lairSet_37 : decode cX10_lairSet 37 = .ok (.getfield 22, 3) := by decide +kernel
theorem dX10_lairSet_40 : decode cX10_lairSet 40 = .ok (.iconst 3, 1) := by decide +kernel
theorem dX10_lairSet_41 : decode cX10_lairSet 41 = .ok (.iload 4, 2) := by decide +kernel
theorem dX10_lairSet_43 : decode cX10_lairSet 43 = .ok (.imul, 1) := by decide +kernel
theorem dX10_lairSet_44 : decode cX10_lairSet 44 = .ok (.iaload, 1) := by decide +kernel
theorem dX10_lairSet_45 : decode cX10_lairSet 45 = .ok (.iadd, 1) := by decide +kernel
theorem dX10_lairSet_46 : decode cX10_lairSet 46 = .ok (.iaload, 1) := by decide +kernel
theorem dX10_lairSet_47 : decode cX10_lairSet 47 = .ok (.istore 5, 2) := by decide +kernel
theorem dX10_lairSet_49 : decode cX10_lairSet 49 = .ok (.aload_n 0, 1) := by decide +kernel
theorem dX10_lairSet_50 : decode cX10_lairSet 50 = .ok (.getfield 28, 3) := by decide +kernel
theorem dX10_lairSet_53 : decode cX10_lairSet 53 = .ok (.bipush 12, 2) := by decide +kernel
theorem dX10_lairSet_55 : decode cX10_lairSet 55 = .ok (.iload_n 2, 1) := by decide +kernel
theorem dX10_lairSet_56 : decode cX10_lairSet 56 = .ok (.imul, 1) := by decide +kernel
theorem dX10_lairSet_57 : decode cX10_lairSet 57 = .ok (.aload_n 0, 1) := by decide +kernel
theorem dX10_lairSet_58 : decode cX10_lairSet 58 = .ok (.getfield 22, 3) := by decide +kernel
theorem dX10_lairSet_61 : decode cX10_lairSet 61 = .ok (.iconst 3, 1) := by decide +kernel
theorem dX10_lairSet_62 : decode cX10_lairSet 62 = .ok (.iload 4, 2) := by decide +kernel
theorem dX10_lairSet_64 : decode cX10_lairSet 64 = .ok (.imul, 1) := by decide +kernel
theorem dX10_lairSet_65 : decode cX10_lairSet 65 = .ok (.iconst 1, 1) := by decide +kernel
theorem dX10_lairSet_66 : decode cX10_lairSet 66 = .ok (.iadd, 1) := by decide +kernel
theorem dX10_lairSet_67 : decode cX10_lairSet 67 = .ok (.iaload, 1) := by decide +kernel
theorem dX10_lairSet_68 : decode cX10_lairSet 68 = .ok (.iadd, 1) := by decide +kernel
theorem dX10_lairSet_69 : decode cX10_lairSet 69 = .ok (.iaload, 1) := by decide +kernel
theorem dX10_lairSet_70 : decode cX10_lairSet 70 = .ok (.istore 6, 2) := by decide +kernel
theorem dX10_lairSet_72 : decode cX10_lairSet 72 = .ok (.iload_n 3, 1) := by decide +kernel
theorem dX10_lairSet_73 : decode cX10_lairSet 73 = .ok (.ifCond .eq 47, 3) := by decide +kernel
theorem dX10_lairSet_76 : decode cX10_lairSet 76 = .ok (.iload 5, 2) := by decide +kernel
theorem dX10_lairSet_78 : decode cX10_lairSet 78 = .ok (.ldc 133, 2) := by decide +kernel
theorem dX10_lairSet_80 : decode cX10_lairSet 80 = .ok (.if_icmp .ge 40, 3) := by decide +kernel
theorem dX10_lairSet_83 : decode cX10_lairSet 83 = .ok (.iload 6, 2) := by decide +kernel
theorem dX10_lairSet_85 : decode cX10_lairSet 85 = .ok (.ldc 133, 2) := by decide +kernel
theorem dX10_lairSet_87 : decode cX10_lairSet 87 = .ok (.if_icmp .ge 33, 3) := by decide +kernel
theorem dX10_lairSet_90 : decode cX10_lairSet 90 = .ok (.iload 6, 2) := by decide +kernel
theorem dX10_lairSet_92 : decode cX10_lairSet 92 = .ok (.iload 5, 2) := by decide +kernel
theorem dX10_lairSet_94 : decode cX10_lairSet 94 = .ok (.if_icmp .ge 7, 3) := by decide +kernel
theorem dX10_lairSet_97 : decode cX10_lairSet 97 = .ok (.iconst 1, 1) := by decide +kernel
theorem dX10_lairSet_98 : decode cX10_lairSet 98 = .ok (.goto 4, 3) := by decide +kernel
theorem dX10_lairSet_101 : decode cX10_lairSet 101 = .ok (.iconst 0, 1) := by decide +kernel
theorem dX10_lairSet_102 : decode cX10_lairSet 102 = .ok (.aload_n 0, 1) := by decide +kernel
theorem dX10_lairSet_103 : decode cX10_lairSet 103 = .ok (.getfield 22, 3) := by decide +kernel
theorem dX10_lairSet_106 : decode cX10_lairSet 106 = .ok (.iconst 3, 1) := by decide +kernel
theorem dX10_lairSet_107 : decode cX10_lairSet 107 = .ok (.iload 4, 2) := by decide +kernel
theorem dX10_lairSet_109 : decode cX10_lairSet 109 = .ok (.imul, 1) := by decide +kernel
theorem dX10_lairSet_110 : decode cX10_lairSet 110 = .ok (.iconst 2, 1) := by decide +kernel
theorem dX10_lairSet_111 : decode cX10_lairSet 111 = .ok (.iadd, 1) := by decide +kernel
theorem dX10_lairSet_112 : decode cX10_lairSet 112 = .ok (.iaload, 1) := by decide +kernel
theorem dX10_lairSet_113 : decode cX10_lairSet 113 = .ok (.if_icmp .ne 7, 3) := by decide +kernel
theorem dX10_lairSet_116 : decode cX10_lairSet 116 = .ok (.iconst 1, 1) := by decide +kernel
theorem dX10_lairSet_117 : decode cX10_lairSet 117 = .ok (.goto 4, 3) := by decide +kernel
theorem dX10_lairSet_120 : decode cX10_lairSet 120 = .ok (.iconst 0, 1) := by decide +kernel
theorem dX10_lairSet_121 : decode cX10_lairSet 121 = .ok (.istore_n 3, 1) := by decide +kernel
theorem dX10_lairSet_122 : decode cX10_lairSet 122 = .ok (.iinc 4 1, 3) := by decide +kernel
theorem dX10_lairSet_125 : decode cX10_lairSet 125 = .ok (.goto (-106), 3) := by decide +kernel
theorem dX10_lairSet_128 : decode cX10_lairSet 128 = .ok (.iload_n 1, 1) := by decide +kernel
theorem dX10_lairSet_129 : decode cX10_lairSet 129 = .ok (.iload_n 3, 1) := by decide +kernel
theorem dX10_lairSet_130 : decode cX10_lairSet 130 = .ok (.ifCond .eq 9, 3) := by decide +kernel
theorem dX10_lairSet_133 : decode cX10_lairSet 133 = .ok (.iconst 1, 1) := by decide +kernel
theorem dX10_lairSet_134 : decode cX10_lairSet 134 = .ok (.iload_n 2, 1) := by decide +kernel
theorem dX10_lairSet_135 : decode cX10_lairSet 135 = .ok (.ishl, 1) := by decide +kernel
theorem dX10_lairSet_136 : decode cX10_lairSet 136 = .ok (.goto 4, 3) := by decide +kernel
theorem dX10_lairSet_139 : decode cX10_lairSet 139 = .ok (.iconst 0, 1) := by decide +kernel
theorem dX10_lairSet_140 : decode cX10_lairSet 140 = .ok (.ior, 1) := by decide +kernel
theorem dX10_lairSet_141 : decode cX10_lairSet 141 = .ok (.istore_n 1, 1) := by decide +kernel
theorem dX10_lairSet_142 : decode cX10_lairSet 142 = .ok (.iinc 2 1, 3) := by decide +kernel
theorem dX10_lairSet_145 : decode cX10_lairSet 145 = .ok (.goto (-137), 3) := by decide +kernel
theorem dX10_lairSet_148 : decode cX10_lairSet 148 = .ok (.iload_n 1, 1) := by decide +kernel
theorem dX10_lairSet_149 : decode cX10_lairSet 149 = .ok (.ireturn, 1) := by decide +kernel
set_option maxRecDepth 20000 in
theorem ggX10_lairs_X10_lairSet : GoodIn wsX10_lairs wsX10_lairSet := goodIn_r _ [5, 6, 7, 8, 9, 10, 11, 12, 4, 13, 14, 15, 16, 17, 18, 19, 20, 21, 22, 23, 24, 25, 26, 27, 28, 29, 30, 31, 32, 33, 34, 35, 36, 37, 38, 39, 40, 41] (by decide +kernel) (by decide +kernel)
set_option maxRecDepth 20000 in
theorem gX10_lairs_X10_lairSet : GoodIn wsX10_lairs (wsV RX10 168 RX10 yX10_lairSet wsX10_lairSet) := goodIn_app (goodIn_of _ (by decide +kernel)) ggX10_lairs_X10_lairSet
theorem dX10_lairs_0 : decode cX10_lairs 0 = .ok (.aload_n 0, 1) := by decide +kernel
theorem dX10_lairs_1 : decode cX10_lairs 1 = .ok (.invokevirtual 168, 3) := by decide +kernel
theorem dX10_lairs_4 : decode cX10_lairs 4 = .ok (.ireturn, 1) := by decide +kernel
set_option maxRecDepth 20000 in
theorem ggX10_ask_X10_in : GoodIn wsX10_ask wsX10_in := goodIn_r _ [7] (by decide +kernel) (by decide +kernel)
set_option maxRecDepth 20000 in
theorem gX10_ask_X10_in : GoodIn wsX10_ask (va_wsS RX10 57 yX10_in wsX10_in) := goodIn_app (goodIn_of _ (by decide +kernel)) ggX10_ask_X10_in
set_option maxRecDepth 20000 in
theorem ggX10_ask_X10_lairSet : GoodIn wsX10_ask wsX10_lairSet := goodIn_r _ [11, 12, 3, 13, 1, 14, 15, 16, 6, 17, 18, 19, 20, 21, 22, 23, 24, 25, 26, 27, 28, 29, 30, 31, 32, 33, 34, 35, 36, 37, 38, 39, 40, 41, 42, 43, 44, 45] (by decide +kernel) (by decide +kernel)
set_option maxRecDepth 20000 in
theorem gX10_ask_X10_lairSet : GoodIn wsX10_ask (wsV RX10 168 RX10 yX10_lairSet wsX10_lairSet) := goodIn_app (goodIn_of _ (by decide +kernel)) ggX10_ask_X10_lairSet
set_option maxRecDepth 20000 in
theorem ggX10_ask_X10_has : GoodIn wsX10_ask wsX10_has := goodIn_r _ [21] (by decide +kernel) (by decide +kernel)
set_option maxRecDepth 20000 in
theorem gX10_ask_X10_has : GoodIn wsX10_ask (va_wsS RX10 69 yX10_has wsX10_has) := goodIn_app (goodIn_of _ (by decide +kernel)) ggX10_ask_X10_has
theorem dX10_ask_0 : decode cX10_ask 0 = .ok (.iload_n 1, 1) := by decide +kernel
theorem dX10_ask_1 : decode cX10_ask 1 = .ok (.iconst 0, 1) := by decide +kernel
theorem dX10_ask_2 : decode cX10_ask 2 = .ok (.iconst 1, 1) := by decide +kernel
theorem dX10_ask_3 : decode cX10_ask 3 = .ok (.invokestatic 57, 3) := by decide +kernel
theorem dX10_ask_6 : decode cX10_ask 6 = .ok (.ifCond .ne 6, 3) := by decide +kernel
theorem dX10_ask_9 : decode cX10_ask 9 = .ok (.bipush (-2), 2) := by decide +kernel
theorem dX10_ask_11 : decode cX10_ask 11 = .ok (.ireturn, 1) := by decide +kernel
theorem dX10_ask_12 : decode cX10_ask 12 = .ok (.aload_n 0, 1) := by decide +kernel
theorem dX10_ask_13 : decode cX10_ask 13 = .ok (.invokevirtual 168, 3) := by decide +kernel
theorem dX10_ask_16 : decode cX10_ask 16 = .ok (.istore_n 2, 1) := by decide +kernel
theorem dX10_ask_17 : decode cX10_ask 17 = .ok (.bipush (-6), 2) := by decide +kernel
theorem dX10_ask_19 : decode cX10_ask 19 = .ok (.istore_n 3, 1) := by decide +kernel
theorem dX10_ask_20 : decode cX10_ask 20 = .ok (.ldc 133, 2) := by decide +kernel
theorem dX10_ask_22 : decode cX10_ask 22 = .ok (.istore 4, 2) := by decide +kernel
theorem dX10_ask_24 : decode cX10_ask 24 = .ok (.iconst 0, 1) := by decide +kernel
theorem dX10_ask_25 : decode cX10_ask 25 = .ok (.istore 5, 2) := by decide +kernel
theorem dX10_ask_27 : decode cX10_ask 27 = .ok (.iload 5, 2) := by decide +kernel
theorem dX10_ask_29 : decode cX10_ask 29 = .ok (.bipush 12, 2) := by decide +kernel
theorem dX10_ask_31 : decode cX10_ask 31 = .ok (.if_icmp .ge 170, 3) := by decide +kernel
theorem dX10_ask_34 : decode cX10_ask 34 = .ok (.iload_n 2, 1) := by decide +kernel
theorem dX10_ask_35 : decode cX10_ask 35 = .ok (.ifCond .eq 166, 3) := by decide +kernel
theorem dX10_ask_38 : decode cX10_ask 38 = .ok (.iconst 0, 1) := by decide +kernel
theorem dX10_ask_39 : decode cX10_ask 39 = .ok (.istore 6, 2) := by decide +kernel
theorem dX10_ask_41 : decode cX10_ask 41 = .ok (.iconst 0, 1) := by decide +kernel
theorem dX10_ask_42 : decode cX10_ask 42 = .ok (.istore 7, 2) := by decide +kernel
theorem dX10_ask_44 : decode cX10_ask 44 = .ok (.iload 7, 2) := by decide +kernel
theorem dX10_ask_46 : decode cX10_ask 46 = .ok (.bipush 13, 2) := by decide +kernel
theorem dX10_ask_48 : decode cX10_ask 48 = .ok (.if_icmp .ge 17, 3) := by decide +kernel
theorem dX10_ask_51 : decode cX10_ask 51 = .ok (.aload_n 0, 1) := by decide +kernel
theorem dX10_ask_52 : decode cX10_ask 52 = .ok (.getfield 47, 3) := by decide +kernel
theorem dX10_ask_55 : decode cX10_ask 55 = .ok (.iload 7, 2) := by decide +kernel
theorem dX10_ask_57 : decode cX10_ask 57 = .ok (.iconst 0, 1) := by decide +kernel
theorem dX10_ask_58 : decode cX10_ask 58 = .ok (.iastore, 1) := by decide +kernel
theorem dX10_ask_59 : decode cX10_ask 59 = .ok (.iinc 7 1, 3) := by decide +kernel
theorem dX10_ask_62 : decode cX10_ask 62 = .ok (.goto (-18), 3) := by decide +kernel
theorem dX10_ask_65 : decode cX10_ask 65 = .ok (.iconst 0, 1) := by decide +kernel
theorem dX10_ask_66 : decode cX10_ask 66 = .ok (.istore 7, 2) := by decide +kernel
theorem dX10_ask_68 : decode cX10_ask 68 = .ok (.iload 7, 2) := by decide +kernel
theorem dX10_ask_70 : decode cX10_ask 70 = .ok (.bipush 12, 2) := by decide +kernel
theorem dX10_ask_72 : decode cX10_ask 72 = .ok (.if_icmp .ge 93, 3) := by decide +kernel
theorem dX10_ask_75 : decode cX10_ask 75 = .ok (.iload_n 2, 1) := by decide +kernel
theorem dX10_ask_76 : decode cX10_ask 76 = .ok (.iload 7, 2) := by decide +kernel
theorem dX10_ask_78 : decode cX10_ask 78 = .ok (.invokestatic 69, 3) := by decide +kernel
theorem dX10_ask_81 : decode cX10_ask 81 = .ok (.ifCond .eq 78, 3) := by decide +kernel
theorem dX10_ask_84 : decode cX10_ask 84 = .ok (.aload_n 0, 1) := by decide +kernel
theorem dX10_ask_85 : decode cX10_ask 85 = .ok (.getfield 28, 3) := by decide +kernel
theorem dX10_ask_88 : decode cX10_ask 88 = .ok (.bipush 12, 2) := by decide +kernel
theorem dX10_ask_90 : decode cX10_ask 90 = .ok (.iload 5, 2) := by decide +kernel
theorem dX10_ask_92 : decode cX10_ask 92 = .ok (.imul, 1) := by decide +kernel
theorem dX10_ask_93 : decode cX10_ask 93 = .ok (.iload 7, 2) := by decide +kernel
theorem dX10_ask_95 : decode cX10_ask 95 = .ok (.iadd, 1) := by decide +kernel
theorem dX10_ask_96 : decode cX10_ask 96 = .ok (.iaload, 1) := by decide +kernel
theorem dX10_ask_97 : decode cX10_ask 97 = .ok (.bipush 12, 2) := by decide +kernel
theorem dX10_ask_99 : decode cX10_ask 99 = .ok (.if_icmp .ge 19, 3) := by decide +kernel
theorem dX10_ask_102 : decode cX10_ask 102 = .ok (.aload_n 0, 1) := by decide +kernel
theorem dX10_ask_103 : decode cX10_ask 103 = .ok (.getfield 28, 3) := by decide +kernel
theorem dX10_ask_106 : decode cX10_ask 106 = .ok (.bipush 12, 2) := by decide +kernel
theorem dX10_ask_108 : decode cX10_ask 108 = .ok (.iload 5, 2) := by decide +kernel
theorem dX10_ask_110 : decode cX10_ask 110 = .ok (.imul, 1) := by decide +kernel
theorem dX10_ask_111 : decode cX10_ask 111 = .ok (.iload 7, 2) := by decide +kernel
theorem dX10_ask_113 : decode cX10_ask 113 = .ok (.iadd, 1) := by decide +kernel
theorem dX10_ask_114 : decode cX10_ask 114 = .ok (.iaload, 1) := by decide +kernel
theorem dX10_ask_115 : decode cX10_ask 115 = .ok (.goto 5, 3) := by decide +kernel
theorem dX10_ask_118 : decode cX10_ask 118 = .ok (.bipush 12, 2) := by decide +kernel
theorem dX10_ask_120 : decode cX10_ask 120 = .ok (.istore 8, 2) := by decide +kernel
theorem dX10_ask_122 : decode cX10_ask 122 = .ok (.aload_n 0, 1) := by decide +kernel
theorem dX10_ask_123 : decode cX10_ask 123 = .ok (.getfield 47, 3) := by decide +kernel
theorem dX10_ask_126 : decode cX10_ask 126 = .ok (.iload 8, 2) := by decide +kernel
theorem dX10_ask_128 : decode cX10_ask 128 = .ok (.dup2, 1) := by decide +kernel
theorem dX10_ask_129 : decode cX10_ask 129 = .ok (.iaload, 1) := by decide +kernel
theorem dX10_ask_130 : decode cX10_ask 130 = .ok (.iconst 1, 1) := by decide +kernel
theorem dX10_ask_131 : decode cX10_ask 131 = .ok (.iadd, 1) := by decide +kernel
theorem dX10_ask_132 : decode cX10_ask 132 = .ok (.iastore, 1) := by decide +kernel
theorem dX10_ask_133 : decode cX10_ask 133 = .ok (.aload_n 0, 1) := by decide +kernel
theorem dX10_ask_134 : decode cX10_ask 134 = .ok (.getfield 47, 3) := by decide +kernel
theorem dX10_ask_137 : decode cX10_ask 137 = .ok (.iload 8, 2) := by decide +kernel
theorem dX10_ask_139 : decode cX10_ask 139 = .ok (.iaload, 1) := by decide +kernel
theorem dX10_ask_140 : decode cX10_ask 140 = .ok (.iload 6, 2) := by decide +kernel
theorem dX10_ask_142 : decode cX10_ask 142 = .ok (.if_icmp .le 13, 3) := by decide +kernel
theorem dX10_ask_145 : decode cX10_ask 145 = .ok (.aload_n 0, 1) := by decide +kernel
theorem dX10_ask_146 : decode cX10_ask 146 = .ok (.getfield 47, 3) := by decide +kernel
theorem dX10_ask_149 : decode cX10_ask 149 = .ok (.iload 8, 2) := by decide +kernel
theorem dX10_ask_151 : decode cX10_ask 151 = .ok (.iaload, 1) := by decide +kernel
theorem dX10_ask_152 : decode cX10_ask 152 = .ok (.goto 5, 3) := by decide +kernel
theorem dX10_ask_155 : decode cX10_ask 155 = .ok (.iload 6, 2) := by decide +kernel
theorem dX10_ask_157 : decode cX10_ask 157 = .ok (.istore 6, 2) := by decide +kernel
theorem dX10_ask_159 : decode cX10_ask 159 = .ok (.iinc 7 1, 3) := by decide +kernel
theorem dX10_ask_162 : decode cX10_ask 162 = .ok (.goto (-94), 3) := by decide +kernel
theorem dX10_ask_165 : decode cX10_ask 165 = .ok (.iload 6, 2) := by decide +kernel
theorem dX10_ask_167 : decode cX10_ask 167 = .ok (.iload 4, 2) := by decide +kernel
theorem dX10_ask_169 : decode cX10_ask 169 = .ok (.if_icmp .ge 8, 3) := by decide +kernel
theorem dX10_ask_172 : decode cX10_ask 172 = .ok (.iload 5, 2) := by decide +kernel
theorem dX10_ask_174 : decode cX10_ask 174 = .ok (.goto 4, 3) := by decide +kernel
theorem dX10_ask_177 : decode cX10_ask 177 = .ok (.iload_n 3, 1) := by decide +kernel
theorem dX10_ask_178 : decode cX10_ask 178 = .ok (.istore_n 3, 1) := by decide +kernel
theorem dX10_ask_179 : decode cX10_ask 179 = .ok (.iload 6, 2) := by decide +kernel
theorem dX10_ask_181 : decode cX10_ask 181 = .ok (.iload 4, 2) := by decide +kernel
theorem dX10_ask_183 : decode cX10_ask 183 = .ok (.if_icmp .ge 8, 3) := by decide +kernel
theorem dX10_ask_186 : decode cX10_ask 186 = .ok (.iload 6, 2) := by decide +kernel
theorem dX10_ask_188 : decode cX10_ask 188 = .ok (.goto 5, 3) := by decide +kernel
theorem dX10_ask_191 : decode cX10_ask 191 = .ok (.iload 4, 2) := by decide +kernel
theorem dX10_ask_193 : decode cX10_ask 193 = .ok (.istore 4, 2) := by decide +kernel
theorem dX10_ask_195 : decode cX10_ask 195 = .ok (.iinc 5 1, 3) := by decide +kernel
theorem dX10_ask_198 : decode cX10_ask 198 = .ok (.goto (-171), 3) := by decide +kernel
theorem dX10_ask_201 : decode cX10_ask 201 = .ok (.iload_n 3, 1) := by decide +kernel
theorem dX10_ask_202 : decode cX10_ask 202 = .ok (.ifCond .lt 7, 3) := by decide +kernel
theorem dX10_ask_205 : decode cX10_ask 205 = .ok (.iload_n 1, 1) := by decide +kernel
theorem dX10_ask_206 : decode cX10_ask 206 = .ok (.ifCond .ne 7, 3) := by decide +kernel
theorem dX10_ask_209 : decode cX10_ask 209 = .ok (.iload_n 3, 1) := by decide +kernel
theorem dX10_ask_210 : decode cX10_ask 210 = .ok (.goto 5, 3) := by decide +kernel
theorem dX10_ask_213 : decode cX10_ask 213 = .ok (.iload 4, 2) := by decide +kernel
theorem dX10_ask_215 : decode cX10_ask 215 = .ok (.ireturn, 1) := by decide +kernel
set_option maxRecDepth 20000 in
theorem ggX10_year_X10_in : GoodIn wsX10_year wsX10_in := goodIn_r _ [8] (by decide +kernel) (by decide +kernel)
set_option maxRecDepth 20000 in
theorem gX10_year_X10_in : GoodIn wsX10_year (va_wsS RX10 57 yX10_in wsX10_in) := goodIn_app (goodIn_of _ (by decide +kernel)) ggX10_year_X10_in
set_option maxRecDepth 20000 in
theorem ggX10_year_X10_asNow : GoodIn wsX10_year wsX10_asNow := goodIn_r _ [12, 3, 13, 4, 14, 47, 48, 49, 50, 51, 52, 53, 54, 55, 56, 57, 58, 59, 60, 61, 62, 63, 64, 65, 66, 67, 68, 69, 70] (by decide +kernel) (by decide +kernel)
set_option maxRecDepth 20000 in
theorem gX10_year_X10_asNow : GoodIn wsX10_year (wsV RX10 102 RX10 yX10_asNow wsX10_asNow) := goodIn_app (goodIn_of _ (by decide +kernel)) ggX10_year_X10_asNow
set_option maxRecDepth 20000 in
theorem ggX10_year_X10_run : GoodIn wsX10_year wsX10_run := goodIn_r _ [18, 19, 3, 20, 21, 22, 7, 23, 2, 24, 25, 26, 5, 6, 8, 27, 28, 29, 47, 48, 49, 50, 51, 52, 53, 54, 55, 56, 57, 58, 59, 60, 61, 62, 63, 64, 65, 66, 67, 68, 69, 70] (by decide +kernel) (by decide +kernel)
set_option maxRecDepth 20000 in
theorem gX10_year_X10_run : GoodIn wsX10_year (wsV RX10 124 RX10 yX10_run wsX10_run) := goodIn_app (goodIn_of _ (by decide +kernel)) ggX10_year_X10_run
set_option maxRecDepth 20000 in
theorem ggX10_year_X10_touch : GoodIn wsX10_year wsX10_touch := goodIn_r _ [33, 3, 34, 4, 20, 21, 22, 7, 23, 2, 24, 25, 26, 5, 6, 8, 27, 28, 29, 47, 48, 49, 50, 51, 52, 53, 54, 55, 56, 57, 58, 59, 60, 61, 62, 63, 64, 65, 66, 67, 68, 69, 70] (by decide +kernel) (by decide +kernel)
set_option maxRecDepth 20000 in
theorem gX10_year_X10_touch : GoodIn wsX10_year (wsV RX10 114 RX10 yX10_touch wsX10_touch) := goodIn_app (goodIn_of _ (by decide +kernel)) ggX10_year_X10_touch
set_option maxRecDepth 20000 in
theorem ggX10_year_X10_rest : GoodIn wsX10_year wsX10_rest := goodIn_r _ [38, 3, 20, 21, 22, 7, 23, 2, 24, 25, 26, 5, 6, 8, 27, 28, 29, 47, 48, 49, 50, 51, 52, 53, 54, 55, 56, 57, 58, 59, 60, 61, 62, 63, 64, 65, 66, 67, 68, 69, 70] (by decide +kernel) (by decide +kernel)
set_option maxRecDepth 20000 in
theorem gX10_year_X10_rest : GoodIn wsX10_year (wsV RX10 118 RX10 yX10_rest wsX10_rest) := goodIn_app (goodIn_of _ (by decide +kernel)) ggX10_year_X10_rest
set_option maxRecDepth 20000 in
theorem ggX10_year_X10_cross : GoodIn wsX10_year wsX10_cross := goodIn_r _ [42, 3, 20, 21, 22, 7, 23, 2, 24, 25, 26, 5, 6, 8, 27, 28, 29, 47, 48, 49, 50, 51, 52, 53, 54, 55, 56, 57, 58, 59, 60, 61, 62, 63, 64, 65, 66, 67, 68, 69, 70] (by decide +kernel) (by decide +kernel)
set_option maxRecDepth 20000 in
theorem gX10_year_X10_cross : GoodIn wsX10_year (wsV RX10 121 RX10 yX10_cross wsX10_cross) := goodIn_app (goodIn_of _ (by decide +kernel)) ggX10_year_X10_cross
set_option maxRecDepth 20000 in
theorem ggX10_year_X10_minute : GoodIn wsX10_year wsX10_minute := goodIn_r _ [46, 3, 47, 48, 49, 50, 51, 52, 53, 54, 55, 56, 57, 58, 59, 60, 61, 62, 63, 64, 65, 66, 67, 68, 69, 70] (by decide +kernel) (by decide +kernel)
set_option maxRecDepth 20000 in
theorem gX10_year_X10_minute : GoodIn wsX10_year (wsV RX10 108 RX10 yX10_minute wsX10_minute) := goodIn_app (goodIn_of _ (by decide +kernel)) ggX10_year_X10_minute
set_option maxRecDepth 20000 in
theorem ggX10_year_X10_has : GoodIn wsX10_year wsX10_has := goodIn_r _ [29] (by decide +kernel) (by decide +kernel)
set_option maxRecDepth 20000 in
theorem gX10_year_X10_has : GoodIn wsX10_year (va_wsS RX10 69 yX10_has wsX10_has) := goodIn_app (goodIn_of _ (by decide +kernel)) ggX10_year_X10_has
theorem dX10_year_0 : decode cX10_year 0 = .ok (.iload_n 1, 1) := by decide +kernel
theorem dX10_year_1 : decode cX10_year 1 = .ok (.iconst 0, 1) := by decide +kernel
theorem dX10_year_2 : decode cX10_year 2 = .ok (.sipush 9999, 3) := by decide +kernel
theorem dX10_year_5 : decode cX10_year 5 = .ok (.invokestatic 57, 3) := by decide +kernel
theorem dX10_year_8 : decode cX10_year 8 = .ok (.ifCond .eq 22, 3) := by decide +kernel
theorem dX10_year_11 : decode cX10_year 11 = .ok (.iload_n 2, 1) := by decide +kernel
theorem dX10_year_12 : decode cX10_year 12 = .ok (.iconst 1, 1) := by decide +kernel
theorem dX10_year_13 : decode cX10_year 13 = .ok (.bipush 99, 2) := by decide +kernel
theorem dX10_year_15 : decode cX10_year 15 = .ok (.invokestatic 57, 3) := by decide +kernel
theorem dX10_year_18 : decode cX10_year 18 = .ok (.ifCond .eq 12, 3) := by decide +kernel
theorem dX10_year_21 : decode cX10_year 21 = .ok (.iload_n 3, 1) := by decide +kernel
theorem dX10_year_22 : decode cX10_year 22 = .ok (.iconst 0, 1) := by decide +kernel
theorem dX10_year_23 : decode cX10_year 23 = .ok (.iconst 2, 1) := by decide +kernel
theorem dX10_year_24 : decode cX10_year 24 = .ok (.invokestatic 57, 3) := by decide +kernel
theorem dX10_year_27 : decode cX10_year 27 = .ok (.ifCond .ne 6, 3) := by decide +kernel
theorem dX10_year_30 : decode cX10_year 30 = .ok (.bipush (-2), 2) := by decide +kernel
theorem dX10_year_32 : decode cX10_year 32 = .ok (.ireturn, 1) := by decide +kernel
theorem dX10_year_33 : decode cX10_year 33 = .ok (.aload_n 0, 1) := by decide +kernel
theorem dX10_year_34 : decode cX10_year 34 = .ok (.invokevirtual 102, 3) := by decide +kernel
theorem dX10_year_37 : decode cX10_year 37 = .ok (.iload_n 1, 1) := by decide +kernel
theorem dX10_year_38 : decode cX10_year 38 = .ok (.istore 4, 2) := by decide +kernel
theorem dX10_year_40 : decode cX10_year 40 = .ok (.iconst 0, 1) := by decide +kernel
theorem dX10_year_41 : decode cX10_year 41 = .ok (.istore 5, 2) := by decide +kernel
theorem dX10_year_43 : decode cX10_year 43 = .ok (.iload 5, 2) := by decide +kernel
theorem dX10_year_45 : decode cX10_year 45 = .ok (.iload_n 2, 1) := by decide +kernel
theorem dX10_year_46 : decode cX10_year 46 = .ok (.if_icmp .ge 125, 3) := by decide +kernel
theorem dX10_year_49 : decode cX10_year 49 = .ok (.bipush 75, 2) := by decide +kernel
theorem dX10_year_51 : decode cX10_year 51 = .ok (.iload 4, 2) := by decide +kernel
theorem dX10_year_53 : decode cX10_year 53 = .ok (.imul, 1) := by decide +kernel
theorem dX10_year_54 : decode cX10_year 54 = .ok (.bipush 74, 2) := by decide +kernel
theorem dX10_year_56 : decode cX10_year 56 = .ok (.iadd, 1) := by decide +kernel
theorem dX10_year_57 : decode cX10_year 57 = .ok (.ldc 171, 2) := by decide +kernel
theorem dX10_year_59 : decode cX10_year 59 = .ok (.irem, 1) := by decide +kernel
theorem dX10_year_60 : decode cX10_year 60 = .ok (.istore 4, 2) := by decide +kernel
theorem dX10_year_62 : decode cX10_year 62 = .ok (.iload 4, 2) := by decide +kernel
theorem dX10_year_64 : decode cX10_year 64 = .ok (.bipush 7, 2) := by decide +kernel
theorem dX10_year_66 : decode cX10_year 66 = .ok (.irem, 1) := by decide +kernel
theorem dX10_year_67 : decode cX10_year 67 = .ok (.istore 6, 2) := by decide +kernel
theorem dX10_year_69 : decode cX10_year 69 = .ok (.iload 4, 2) := by decide +kernel
theorem dX10_year_71 : decode cX10_year 71 = .ok (.bipush 7, 2) := by decide +kernel
theorem dX10_year_73 : decode cX10_year 73 = .ok (.idiv, 1) := by decide +kernel
theorem dX10_year_74 : decode cX10_year 74 = .ok (.bipush 8, 2) := by decide +kernel
theorem dX10_year_76 : decode cX10_year 76 = .ok (.irem, 1) := by decide +kernel
theorem dX10_year_77 : decode cX10_year 77 = .ok (.istore 7, 2) := by decide +kernel
theorem dX10_year_79 : decode cX10_year 79 = .ok (.iload 7, 2) := by decide +kernel
theorem dX10_year_81 : decode cX10_year 81 = .ok (.iconst 3, 1) := by decide +kernel
theorem dX10_year_82 : decode cX10_year 82 = .ok (.if_icmp .ge 21, 3) := by decide +kernel
theorem dX10_year_85 : decode cX10_year 85 = .ok (.aload_n 0, 1) := by decide +kernel
theorem dX10_year_86 : decode cX10_year 86 = .ok (.iload 6, 2) := by decide +kernel
theorem dX10_year_88 : decode cX10_year 88 = .ok (.iload 4, 2) := by decide +kernel
theorem dX10_year_90 : decode cX10_year 90 = .ok (.bipush 56, 2) := by decide +kernel
theorem dX10_year_92 : decode cX10_year 92 = .ok (.idiv, 1) := by decide +kernel
theorem dX10_year_93 : decode cX10_year 93 = .ok (.bipush 12, 2) := by decide +kernel
theorem dX10_year_95 : decode cX10_year 95 = .ok (.irem, 1) := by decide +kernel
theorem dX10_year_96 : decode cX10_year 96 = .ok (.invokevirtual 124, 3) := by decide +kernel
theorem dX10_year_99 : decode cX10_year 99 = .ok (.pop, 1) := by decide +kernel
theorem dX10_year_100 : decode cX10_year 100 = .ok (.goto 65, 3) := by decide +kernel
theorem dX10_year_103 : decode cX10_year 103 = .ok (.iload 7, 2) := by decide +kernel
theorem dX10_year_105 : decode cX10_year 105 = .ok (.iconst 5, 1) := by decide +kernel
theorem dX10_year_106 : decode cX10_year 106 = .ok (.if_icmp .ge 21, 3) := by decide +kernel
theorem dX10_year_109 : decode cX10_year 109 = .ok (.aload_n 0, 1) := by decide +kernel
theorem dX10_year_110 : decode cX10_year 110 = .ok (.iload 6, 2) := by decide +kernel
theorem dX10_year_112 : decode cX10_year 112 = .ok (.iload 4, 2) := by decide +kernel
theorem dX10_year_114 : decode cX10_year 114 = .ok (.bipush 56, 2) := by decide +kernel
theorem dX10_year_116 : decode cX10_year 116 = .ok (.idiv, 1) := by decide +kernel
theorem dX10_year_117 : decode cX10_year 117 = .ok (.bipush 7, 2) := by decide +kernel
theorem dX10_year_119 : decode cX10_year 119 = .ok (.irem, 1) := by decide +kernel
theorem dX10_year_120 : decode cX10_year 120 = .ok (.invokevirtual 114, 3) := by decide +kernel
theorem dX10_year_123 : decode cX10_year 123 = .ok (.pop, 1) := by decide +kernel
theorem dX10_year_124 : decode cX10_year 124 = .ok (.goto 41, 3) := by decide +kernel
theorem dX10_year_127 : decode cX10_year 127 = .ok (.iload 7, 2) := by decide +kernel
theorem dX10_year_129 : decode cX10_year 129 = .ok (.iconst 5, 1) := by decide +kernel
theorem dX10_year_130 : decode cX10_year 130 = .ok (.if_icmp .ne 13, 3) := by decide +kernel
theorem dX10_year_133 : decode cX10_year 133 = .ok (.aload_n 0, 1) := by decide +kernel
theorem dX10_year_134 : decode cX10_year 134 = .ok (.iload 6, 2) := by decide +kernel
theorem dX10_year_136 : decode cX10_year 136 = .ok (.invokevirtual 118, 3) := by decide +kernel
theorem dX10_year_139 : decode cX10_year 139 = .ok (.pop, 1) := by decide +kernel
theorem dX10_year_140 : decode cX10_year 140 = .ok (.goto 25, 3) := by decide +kernel
theorem dX10_year_143 : decode cX10_year 143 = .ok (.iload 7, 2) := by decide +kernel
theorem dX10_year_145 : decode cX10_year 145 = .ok (.bipush 6, 2) := by decide +kernel
theorem dX10_year_147 : decode cX10_year 147 = .ok (.if_icmp .ne 13, 3) := by decide +kernel
theorem dX10_year_150 : decode cX10_year 150 = .ok (.aload_n 0, 1) := by decide +kernel
theorem dX10_year_151 : decode cX10_year 151 = .ok (.iload 6, 2) := by decide +kernel
theorem dX10_year_153 : decode cX10_year 153 = .ok (.invokevirtual 121, 3) := by decide +kernel
theorem dX10_year_156 : decode cX10_year 156 = .ok (.pop, 1) := by decide +kernel
theorem dX10_year_157 : decode cX10_year 157 = .ok (.goto 8, 3) := by decide +kernel
theorem dX10_year_160 : decode cX10_year 160 = .ok (.aload_n 0, 1) := by decide +kernel
theorem dX10_year_161 : decode cX10_year 161 = .ok (.invokevirtual 108, 3) := by decide +kernel
theorem dX10_year_164 : decode cX10_year 164 = .ok (.pop, 1) := by decide +kernel
theorem dX10_year_165 : decode cX10_year 165 = .ok (.iinc 5 1, 3) := by decide +kernel
theorem dX10_year_168 : decode cX10_year 168 = .ok (.goto (-125), 3) := by decide +kernel
theorem dX10_year_171 : decode cX10_year 171 = .ok (.iconst 0, 1) := by decide +kernel
theorem dX10_year_172 : decode cX10_year 172 = .ok (.istore 5, 2) := by decide +kernel
theorem dX10_year_174 : decode cX10_year 174 = .ok (.iconst 0, 1) := by decide +kernel
theorem dX10_year_175 : decode cX10_year 175 = .ok (.istore 6, 2) := by decide +kernel
theorem dX10_year_177 : decode cX10_year 177 = .ok (.iload 6, 2) := by decide +kernel
theorem dX10_year_179 : decode cX10_year 179 = .ok (.bipush 7, 2) := by decide +kernel
theorem dX10_year_181 : decode cX10_year 181 = .ok (.if_icmp .ge 40, 3) := by decide +kernel
theorem dX10_year_184 : decode cX10_year 184 = .ok (.iload 5, 2) := by decide +kernel
theorem dX10_year_186 : decode cX10_year 186 = .ok (.aload_n 0, 1) := by decide +kernel
theorem dX10_year_187 : decode cX10_year 187 = .ok (.getfield 65, 3) := by decide +kernel
theorem dX10_year_190 : decode cX10_year 190 = .ok (.iload 6, 2) := by decide +kernel
theorem dX10_year_192 : decode cX10_year 192 = .ok (.invokestatic 69, 3) := by decide +kernel
theorem dX10_year_195 : decode cX10_year 195 = .ok (.ifCond .eq 16, 3) := by decide +kernel
theorem dX10_year_198 : decode cX10_year 198 = .ok (.aload_n 0, 1) := by decide +kernel
theorem dX10_year_199 : decode cX10_year 199 = .ok (.getfield 16, 3) := by decide +kernel
theorem dX10_year_202 : decode cX10_year 202 = .ok (.bipush 7, 2) := by decide +kernel
theorem dX10_year_204 : decode cX10_year 204 = .ok (.iload 6, 2) := by decide +kernel
theorem dX10_year_206 : decode cX10_year 206 = .ok (.iadd, 1) := by decide +kernel
theorem dX10_year_207 : decode cX10_year 207 = .ok (.iaload, 1) := by decide +kernel
theorem dX10_year_208 : decode cX10_year 208 = .ok (.goto 4, 3) := by decide +kernel
theorem dX10_year_211 : decode cX10_year 211 = .ok (.iconst 0, 1) := by decide +kernel
theorem dX10_year_212 : decode cX10_year 212 = .ok (.iadd, 1) := by decide +kernel
theorem dX10_year_213 : decode cX10_year 213 = .ok (.istore 5, 2) := by decide +kernel
theorem dX10_year_215 : decode cX10_year 215 = .ok (.iinc 6 1, 3) := by decide +kernel
theorem dX10_year_218 : decode cX10_year 218 = .ok (.goto (-41), 3) := by decide +kernel
theorem dX10_year_221 : decode cX10_year 221 = .ok (.iload_n 3, 1) := by decide +kernel
theorem dX10_year_222 : decode cX10_year 222 = .ok (.ifCond .ne 10, 3) := by decide +kernel
theorem dX10_year_225 : decode cX10_year 225 = .ok (.aload_n 0, 1) := by decide +kernel
theorem dX10_year_226 : decode cX10_year 226 = .ok (.getfield 96, 3) := by decide +kernel
theorem dX10_year_229 : decode cX10_year 229 = .ok (.goto 20, 3) := by decide +kernel
theorem dX10_year_232 : decode cX10_year 232 = .ok (.iload_n 3, 1) := by decide +kernel
theorem dX10_year_233 : decode cX10_year 233 = .ok (.iconst 1, 1) := by decide +kernel
theorem dX10_year_234 : decode cX10_year 234 = .ok (.if_icmp .ne 13, 3) := by decide +kernel
theorem dX10_year_237 : decode cX10_year 237 = .ok (.aload_n 0, 1) := by decide +kernel
theorem dX10_year_238 : decode cX10_year 238 = .ok (.getfield 16, 3) := by decide +kernel
theorem dX10_year_241 : decode cX10_year 241 = .ok (.bipush 22, 2) := by decide +kernel
theorem dX10_year_243 : decode cX10_year 243 = .ok (.iaload, 1) := by decide +kernel
theorem dX10_year_244 : decode cX10_year 244 = .ok (.goto 5, 3) := by decide +kernel
theorem dX10_year_247 : decode cX10_year 247 = .ok (.iload 5, 2) := by decide +kernel
theorem dX10_year_249 : decode cX10_year 249 = .ok (.ireturn, 1) := by decide +kernel
set_option maxRecDepth 20000 in
theorem ggX10_image_X10_in : GoodIn wsX10_image wsX10_in := goodIn_r _ [14] (by decide +kernel) (by decide +kernel)
set_option maxRecDepth 20000 in
theorem gX10_image_X10_in : GoodIn wsX10_image (va_wsS RX10 57 yX10_in wsX10_in) := goodIn_app (goodIn_of _ (by decide +kernel)) ggX10_image_X10_in
theorem dX10_image_0 : decode cX10_image 0 = .ok (.iload_n 1, 1) := by decide +kernel
theorem dX10_image_1 : decode cX10_image 1 = .ok (.iconst 0, 1) := by decide +kernel
theorem dX10_image_2 : decode cX10_image 2 = .ok (.iconst 1, 1) := by decide +kernel
theorem dX10_image_3 : decode cX10_image 3 = .ok (.invokestatic 57, 3) := by decide +kernel
theorem dX10_image_6 : decode cX10_image 6 = .ok (.ifCond .ne 6, 3) := by decide +kernel
theorem dX10_image_9 : decode cX10_image 9 = .ok (.bipush (-2), 2) := by decide +kernel
theorem dX10_image_11 : decode cX10_image 11 = .ok (.ireturn, 1) := by decide +kernel
theorem dX10_image_12 : decode cX10_image 12 = .ok (.bipush 90, 2) := by decide +kernel
theorem dX10_image_14 : decode cX10_image 14 = .ok (.iload_n 1, 1) := by decide +kernel
theorem dX10_image_15 : decode cX10_image 15 = .ok (.imul, 1) := by decide +kernel
theorem dX10_image_16 : decode cX10_image 16 = .ok (.istore_n 2, 1) := by decide +kernel
theorem dX10_image_17 : decode cX10_image 17 = .ok (.iconst 0, 1) := by decide +kernel
theorem dX10_image_18 : decode cX10_image 18 = .ok (.istore_n 3, 1) := by decide +kernel
theorem dX10_image_19 : decode cX10_image 19 = .ok (.iload_n 3, 1) := by decide +kernel
theorem dX10_image_20 : decode cX10_image 20 = .ok (.bipush 25, 2) := by decide +kernel
theorem dX10_image_22 : decode cX10_image 22 = .ok (.if_icmp .ge 23, 3) := by decide +kernel
theorem dX10_image_25 : decode cX10_image 25 = .ok (.aload_n 0, 1) := by decide +kernel
theorem dX10_image_26 : decode cX10_image 26 = .ok (.getfield 50, 3) := by decide +kernel
theorem dX10_image_29 : decode cX10_image 29 = .ok (.iload_n 2, 1) := by decide +kernel
theorem dX10_image_30 : decode cX10_image 30 = .ok (.iload_n 3, 1) := by decide +kernel
theorem dX10_image_31 : decode cX10_image 31 = .ok (.iadd, 1) := by decide +kernel
theorem dX10_image_32 : decode cX10_image 32 = .ok (.aload_n 0, 1) := by decide +kernel
theorem dX10_image_33 : decode cX10_image 33 = .ok (.getfield 13, 3) := by decide +kernel
theorem dX10_image_36 : decode cX10_image 36 = .ok (.iload_n 3, 1) := by decide +kernel
theorem dX10_image_37 : decode cX10_image 37 = .ok (.iaload, 1) := by decide +kernel
theorem dX10_image_38 : decode cX10_image 38 = .ok (.iastore, 1) := by decide +kernel
theorem dX10_image_39 : decode cX10_image 39 = .ok (.iinc 3 1, 3) := by decide +kernel
theorem dX10_image_42 : decode cX10_image 42 = .ok (.goto (-23), 3) := by decide +kernel
theorem dX10_image_45 : decode cX10_image 45 = .ok (.iconst 0, 1) := by decide +kernel
theorem dX10_image_46 : decode cX10_image 46 = .ok (.istore_n 3, 1) := by decide +kernel
theorem dX10_image_47 : decode cX10_image 47 = .ok (.iload_n 3, 1) := by decide +kernel
theorem dX10_image_48 : decode cX10_image 48 = .ok (.bipush 12, 2) := by decide +kernel
theorem dX10_image_50 : decode cX10_image 50 = .ok (.if_icmp .ge 26, 3) := by decide +kernel
theorem dX10_image_53 : decode cX10_image 53 = .ok (.aload_n 0, 1) := by decide +kernel
theorem dX10_image_54 : decode cX10_image 54 = .ok (.getfield 50, 3) := by decide +kernel
theorem dX10_image_57 : decode cX10_image 57 = .ok (.iload_n 2, 1) := by decide +kernel
theorem dX10_image_58 : decode cX10_image 58 = .ok (.bipush 25, 2) := by decide +kernel
theorem dX10_image_60 : decode cX10_image 60 = .ok (.iadd, 1) := by decide +kernel
theorem dX10_image_61 : decode cX10_image 61 = .ok (.iload_n 3, 1) := by decide +kernel
theorem dX10_image_62 : decode cX10_image 62 = .ok (.iadd, 1) := by decide +kernel
theorem dX10_image_63 : decode cX10_image 63 = .ok (.aload_n 0, 1) := by decide +kernel
theorem dX10_image_64 : decode cX10_image 64 = .ok (.getfield 7, 3) := by decide +kernel
theorem dX10_image_67 : decode cX10_image 67 = .ok (.iload_n 3, 1) := by decide +kernel
theorem dX10_image_68 : decode cX10_image 68 = .ok (.iaload, 1) := by decide +kernel
theorem dX10_image_69 : decode cX10_image 69 = .ok (.iastore, 1) := by decide +kernel
theorem dX10_image_70 : decode cX10_image 70 = .ok (.iinc 3 1, 3) := by decide +kernel
theorem dX10_image_73 : decode cX10_image 73 = .ok (.goto (-26), 3) := by decide +kernel
theorem dX10_image_76 : decode cX10_image 76 = .ok (.iconst 0, 1) := by decide +kernel
theorem dX10_image_77 : decode cX10_image 77 = .ok (.istore_n 3, 1) := by decide +kernel
theorem dX10_image_78 : decode cX10_image 78 = .ok (.iload_n 3, 1) := by decide +kernel
theorem dX10_image_79 : decode cX10_image 79 = .ok (.bipush 16, 2) := by decide +kernel
theorem dX10_image_81 : decode cX10_image 81 = .ok (.if_icmp .ge 26, 3) := by decide +kernel
theorem dX10_image_84 : decode cX10_image 84 = .ok (.aload_n 0, 1) := by decide +kernel
theorem dX10_image_85 : decode cX10_image 85 = .ok (.getfield 50, 3) := by decide +kernel
theorem dX10_image_88 : decode cX10_image 88 = .ok (.iload_n 2, 1) := by decide +kernel
theorem dX10_image_89 : decode cX10_image 89 = .ok (.bipush 37, 2) := by decide +kernel
theorem dX10_image_91 : decode cX10_image 91 = .ok (.iadd, 1) := by decide +kernel
theorem dX10_image_92 : decode cX10_image 92 = .ok (.iload_n 3, 1) := by decide +kernel
theorem dX10_image_93 : decode cX10_image 93 = .ok (.iadd, 1) := by decide +kernel
theorem dX10_image_94 : decode cX10_image 94 = .ok (.aload_n 0, 1) := by decide +kernel
theorem dX10_image_95 : decode cX10_image 95 = .ok (.getfield 19, 3) := by decide +kernel
theorem dX10_image_98 : decode cX10_image 98 = .ok (.iload_n 3, 1) := by decide +kernel
theorem dX10_image_99 : decode cX10_image 99 = .ok (.iaload, 1) := by decide +kernel
theorem dX10_image_100 : decode cX10_image 100 = .ok (.iastore, 1) := by decide +kernel
theorem dX10_image_101 : decode cX10_image 101 = .ok (.iinc 3 1, 3) := by decide +kernel
theorem dX10_image_104 : decode cX10_image 104 = .ok (.goto (-26), 3) := by decide +kernel
theorem dX10_image_107 : decode cX10_image 107 = .ok (.iconst 0, 1) := by decide +kernel
theorem dX10_image_108 : decode cX10_image 108 = .ok (.istore_n 3, 1) := by decide +kernel
theorem dX10_image_109 : decode cX10_image 109 = .ok (.iload_n 3, 1) := by decide +kernel
theorem dX10_image_110 : decode cX10_image 110 = .ok (.bipush 24, 2) := by decide +kernel
theorem dX10_image_112 : decode cX10_image 112 = .ok (.if_icmp .ge 26, 3) := by decide +kernel
theorem dX10_image_115 : decode cX10_image 115 = .ok (.aload_n 0, 1) := by decide +kernel
theorem dX10_image_116 : decode cX10_image 116 = .ok (.getfield 50, 3) := by decide +kernel
theorem dX10_image_119 : decode cX10_image 119 = .ok (.iload_n 2, 1) := by decide +kernel
theorem dX10_image_120 : decode cX10_image 120 = .ok (.bipush 53, 2) := by decide +kernel
theorem dX10_image_122 : decode cX10_image 122 = .ok (.iadd, 1) := by decide +kernel
theorem dX10_image_123 : decode cX10_image 123 = .ok (.iload_n 3, 1) := by decide +kernel
theorem dX10_image_124 : decode cX10_image 124 = .ok (.iadd, 1) := by decide +kernel
theorem dX10_image_125 : decode cX10_image 125 = .ok (.aload_n 0, 1) := by decide +kernel
theorem dX10_image_126 : decode cX10_image 126 = .ok (.getfield 22, 3) := by decide +kernel
theorem dX10_image_129 : decode cX10_image 129 = .ok (.iload_n 3, 1) := by decide +kernel
theorem dX10_image_130 : decode cX10_image 130 = .ok (.iaload, 1) := by decide +kernel
theorem dX10_image_131 : decode cX10_image 131 = .ok (.iastore, 1) := by decide +kernel
theorem dX10_image_132 : decode cX10_image 132 = .ok (.iinc 3 1, 3) := by decide +kernel
theorem dX10_image_135 : decode cX10_image 135 = .ok (.goto (-26), 3) := by decide +kernel
theorem dX10_image_138 : decode cX10_image 138 = .ok (.aload_n 0, 1) := by decide +kernel
theorem dX10_image_139 : decode cX10_image 139 = .ok (.getfield 50, 3) := by decide +kernel
theorem dX10_image_142 : decode cX10_image 142 = .ok (.iload_n 2, 1) := by decide +kernel
theorem dX10_image_143 : decode cX10_image 143 = .ok (.bipush 80, 2) := by decide +kernel
theorem dX10_image_145 : decode cX10_image 145 = .ok (.iadd, 1) := by decide +kernel
theorem dX10_image_146 : decode cX10_image 146 = .ok (.aload_n 0, 1) := by decide +kernel
theorem dX10_image_147 : decode cX10_image 147 = .ok (.getfield 80, 3) := by decide +kernel
theorem dX10_image_150 : decode cX10_image 150 = .ok (.iastore, 1) := by decide +kernel
theorem dX10_image_151 : decode cX10_image 151 = .ok (.aload_n 0, 1) := by decide +kernel
theorem dX10_image_152 : decode cX10_image 152 = .ok (.getfield 50, 3) := by decide +kernel
theorem dX10_image_155 : decode cX10_image 155 = .ok (.iload_n 2, 1) := by decide +kernel
theorem dX10_image_156 : decode cX10_image 156 = .ok (.bipush 81, 2) := by decide +kernel
theorem dX10_image_158 : decode cX10_image 158 = .ok (.iadd, 1) := by decide +kernel
theorem dX10_image_159 : decode cX10_image 159 = .ok (.aload_n 0, 1) := by decide +kernel
theorem dX10_image_160 : decode cX10_image 160 = .ok (.getfield 65, 3) := by decide +kernel
theorem dX10_image_163 : decode cX10_image 163 = .ok (.iastore, 1) := by decide +kernel
theorem dX10_image_164 : decode cX10_image 164 = .ok (.aload_n 0, 1) := by decide +kernel
theorem dX10_image_165 : decode cX10_image 165 = .ok (.getfield 50, 3) := by decide +kernel
theorem dX10_image_168 : decode cX10_image 168 = .ok (.iload_n 2, 1) := by decide +kernel
theorem dX10_image_169 : decode cX10_image 169 = .ok (.bipush 82, 2) := by decide +kernel
theorem dX10_image_171 : decode cX10_image 171 = .ok (.iadd, 1) := by decide +kernel
theorem dX10_image_172 : decode cX10_image 172 = .ok (.aload_n 0, 1) := by decide +kernel
theorem dX10_image_173 : decode cX10_image 173 = .ok (.getfield 149, 3) := by decide +kernel
theorem dX10_image_176 : decode cX10_image 176 = .ok (.iastore, 1) := by decide +kernel
theorem dX10_image_177 : decode cX10_image 177 = .ok (.aload_n 0, 1) := by decide +kernel
theorem dX10_image_178 : decode cX10_image 178 = .ok (.getfield 50, 3) := by decide +kernel
theorem dX10_image_181 : decode cX10_image 181 = .ok (.iload_n 2, 1) := by decide +kernel
theorem dX10_image_182 : decode cX10_image 182 = .ok (.bipush 83, 2) := by decide +kernel
theorem dX10_image_184 : decode cX10_image 184 = .ok (.iadd, 1) := by decide +kernel
theorem dX10_image_185 : decode cX10_image 185 = .ok (.aload_n 0, 1) := by decide +kernel
theorem dX10_image_186 : decode cX10_image 186 = .ok (.getfield 165, 3) := by decide +kernel
theorem dX10_image_189 : decode cX10_image 189 = .ok (.iastore, 1) := by decide +kernel
theorem dX10_image_190 : decode cX10_image 190 = .ok (.aload_n 0, 1) := by decide +kernel
theorem dX10_image_191 : decode cX10_image 191 = .ok (.getfield 53, 3) := by decide +kernel
theorem dX10_image_194 : decode cX10_image 194 = .ok (.iload_n 1, 1) := by decide +kernel
theorem dX10_image_195 : decode cX10_image 195 = .ok (.iconst 1, 1) := by decide +kernel
theorem dX10_image_196 : decode cX10_image 196 = .ok (.bastore, 1) := by decide +kernel
theorem dX10_image_197 : decode cX10_image 197 = .ok (.iconst 1, 1) := by decide +kernel
theorem dX10_image_198 : decode cX10_image 198 = .ok (.ireturn, 1) := by decide +kernel
set_option maxRecDepth 20000 in
theorem ggX10_restore_X10_in : GoodIn wsX10_restore wsX10_in := goodIn_r _ [14] (by decide +kernel) (by decide +kernel)
set_option maxRecDepth 20000 in
theorem gX10_restore_X10_in : GoodIn wsX10_restore (va_wsS RX10 57 yX10_in wsX10_in) := goodIn_app (goodIn_of _ (by decide +kernel)) ggX10_restore_X10_in
theorem dX10_restore_0 : decode cX10_restore 0 = .ok (.iload_n 1, 1) := by decide +kernel
theorem dX10_restore_1 : decode cX10_restore 1 = .ok (.iconst 0, 1) := by decide +kernel
theorem dX10_restore_2 : decode cX10_restore 2 = .ok (.iconst 1, 1) := by decide +kernel
theorem dX10_restore_3 : decode cX10_restore 3 = .ok (.invokestatic 57, 3) := by decide +kernel
theorem dX10_restore_6 : decode cX10_restore 6 = .ok (.ifCond .ne 6, 3) := by decide +kernel
theorem dX10_restore_9 : decode cX10_restore 9 = .ok (.bipush (-2), 2) := by decide +kernel
theorem dX10_restore_11 : decode cX10_restore 11 = .ok (.ireturn, 1) := by decide +kernel
theorem dX10_restore_12 : decode cX10_restore 12 = .ok (.aload_n 0, 1) := by decide +kernel
theorem dX10_restore_13 : decode cX10_restore 13 = .ok (.getfield 53, 3) := by decide +kernel
theorem dX10_restore_16 : decode cX10_restore 16 = .ok (.iload_n 1, 1) := by decide +kernel
theorem dX10_restore_17 : decode cX10_restore 17 = .ok (.baload, 1) := by decide +kernel
theorem dX10_restore_18 : decode cX10_restore 18 = .ok (.ifCond .ne 6, 3) := by decide +kernel
theorem dX10_restore_21 : decode cX10_restore 21 = .ok (.bipush (-3), 2) := by decide +kernel
theorem dX10_restore_23 : decode cX10_restore 23 = .ok (.ireturn, 1) := by decide +kernel
theorem dX10_restore_24 : decode cX10_restore 24 = .ok (.bipush 90, 2) := by decide +kernel
theorem dX10_restore_26 : decode cX10_restore 26 = .ok (.iload_n 1, 1) := by decide +kernel
theorem dX10_restore_27 : decode cX10_restore 27 = .ok (.imul, 1) := by decide +kernel
theorem dX10_restore_28 : decode cX10_restore 28 = .ok (.istore_n 2, 1) := by decide +kernel
theorem dX10_restore_29 : decode cX10_restore 29 = .ok (.iconst 0, 1) := by decide +kernel
theorem dX10_restore_30 : decode cX10_restore 30 = .ok (.istore_n 3, 1) := by decide +kernel
theorem dX10_restore_31 : decode cX10_restore 31 = .ok (.iload_n 3, 1) := by decide +kernel
theorem dX10_restore_32 : decode cX10_restore 32 = .ok (.bipush 25, 2) := by decide +kernel
theorem dX10_restore_34 : decode cX10_restore 34 = .ok (.if_icmp .ge 23, 3) := by decide +kernel
theorem dX10_restore_37 : decode cX10_restore 37 = .ok (.aload_n 0, 1) := by decide +kernel
theorem dX10_restore_38 : decode cX10_restore 38 = .ok (.getfield 13, 3) := by decide +kernel
theorem dX10_restore_41 : decode cX10_restore 41 = .ok (.iload_n 3, 1) := by decide +kernel
theorem dX10_restore_42 : decode cX10_restore 42 = .ok (.aload_n 0, 1) := by decide +kernel
theorem dX10_restore_43 : decode cX10_restore 43 = .ok (.getfield 50, 3) := by decide +kernel
theorem dX10_restore_46 : decode cX10_restore 46 = .ok (.iload_n 2, 1) := by decide +kernel
theorem dX10_restore_47 : decode cX10_restore 47 = .ok (.iload_n 3, 1) := by decide +kernel
theorem dX10_restore_48 : decode cX10_restore 48 = .ok (.iadd, 1) := by decide +kernel
theorem dX10_restore_49 : decode cX10_restore 49 = .ok (.iaload, 1) := by decide +kernel
theorem dX10_restore_50 : decode cX10_restore 50 = .ok (.iastore, 1) := by decide +kernel
theorem dX10_restore_51 : decode cX10_restore 51 = .ok (.iinc 3 1, 3) := by decide +kernel
theorem dX10_restore_54 : decode cX10_restore 54 = .ok (.goto (-23), 3) := by decide +kernel
theorem dX10_restore_57 : decode cX10_restore 57 = .ok (.iconst 0, 1) := by decide +kernel
theorem dX10_restore_58 : decode cX10_restore 58 = .ok (.istore_n 3, 1) := by decide +kernel
theorem dX10_restore_59 : decode cX10_restore 59 = .ok (.iload_n 3, 1) := by decide +kernel
theorem dX10_restore_60 : decode cX10_restore 60 = .ok (.bipush 12, 2) := by decide +kernel
theorem dX10_restore_62 : decode cX10_restore 62 = .ok (.if_icmp .ge 26, 3) := by decide +kernel
theorem dX10_restore_65 : decode cX10_restore 65 = .ok (.aload_n 0, 1) := by decide +kernel
theorem dX10_restore_66 : decode cX10_restore 66 = .ok (.getfield 7, 3) := by decide +kernel
theorem dX10_restore_69 : decode cX10_restore 69 = .ok (.iload_n 3, 1) := by decide +kernel
theorem dX10_restore_70 : decode cX10_restore 70 = .ok (.aload_n 0, 1) := by decide +kernel
theorem dX10_restore_71 : decode cX10_restore 71 = .ok (.getfield 50, 3) := by decide +kernel
theorem dX10_restore_74 : decode cX10_restore 74 = .ok (.iload_n 2, 1) := by decide +kernel
theorem dX10_restore_75 : decode cX10_restore 75 = .ok (.bipush 25, 2) := by decide +kernel
theorem dX10_restore_77 : decode cX10_restore 77 = .ok (.iadd, 1) := by decide +kernel
theorem dX10_restore_78 : decode cX10_restore 78 = .ok (.iload_n 3, 1) := by decide +kernel
theorem dX10_restore_79 : decode cX10_restore 79 = .ok (.iadd, 1) := by decide +kernel
theorem dX10_restore_80 : decode cX10_restore 80 = .ok (.iaload, 1) := by decide +kernel
theorem dX10_restore_81 : decode cX10_restore 81 = .ok (.iastore, 1) := by decide +kernel
theorem dX10_restore_82 : decode cX10_restore 82 = .ok (.iinc 3 1, 3) := by decide +kernel
theorem dX10_restore_85 : decode cX10_restore 85 = .ok (.goto (-26), 3) := by decide +kernel
theorem dX10_restore_88 : decode cX10_restore 88 = .ok (.iconst 0, 1) := by decide +kernel
theorem dX10_restore_89 : decode cX10_restore 89 = .ok (.istore_n 3, 1) := by decide +kernel
theorem dX10_restore_90 : decode cX10_restore 90 = .ok (.iload_n 3, 1) := by decide +kernel
theorem dX10_restore_91 : decode cX10_restore 91 = .ok (.bipush 16, 2) := by decide +kernel
theorem dX10_restore_93 : decode cX10_restore 93 = .ok (.if_icmp .ge 26, 3) := by decide +kernel
theorem dX10_restore_96 : decode cX10_restore 96 = .ok (.aload_n 0, 1) := by decide +kernel
theorem dX10_restore_97 : decode cX10_restore 97 = .ok (.getfield 19, 3) := by decide +kernel
theorem dX10_restore_100 : decode cX10_restore 100 = .ok (.iload_n 3, 1) := by decide +kernel
theorem dX10_restore_101 : decode cX10_restore 101 = .ok (.aload_n 0, 1) := by decide +kernel
theorem dX10_restore_102 : decode cX10_restore 102 = .ok (.getfield 50, 3) := by decide +kernel
theorem dX10_restore_105 : decode cX10_restore 105 = .ok (.iload_n 2, 1) := by decide +kernel
theorem dX10_restore_106 : decode cX10_restore 106 = .ok (.bipush 37, 2) := by decide +kernel
theorem dX10_restore_108 : decode cX10_restore 108 = .ok (.iadd, 1) := by decide +kernel
theorem dX10_restore_109 : decode cX10_restore 109 = .ok (.iload_n 3, 1) := by decide +kernel
theorem dX10_restore_110 : decode cX10_restore 110 = .ok (.iadd, 1) := by decide +kernel
theorem dX10_restore_111 : decode cX10_restore 111 = .ok (.iaload, 1) := by decide +kernel
theorem dX10_restore_112 : decode cX10_restore 112 = .ok (.iastore, 1) := by decide +kernel
theorem dX10_restore_113 : decode cX10_restore 113 = .ok (.iinc 3 1, 3) := by decide +kernel
theorem dX10_restore_116 : decode cX10_restore 116 = .ok (.goto (-26), 3) := by decide +kernel
theorem dX10_restore_119 : decode cX10_restore 119 = .ok (.iconst 0, 1) := by decide +kernel
theorem dX10_restore_120 : decode cX10_restore 120 = .ok (.istore_n 3, 1) := by decide +kernel
theorem dX10_restore_121 : decode cX10_restore 121 = .ok (.iload_n 3, 1) := by decide +kernel
theorem dX10_restore_122 : decode cX10_restore 122 = .ok (.bipush 24, 2) := by decide +kernel
theorem dX10_restore_124 : decode cX10_restore 124 = .ok (.if_icmp .ge 26, 3) := by decide +kernel
theorem dX10_restore_127 : decode cX10_restore 127 = .ok (.aload_n 0, 1) := by decide +kernel
theorem dX10_restore_128 : decode cX10_restore 128 = .ok (.getfield 22, 3) := by decide +kernel
theorem dX10_restore_131 : decode cX10_restore 131 = .ok (.iload_n 3, 1) := by decide +kernel
theorem dX10_restore_132 : decode cX10_restore 132 = .ok (.aload_n 0, 1) := by decide +kernel
theorem dX10_restore_133 : decode cX10_restore 133 = .ok (.getfield 50, 3) := by decide +kernel
theorem dX10_restore_136 : decode cX10_restore 136 = .ok (.iload_n 2, 1) := by decide +kernel
theorem dX10_restore_137 : decode cX10_restore 137 = .ok (.bipush 53, 2) := by decide +kernel
theorem dX10_restore_139 : decode cX10_restore 139 = .ok (.iadd, 1) := by decide +kernel
theorem dX10_restore_140 : decode cX10_restore 140 = .ok (.iload_n 3, 1) := by decide +kernel
theorem dX10_restore_141 : decode cX10_restore 141 = .ok (.iadd, 1) := by decide +kernel
theorem dX10_restore_142 : decode cX10_restore 142 = .ok (.iaload, 1) := by decide +kernel
theorem dX10_restore_143 : decode cX10_restore 143 = .ok (.iastore, 1) := by decide +kernel
theorem dX10_restore_144 : decode cX10_restore 144 = .ok (.iinc 3 1, 3) := by decide +kernel
theorem dX10_restore_147 : decode cX10_restore 147 = .ok (.goto (-26), 3) := by decide +kernel
theorem dX10_restore_150 : decode cX10_restore 150 = .ok (.aload_n 0, 1) := by decide +kernel
theorem dX10_restore_151 : decode cX10_restore 151 = .ok (.aload_n 0, 1) := by decide +kernel
theorem dX10_restore_152 : decode cX10_restore 152 = .ok (.getfield 50, 3) := by decide +kernel
theorem dX10_restore_155 : decode cX10_restore 155 = .ok (.iload_n 2, 1) := by decide +kernel
theorem dX10_restore_156 : decode cX10_restore 156 = .ok (.bipush 80, 2) := by decide +kernel
theorem dX10_restore_158 : decode cX10_restore 158 = .ok (.iadd, 1) := by decide +kernel
theorem dX10_restore_159 : decode cX10_restore 159 = .ok (.iaload, 1) := by decide +kernel
theorem dX10_restore_160 : decode cX10_restore 160 = .ok (.putfield 80, 3) := by decide +kernel
theorem dX10_restore_163 : decode cX10_restore 163 = .ok (.aload_n 0, 1) := by decide +kernel
theorem dX10_restore_164 : decode cX10_restore 164 = .ok (.aload_n 0, 1) := by decide +kernel
theorem dX10_restore_165 : decode cX10_restore 165 = .ok (.getfield 50, 3) := by decide +kernel
theorem dX10_restore_168 : decode cX10_restore 168 = .ok (.iload_n 2, 1) := by decide +kernel
theorem dX10_restore_169 : decode cX10_restore 169 = .ok (.bipush 81, 2) := by decide +kernel
theorem dX10_restore_171 : decode cX10_restore 171 = .ok (.iadd, 1) := by decide +kernel
theorem dX10_restore_172 : decode cX10_restore 172 = .ok (.iaload, 1) := by decide +kernel
theorem dX10_restore_173 : decode cX10_restore 173 = .ok (.putfield 65, 3) := by decide +kernel
theorem dX10_restore_176 : decode cX10_restore 176 = .ok (.aload_n 0, 1) := by decide +kernel
theorem dX10_restore_177 : decode cX10_restore 177 = .ok (.aload_n 0, 1) := by decide +kernel
theorem dX10_restore_178 : decode cX10_restore 178 = .ok (.getfield 50, 3) := by decide +kernel
theorem dX10_restore_181 : decode cX10_restore 181 = .ok (.iload_n 2, 1) := by decide +kernel
theorem dX10_restore_182 : decode cX10_restore 182 = .ok (.bipush 82, 2) := by decide +kernel
theorem dX10_restore_184 : decode cX10_restore 184 = .ok (.iadd, 1) := by decide +kernel
theorem dX10_restore_185 : decode cX10_restore 185 = .ok (.iaload, 1) := by decide +kernel
theorem dX10_restore_186 : decode cX10_restore 186 = .ok (.putfield 149, 3) := by decide +kernel
theorem dX10_restore_189 : decode cX10_restore 189 = .ok (.aload_n 0, 1) := by decide +kernel
theorem dX10_restore_190 : decode cX10_restore 190 = .ok (.aload_n 0, 1) := by decide +kernel
theorem dX10_restore_191 : decode cX10_restore 191 = .ok (.getfield 50, 3) := by decide +kernel
theorem dX10_restore_194 : decode cX10_restore 194 = .ok (.iload_n 2, 1) := by decide +kernel
theorem dX10_restore_195 : decode cX10_restore 195 = .ok (.bipush 83, 2) := by decide +kernel
theorem dX10_restore_197 : decode cX10_restore 197 = .ok (.iadd, 1) := by decide +kernel
theorem dX10_restore_198 : decode cX10_restore 198 = .ok (.iaload, 1) := by decide +kernel
theorem dX10_restore_199 : decode cX10_restore 199 = .ok (.putfield 165, 3) := by decide +kernel
theorem dX10_restore_202 : decode cX10_restore 202 = .ok (.iconst 1, 1) := by decide +kernel
theorem dX10_restore_203 : decode cX10_restore 203 = .ok (.ireturn, 1) := by decide +kernel
set_option maxRecDepth 20000 in
theorem ggX10_told_X10_isPlace : GoodIn wsX10_told wsX10_isPlace := goodIn_r _ [11, 12, 13, 10, 14] (by decide +kernel) (by decide +kernel)
set_option maxRecDepth 20000 in
theorem gX10_told_X10_isPlace : GoodIn wsX10_told (va_wsS RX10 73 yX10_isPlace wsX10_isPlace) := goodIn_app (goodIn_of _ (by decide +kernel)) ggX10_told_X10_isPlace
set_option maxRecDepth 20000 in
theorem ggX10_told_X10_isThere : GoodIn wsX10_told wsX10_isThere := goodIn_r _ [18, 4, 19, 20, 10, 21, 12, 13, 14, 22, 23, 24, 25, 26, 27, 28, 29, 30, 31, 32, 33, 34, 35, 36, 37, 38, 39, 40, 41, 42, 43, 44, 45, 46, 47, 48] (by decide +kernel) (by decide +kernel)
set_option maxRecDepth 20000 in
theorem gX10_told_X10_isThere : GoodIn wsX10_told (wsV RX10 83 RX10 yX10_isThere wsX10_isThere) := goodIn_app (goodIn_of _ (by decide +kernel)) ggX10_told_X10_isThere
set_option maxRecDepth 20000 in
theorem ggX10_told_X10_in : GoodIn wsX10_told wsX10_in := goodIn_r _ [14] (by decide +kernel) (by decide +kernel)
set_option maxRecDepth 20000 in
theorem gX10_told_X10_in : GoodIn wsX10_told (va_wsS RX10 57 yX10_in wsX10_in) := goodIn_app (goodIn_of _ (by decide +kernel)) ggX10_told_X10_in
theorem dX10_told_0 : decode cX10_told 0 = .ok (.iload_n 1, 1) := by decide +kernel
theorem dX10_told_1 : decode cX10_told 1 = .ok (.bipush 100, 2) := by decide +kernel
theorem dX10_told_3 : decode cX10_told 3 = .ok (.if_icmp .lt 28, 3) := by decide +kernel
theorem dX10_told_6 : decode cX10_told 6 = .ok (.iload_n 1, 1) := by decide +kernel
theorem dX10_told_7 : decode cX10_told 7 = .ok (.bipush 100, 2) := by decide +kernel
theorem dX10_told_9 : decode cX10_told 9 = .ok (.isub, 1) := by decide +kernel
theorem dX10_told_10 : decode cX10_told 10 = .ok (.invokestatic 73, 3) := by decide +kernel
theorem dX10_told_13 : decode cX10_told 13 = .ok (.ifCond .eq 15, 3) := by decide +kernel
theorem dX10_told_16 : decode cX10_told 16 = .ok (.aload_n 0, 1) := by decide +kernel
theorem dX10_told_17 : decode cX10_told 17 = .ok (.getfield 7, 3) := by decide +kernel
theorem dX10_told_20 : decode cX10_told 20 = .ok (.iload_n 1, 1) := by decide +kernel
theorem dX10_told_21 : decode cX10_told 21 = .ok (.bipush 100, 2) := by decide +kernel
theorem dX10_told_23 : decode cX10_told 23 = .ok (.isub, 1) := by decide +kernel
theorem dX10_told_24 : decode cX10_told 24 = .ok (.iaload, 1) := by decide +kernel
theorem dX10_told_25 : decode cX10_told 25 = .ok (.goto 5, 3) := by decide +kernel
theorem dX10_told_28 : decode cX10_told 28 = .ok (.bipush (-2), 2) := by decide +kernel
theorem dX10_told_30 : decode cX10_told 30 = .ok (.ireturn, 1) := by decide +kernel
theorem dX10_told_31 : decode cX10_told 31 = .ok (.iload_n 1, 1) := by decide +kernel
theorem dX10_told_32 : decode cX10_told 32 = .ok (.bipush 10, 2) := by decide +kernel
theorem dX10_told_34 : decode cX10_told 34 = .ok (.if_icmp .lt 79, 3) := by decide +kernel
theorem dX10_told_37 : decode cX10_told 37 = .ok (.iload_n 1, 1) := by decide +kernel
theorem dX10_told_38 : decode cX10_told 38 = .ok (.bipush 10, 2) := by decide +kernel
theorem dX10_told_40 : decode cX10_told 40 = .ok (.idiv, 1) := by decide +kernel
theorem dX10_told_41 : decode cX10_told 41 = .ok (.iconst 1, 1) := by decide +kernel
theorem dX10_told_42 : decode cX10_told 42 = .ok (.isub, 1) := by decide +kernel
theorem dX10_told_43 : decode cX10_told 43 = .ok (.istore_n 2, 1) := by decide +kernel
theorem dX10_told_44 : decode cX10_told 44 = .ok (.iload_n 1, 1) := by decide +kernel
theorem dX10_told_45 : decode cX10_told 45 = .ok (.bipush 10, 2) := by decide +kernel
theorem dX10_told_47 : decode cX10_told 47 = .ok (.irem, 1) := by decide +kernel
theorem dX10_told_48 : decode cX10_told 48 = .ok (.istore_n 3, 1) := by decide +kernel
theorem dX10_told_49 : decode cX10_told 49 = .ok (.aload_n 0, 1) := by decide +kernel
theorem dX10_told_50 : decode cX10_told 50 = .ok (.iload_n 2, 1) := by decide +kernel
theorem dX10_told_51 : decode cX10_told 51 = .ok (.invokevirtual 83, 3) := by decide +kernel
theorem dX10_told_54 : decode cX10_told 54 = .ok (.ifCond .eq 8, 3) := by decide +kernel
theorem dX10_told_57 : decode cX10_told 57 = .ok (.iload_n 3, 1) := by decide +kernel
theorem dX10_told_58 : decode cX10_told 58 = .ok (.iconst 3, 1) := by decide +kernel
theorem dX10_told_59 : decode cX10_told 59 = .ok (.if_icmp .le 6, 3) := by decide +kernel
theorem dX10_told_62 : decode cX10_told 62 = .ok (.bipush (-2), 2) := by decide +kernel
theorem dX10_told_64 : decode cX10_told 64 = .ok (.ireturn, 1) := by decide +kernel
theorem dX10_told_65 : decode cX10_told 65 = .ok (.iload_n 3, 1) := by decide +kernel
theorem dX10_told_66 : decode cX10_told 66 = .ok (.iconst 2, 1) := by decide +kernel
theorem dX10_told_67 : decode cX10_told 67 = .ok (.if_icmp .ge 17, 3) := by decide +kernel
theorem dX10_told_70 : decode cX10_told 70 = .ok (.aload_n 0, 1) := by decide +kernel
theorem dX10_told_71 : decode cX10_told 71 = .ok (.getfield 13, 3) := by decide +kernel
theorem dX10_told_74 : decode cX10_told 74 = .ok (.bipush 7, 2) := by decide +kernel
theorem dX10_told_76 : decode cX10_told 76 = .ok (.iload_n 3, 1) := by decide +kernel
theorem dX10_told_77 : decode cX10_told 77 = .ok (.imul, 1) := by decide +kernel
theorem dX10_told_78 : decode cX10_told 78 = .ok (.iload_n 2, 1) := by decide +kernel
theorem dX10_told_79 : decode cX10_told 79 = .ok (.iadd, 1) := by decide +kernel
theorem dX10_told_80 : decode cX10_told 80 = .ok (.iaload, 1) := by decide +kernel
theorem dX10_told_81 : decode cX10_told 81 = .ok (.goto 31, 3) := by decide +kernel
theorem dX10_told_84 : decode cX10_told 84 = .ok (.iload_n 3, 1) := by decide +kernel
theorem dX10_told_85 : decode cX10_told 85 = .ok (.iconst 2, 1) := by decide +kernel
theorem dX10_told_86 : decode cX10_told 86 = .ok (.if_icmp .ne 17, 3) := by decide +kernel
theorem dX10_told_89 : decode cX10_told 89 = .ok (.aload_n 0, 1) := by decide +kernel
theorem dX10_told_90 : decode cX10_told 90 = .ok (.getfield 13, 3) := by decide +kernel
theorem dX10_told_93 : decode cX10_told 93 = .ok (.bipush 21, 2) := by decide +kernel
theorem dX10_told_95 : decode cX10_told 95 = .ok (.iaload, 1) := by decide +kernel
theorem dX10_told_96 : decode cX10_told 96 = .ok (.iload_n 2, 1) := by decide +kernel
theorem dX10_told_97 : decode cX10_told 97 = .ok (.ishr, 1) := by decide +kernel
theorem dX10_told_98 : decode cX10_told 98 = .ok (.iconst 1, 1) := by decide +kernel
theorem dX10_told_99 : decode cX10_told 99 = .ok (.iand, 1) := by decide +kernel
theorem dX10_told_100 : decode cX10_told 100 = .ok (.goto 12, 3) := by decide +kernel
theorem dX10_told_103 : decode cX10_told 103 = .ok (.aload_n 0, 1) := by decide +kernel
theorem dX10_told_104 : decode cX10_told 104 = .ok (.getfield 13, 3) := by decide +kernel
theorem dX10_told_107 : decode cX10_told 107 = .ok (.bipush 14, 2) := by decide +kernel
theorem dX10_told_109 : decode cX10_told 109 = .ok (.iload_n 2, 1) := by decide +kernel
theorem dX10_told_110 : decode cX10_told 110 = .ok (.iadd, 1) := by decide +kernel
theorem dX10_told_111 : decode cX10_told 111 = .ok (.iaload, 1) := by decide +kernel
theorem dX10_told_112 : decode cX10_told 112 = .ok (.ireturn, 1) := by decide +kernel
theorem dX10_told_113 : decode cX10_told 113 = .ok (.iload_n 1, 1) := by decide +kernel
theorem dX10_told_114 : decode cX10_told 114 = .ok (.tableswitch 71 0 7 #[46, 51, 71, 71, 71, 56, 61, 66], 46) := by decide +kernel
theorem dX10_told_160 : decode cX10_told 160 = .ok (.aload_n 0, 1) := by decide +kernel
theorem dX10_told_161 : decode cX10_told 161 = .ok (.getfield 86, 3) := by decide +kernel
theorem dX10_told_164 : decode cX10_told 164 = .ok (.ireturn, 1) := by decide +kernel
theorem dX10_told_165 : decode cX10_told 165 = .ok (.aload_n 0, 1) := by decide +kernel
theorem dX10_told_166 : decode cX10_told 166 = .ok (.getfield 65, 3) := by decide +kernel
theorem dX10_told_169 : decode cX10_told 169 = .ok (.ireturn, 1) := by decide +kernel
theorem dX10_told_170 : decode cX10_told 170 = .ok (.aload_n 0, 1) := by decide +kernel
theorem dX10_told_171 : decode cX10_told 171 = .ok (.getfield 80, 3) := by decide +kernel
theorem dX10_told_174 : decode cX10_told 174 = .ok (.ireturn, 1) := by decide +kernel
theorem dX10_told_175 : decode cX10_told 175 = .ok (.aload_n 0, 1) := by decide +kernel
theorem dX10_told_176 : decode cX10_told 176 = .ok (.getfield 149, 3) := by decide +kernel
theorem dX10_told_179 : decode cX10_told 179 = .ok (.ireturn, 1) := by decide +kernel
theorem dX10_told_180 : decode cX10_told 180 = .ok (.aload_n 0, 1) := by decide +kernel
theorem dX10_told_181 : decode cX10_told 181 = .ok (.getfield 165, 3) := by decide +kernel
theorem dX10_told_184 : decode cX10_told 184 = .ok (.ireturn, 1) := by decide +kernel
theorem dX10_told_185 : decode cX10_told 185 = .ok (.iload_n 1, 1) := by decide +kernel
theorem dX10_told_186 : decode cX10_told 186 = .ok (.iconst 2, 1) := by decide +kernel
theorem dX10_told_187 : decode cX10_told 187 = .ok (.iconst 4, 1) := by decide +kernel
theorem dX10_told_188 : decode cX10_told 188 = .ok (.invokestatic 57, 3) := by decide +kernel
theorem dX10_told_191 : decode cX10_told 191 = .ok (.ifCond .eq 15, 3) := by decide +kernel
theorem dX10_told_194 : decode cX10_told 194 = .ok (.aload_n 0, 1) := by decide +kernel
theorem dX10_told_195 : decode cX10_told 195 = .ok (.getfield 13, 3) := by decide +kernel
theorem dX10_told_198 : decode cX10_told 198 = .ok (.bipush 20, 2) := by decide +kernel
theorem dX10_told_200 : decode cX10_told 200 = .ok (.iload_n 1, 1) := by decide +kernel
theorem dX10_told_201 : decode cX10_told 201 = .ok (.iadd, 1) := by decide +kernel
theorem dX10_told_202 : decode cX10_told 202 = .ok (.iaload, 1) := by decide +kernel
theorem dX10_told_203 : decode cX10_told 203 = .ok (.goto 5, 3) := by decide +kernel
theorem dX10_told_206 : decode cX10_told 206 = .ok (.bipush (-2), 2) := by decide +kernel
theorem dX10_told_208 : decode cX10_told 208 = .ok (.ireturn, 1) := by decide +kernel
theorem dJ6_bitCount_0f7a4_0 : decode cJ6_bitCount_0f7a4 0 = .ok (.iload_n 0, 1) := by decide +kernel
theorem dJ6_bitCount_0f7a4_1 : decode cJ6_bitCount_0f7a4 1 = .ok (.iload_n 0, 1) := by decide +kernel
theorem dJ6_bitCount_0f7a4_2 : decode cJ6_bitCount_0f7a4 2 = .ok (.iconst 1, 1) := by decide +kernel
theorem dJ6_bitCount_0f7a4_3 : decode cJ6_bitCount_0f7a4 3 = .ok (.iushr, 1) := by decide +kernel
theorem dJ6_bitCount_0f7a4_4 : decode cJ6_bitCount_0f7a4 4 = .ok (.ldc_w 265, 3) := by decide +kernel
theorem dJ6_bitCount_0f7a4_7 : decode cJ6_bitCount_0f7a4 7 = .ok (.iand, 1) := by decide +kernel
theorem dJ6_bitCount_0f7a4_8 : decode cJ6_bitCount_0f7a4 8 = .ok (.isub, 1) := by decide +kernel
theorem dJ6_bitCount_0f7a4_9 : decode cJ6_bitCount_0f7a4 9 = .ok (.istore_n 0, 1) := by decide +kernel
theorem dJ6_bitCount_0f7a4_10 : decode cJ6_bitCount_0f7a4 10 = .ok (.iload_n 0, 1) := by decide +kernel
theorem dJ6_bitCount_0f7a4_11 : decode cJ6_bitCount_0f7a4 11 = .ok (.ldc_w 266, 3) := by decide +kernel
theorem dJ6_bitCount_0f7a4_14 : decode cJ6_bitCount_0f7a4 14 = .ok (.iand, 1) := by decide +kernel
theorem dJ6_bitCount_0f7a4_15 : decode cJ6_bitCount_0f7a4 15 = .ok (.iload_n 0, 1) := by decide +kernel
theorem dJ6_bitCount_0f7a4_16 : decode cJ6_bitCount_0f7a4 16 = .ok (.iconst 2, 1) := by decide +kernel
theorem dJ6_bitCount_0f7a4_17 : decode cJ6_bitCount_0f7a4 17 = .ok (.iushr, 1) := by decide +kernel
theorem dJ6_bitCount_0f7a4_18 : decode cJ6_bitCount_0f7a4 18 = .ok (.ldc_w 266, 3) := by decide +kernel
theorem dJ6_bitCount_0f7a4_21 : decode cJ6_bitCount_0f7a4 21 = .ok (.iand, 1) := by decide +kernel
theorem dJ6_bitCount_0f7a4_22 : decode cJ6_bitCount_0f7a4 22 = .ok (.iadd, 1) := by decide +kernel
theorem dJ6_bitCount_0f7a4_23 : decode cJ6_bitCount_0f7a4 23 = .ok (.istore_n 0, 1) := by decide +kernel
theorem dJ6_bitCount_0f7a4_24 : decode cJ6_bitCount_0f7a4 24 = .ok (.iload_n 0, 1) := by decide +kernel
theorem dJ6_bitCount_0f7a4_25 : decode cJ6_bitCount_0f7a4 25 = .ok (.iload_n 0, 1) := by decide +kernel
theorem dJ6_bitCount_0f7a4_26 : decode cJ6_bitCount_0f7a4 26 = .ok (.iconst 4, 1) := by decide +kernel
theorem dJ6_bitCount_0f7a4_27 : decode cJ6_bitCount_0f7a4 27 = .ok (.iushr, 1) := by decide +kernel
theorem dJ6_bitCount_0f7a4_28 : decode cJ6_bitCount_0f7a4 28 = .ok (.iadd, 1) := by decide +kernel
theorem dJ6_bitCount_0f7a4_29 : decode cJ6_bitCount_0f7a4 29 = .ok (.ldc_w 267, 3) := by decide +kernel
theorem dJ6_bitCount_0f7a4_32 : decode cJ6_bitCount_0f7a4 32 = .ok (.iand, 1) := by decide +kernel
theorem dJ6_bitCount_0f7a4_33 : decode cJ6_bitCount_0f7a4 33 = .ok (.istore_n 0, 1) := by decide +kernel
theorem dJ6_bitCount_0f7a4_34 : decode cJ6_bitCount_0f7a4 34 = .ok (.iload_n 0, 1) := by decide +kernel
theorem dJ6_bitCount_0f7a4_35 : decode cJ6_bitCount_0f7a4 35 = .ok (.iload_n 0, 1) := by decide +kernel
theorem dJ6_bitCount_0f7a4_36 : decode cJ6_bitCount_0f7a4 36 = .ok (.bipush 8, 2) := by decide +kernel
theorem dJ6_bitCount_0f7a4_38 : decode cJ6_bitCount_0f7a4 38 = .ok (.iushr, 1) := by decide +kernel
theorem dJ6_bitCount_0f7a4_39 : decode cJ6_bitCount_0f7a4 39 = .ok (.iadd, 1) := by decide +kernel
theorem dJ6_bitCount_0f7a4_40 : decode cJ6_bitCount_0f7a4 40 = .ok (.istore_n 0, 1) := by decide +kernel
theorem dJ6_bitCount_0f7a4_41 : decode cJ6_bitCount_0f7a4 41 = .ok (.iload_n 0, 1) := by decide +kernel
theorem dJ6_bitCount_0f7a4_42 : decode cJ6_bitCount_0f7a4 42 = .ok (.iload_n 0, 1) := by decide +kernel
theorem dJ6_bitCount_0f7a4_43 : decode cJ6_bitCount_0f7a4 43 = .ok (.bipush 16, 2) := by decide +kernel
theorem dJ6_bitCount_0f7a4_45 : decode cJ6_bitCount_0f7a4 45 = .ok (.iushr, 1) := by decide +kernel
theorem dJ6_bitCount_0f7a4_46 : decode cJ6_bitCount_0f7a4 46 = .ok (.iadd, 1) := by decide +kernel
theorem dJ6_bitCount_0f7a4_47 : decode cJ6_bitCount_0f7a4 47 = .ok (.istore_n 0, 1) := by decide +kernel
theorem dJ6_bitCount_0f7a4_48 : decode cJ6_bitCount_0f7a4 48 = .ok (.iload_n 0, 1) := by decide +kernel
theorem dJ6_bitCount_0f7a4_49 : decode cJ6_bitCount_0f7a4 49 = .ok (.bipush 63, 2) := by decide +kernel
theorem dJ6_bitCount_0f7a4_51 : decode cJ6_bitCount_0f7a4 51 = .ok (.iand, 1) := by decide +kernel
theorem dJ6_bitCount_0f7a4_52 : decode cJ6_bitCount_0f7a4 52 = .ok (.ireturn, 1) := by decide +kernel
theorem dJ9_max_7cf53_0 : decode cJ9_max_7cf53 0 = .ok (.iload_n 0, 1) := by decide +kernel
theorem dJ9_max_7cf53_1 : decode cJ9_max_7cf53 1 = .ok (.iload_n 1, 1) := by decide +kernel
theorem dJ9_max_7cf53_2 : decode cJ9_max_7cf53 2 = .ok (.if_icmp .lt 7, 3) := by decide +kernel
theorem dJ9_max_7cf53_5 : decode cJ9_max_7cf53 5 = .ok (.iload_n 0, 1) := by decide +kernel
theorem dJ9_max_7cf53_6 : decode cJ9_max_7cf53 6 = .ok (.goto 4, 3) := by decide +kernel
theorem dJ9_max_7cf53_9 : decode cJ9_max_7cf53 9 = .ok (.iload_n 1, 1) := by decide +kernel
theorem dJ9_max_7cf53_10 : decode cJ9_max_7cf53 10 = .ok (.ireturn, 1) := by decide +kernel
theorem dJ9_min_7cf53_0 : decode cJ9_min_7cf53 0 = .ok (.iload_n 0, 1) := by decide +kernel
theorem dJ9_min_7cf53_1 : decode cJ9_min_7cf53 1 = .ok (.iload_n 1, 1) := by decide +kernel
theorem dJ9_min_7cf53_2 : decode cJ9_min_7cf53 2 = .ok (.if_icmp .gt 7, 3) := by decide +kernel
theorem dJ9_min_7cf53_5 : decode cJ9_min_7cf53 5 = .ok (.iload_n 0, 1) := by decide +kernel
theorem dJ9_min_7cf53_6 : decode cJ9_min_7cf53 6 = .ok (.goto 4, 3) := by decide +kernel
theorem dJ9_min_7cf53_9 : decode cJ9_min_7cf53 9 = .ok (.iload_n 1, 1) := by decide +kernel
theorem dJ9_min_7cf53_10 : decode cJ9_min_7cf53 10 = .ok (.ireturn, 1) := by decide +kernel
