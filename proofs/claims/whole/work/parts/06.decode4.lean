theorem dX5_asNumber_1 : decode cX5_asNumber 1 = .ok (.ifCond .eq 7, 3) := by decide +kernel
theorem dX5_asNumber_4 : decode cX5_asNumber 4 = .ok (.iconst 1, 1) := by decide +kernel
theorem dX5_asNumber_5 : decode cX5_asNumber 5 = .ok (.goto 4, 3) := by decide +kernel
theorem dX5_asNumber_8 : decode cX5_asNumber 8 = .ok (.iconst 0, 1) := by decide +kernel
theorem dX5_asNumber_9 : decode cX5_asNumber 9 = .ok (.ireturn, 1) := by decide +kernel
theorem dX6_init_0 : decode cX6_init 0 = .ok (.aload_n 0, 1) := by decide +kernel
theorem dX6_init_1 : decode cX6_init 1 = .ok (.invokespecial 1, 3) := by decide +kernel
theorem dX6_init_4 : decode cX6_init 4 = .ok (.aload_n 0, 1) := by decide +kernel
theorem dX6_init_5 : decode cX6_init 5 = .ok (.sipush 6819, 3) := by decide +kernel
theorem dX6_init_8 : decode cX6_init 8 = .ok (.newarray .int, 2) := by decide +kernel
theorem dX6_init_10 : decode cX6_init 10 = .ok (.putfield 7, 3) := by decide +kernel
theorem dX6_init_13 : decode cX6_init 13 = .ok (.aload_n 0, 1) := by decide +kernel
theorem dX6_init_14 : decode cX6_init 14 = .ok (.sipush 13638, 3) := by decide +kernel
theorem dX6_init_17 : decode cX6_init 17 = .ok (.newarray .int, 2) := by decide +kernel
theorem dX6_init_19 : decode cX6_init 19 = .ok (.putfield 13, 3) := by decide +kernel
theorem dX6_init_22 : decode cX6_init 22 = .ok (.aload_n 0, 1) := by decide +kernel
theorem dX6_init_23 : decode cX6_init 23 = .ok (.iconst 2, 1) := by decide +kernel
theorem dX6_init_24 : decode cX6_init 24 = .ok (.newarray .boolean, 2) := by decide +kernel
theorem dX6_init_26 : decode cX6_init 26 = .ok (.putfield 16, 3) := by decide +kernel
theorem dX6_init_29 : decode cX6_init 29 = .ok (.iconst 0, 1) := by decide +kernel
theorem dX6_init_30 : decode cX6_init 30 = .ok (.istore_n 1, 1) := by decide +kernel
theorem dX6_init_31 : decode cX6_init 31 = .ok (.iload_n 1, 1) := by decide +kernel
theorem dX6_init_32 : decode cX6_init 32 = .ok (.bipush 10, 2) := by decide +kernel
theorem dX6_init_34 : decode cX6_init 34 = .ok (.if_icmp .ge 50, 3) := by decide +kernel
theorem dX6_init_37 : decode cX6_init 37 = .ok (.aload_n 0, 1) := by decide +kernel
theorem dX6_init_38 : decode cX6_init 38 = .ok (.getfield 7, 3) := by decide +kernel
theorem dX6_init_41 : decode cX6_init 41 = .ok (.bipush 10, 2) := by decide +kernel
theorem dX6_init_43 : decode cX6_init 43 = .ok (.iload_n 1, 1) := by decide +kernel
theorem dX6_init_44 : decode cX6_init 44 = .ok (.iadd, 1) := by decide +kernel
theorem dX6_init_45 : decode cX6_init 45 = .ok (.iconst 1, 1) := by decide +kernel
theorem dX6_init_46 : decode cX6_init 46 = .ok (.iastore, 1) := by decide +kernel
theorem dX6_init_47 : decode cX6_init 47 = .ok (.aload_n 0, 1) := by decide +kernel
theorem dX6_init_48 : decode cX6_init 48 = .ok (.getfield 7, 3) := by decide +kernel
theorem dX6_init_51 : decode cX6_init 51 = .ok (.bipush 20, 2) := by decide +kernel
theorem dX6_init_53 : decode cX6_init 53 = .ok (.iload_n 1, 1) := by decide +kernel
theorem dX6_init_54 : decode cX6_init 54 = .ok (.iadd, 1) := by decide +kernel
theorem dX6_init_55 : decode cX6_init 55 = .ok (.iconst 1, 1) := by decide +kernel
theorem dX6_init_56 : decode cX6_init 56 = .ok (.iastore, 1) := by decide +kernel
theorem dX6_init_57 : decode cX6_init 57 = .ok (.aload_n 0, 1) := by decide +kernel
theorem dX6_init_58 : decode cX6_init 58 = .ok (.getfield 7, 3) := by decide +kernel
theorem dX6_init_61 : decode cX6_init 61 = .ok (.bipush 30, 2) := by decide +kernel
theorem dX6_init_63 : decode cX6_init 63 = .ok (.iload_n 1, 1) := by decide +kernel
theorem dX6_init_64 : decode cX6_init 64 = .ok (.iadd, 1) := by decide +kernel
theorem dX6_init_65 : decode cX6_init 65 = .ok (.iconst 4, 1) := by decide +kernel
theorem dX6_init_66 : decode cX6_init 66 = .ok (.iastore, 1) := by decide +kernel
theorem dX6_init_67 : decode cX6_init 67 = .ok (.aload_n 0, 1) := by decide +kernel
theorem dX6_init_68 : decode cX6_init 68 = .ok (.getfield 7, 3) := by decide +kernel
theorem dX6_init_71 : decode cX6_init 71 = .ok (.bipush 70, 2) := by decide +kernel
theorem dX6_init_73 : decode cX6_init 73 = .ok (.iload_n 1, 1) := by decide +kernel
theorem dX6_init_74 : decode cX6_init 74 = .ok (.iadd, 1) := by decide +kernel
theorem dX6_init_75 : decode cX6_init 75 = .ok (.bipush (-6), 2) := by decide +kernel
theorem dX6_init_77 : decode cX6_init 77 = .ok (.iastore, 1) := by decide +kernel
theorem dX6_init_78 : decode cX6_init 78 = .ok (.iinc 1 1, 3) := by decide +kernel
theorem dX6_init_81 : decode cX6_init 81 = .ok (.goto (-50), 3) := by decide +kernel
theorem dX6_init_84 : decode cX6_init 84 = .ok (.aload_n 0, 1) := by decide +kernel
theorem dX6_init_85 : decode cX6_init 85 = .ok (.getfield 7, 3) := by decide +kernel
theorem dX6_init_88 : decode cX6_init 88 = .ok (.sipush 6813, 3) := by decide +kernel
theorem dX6_init_91 : decode cX6_init 91 = .ok (.sipush 1023, 3) := by decide +kernel
theorem dX6_init_94 : decode cX6_init 94 = .ok (.iastore, 1) := by decide +kernel
theorem dX6_init_95 : decode cX6_init 95 = .ok (.return_, 1) := by decide +kernel
theorem dX6_in_0 : decode cX6_in 0 = .ok (.iload_n 0, 1) := by decide +kernel
theorem dX6_in_1 : decode cX6_in 1 = .ok (.iload_n 1, 1) := by decide +kernel
theorem dX6_in_2 : decode cX6_in 2 = .ok (.if_icmp .lt 12, 3) := by decide +kernel
theorem dX6_in_5 : decode cX6_in 5 = .ok (.iload_n 0, 1) := by decide +kernel
theorem dX6_in_6 : decode cX6_in 6 = .ok (.iload_n 2, 1) := by decide +kernel
theorem dX6_in_7 : decode cX6_in 7 = .ok (.if_icmp .gt 7, 3) := by decide +kernel
theorem dX6_in_10 : decode cX6_in 10 = .ok (.iconst 1, 1) := by decide +kernel
theorem dX6_in_11 : decode cX6_in 11 = .ok (.goto 4, 3) := by decide +kernel
theorem dX6_in_14 : decode cX6_in 14 = .ok (.iconst 0, 1) := by decide +kernel
theorem dX6_in_15 : decode cX6_in 15 = .ok (.ireturn, 1) := by decide +kernel
set_option maxRecDepth 20000 in
theorem ggX6_isLamp_X6_in : GoodIn wsX6_isLamp wsX6_in := goodIn_r _ [4] (by decide +kernel) (by decide +kernel)
set_option maxRecDepth 20000 in
theorem gX6_isLamp_X6_in : GoodIn wsX6_isLamp (va_wsS RX6 20 yX6_in wsX6_in) := goodIn_app (goodIn_of _ (by decide +kernel)) ggX6_isLamp_X6_in
theorem dX6_isLamp_0 : decode cX6_isLamp 0 = .ok (.iload_n 0, 1) := by decide +kernel
theorem dX6_isLamp_1 : decode cX6_isLamp 1 = .ok (.iconst 0, 1) := by decide +kernel
theorem dX6_isLamp_2 : decode cX6_isLamp 2 = .ok (.bipush 9, 2) := by decide +kernel
theorem dX6_isLamp_4 : decode cX6_isLamp 4 = .ok (.invokestatic 20, 3) := by decide +kernel
theorem dX6_isLamp_7 : decode cX6_isLamp 7 = .ok (.ireturn, 1) := by decide +kernel
theorem dX6_isOf_0 : decode cX6_isOf 0 = .ok (.iload_n 0, 1) := by decide +kernel
theorem dX6_isOf_1 : decode cX6_isOf 1 = .ok (.iload_n 1, 1) := by decide +kernel
theorem dX6_isOf_2 : decode cX6_isOf 2 = .ok (.ishr, 1) := by decide +kernel
theorem dX6_isOf_3 : decode cX6_isOf 3 = .ok (.iconst 1, 1) := by decide +kernel
theorem dX6_isOf_4 : decode cX6_isOf 4 = .ok (.iand, 1) := by decide +kernel
theorem dX6_isOf_5 : decode cX6_isOf 5 = .ok (.iconst 1, 1) := by decide +kernel
theorem dX6_isOf_6 : decode cX6_isOf 6 = .ok (.if_icmp .ne 7, 3) := by decide +kernel
theorem dX6_isOf_9 : decode cX6_isOf 9 = .ok (.iconst 1, 1) := by decide +kernel
theorem dX6_isOf_10 : decode cX6_isOf 10 = .ok (.goto 4, 3) := by decide +kernel
theorem dX6_isOf_13 : decode cX6_isOf 13 = .ok (.iconst 0, 1) := by decide +kernel
theorem dX6_isOf_14 : decode cX6_isOf 14 = .ok (.ireturn, 1) := by decide +kernel
theorem dX6_bits_0 : decode cX6_bits 0 = .ok (.iconst 0, 1) := by decide +kernel
theorem dX6_bits_1 : decode cX6_bits 1 = .ok (.istore_n 1, 1) := by decide +kernel
theorem dX6_bits_2 : decode cX6_bits 2 = .ok (.iconst 0, 1) := by decide +kernel
theorem dX6_bits_3 : decode cX6_bits 3 = .ok (.istore_n 2, 1) := by decide +kernel
theorem dX6_bits_4 : decode cX6_bits 4 = .ok (.iload_n 2, 1) := by decide +kernel
theorem dX6_bits_5 : decode cX6_bits 5 = .ok (.bipush 10, 2) := by decide +kernel
theorem dX6_bits_7 : decode cX6_bits 7 = .ok (.if_icmp .ge 17, 3) := by decide +kernel
theorem dX6_bits_10 : decode cX6_bits 10 = .ok (.iload_n 1, 1) := by decide +kernel
theorem dX6_bits_11 : decode cX6_bits 11 = .ok (.iload_n 0, 1) := by decide +kernel
theorem dX6_bits_12 : decode cX6_bits 12 = .ok (.iload_n 2, 1) := by decide +kernel
theorem dX6_bits_13 : decode cX6_bits 13 = .ok (.ishr, 1) := by decide +kernel
theorem dX6_bits_14 : decode cX6_bits 14 = .ok (.iconst 1, 1) := by decide +kernel
theorem dX6_bits_15 : decode cX6_bits 15 = .ok (.iand, 1) := by decide +kernel
theorem dX6_bits_16 : decode cX6_bits 16 = .ok (.iadd, 1) := by decide +kernel
theorem dX6_bits_17 : decode cX6_bits 17 = .ok (.istore_n 1, 1) := by decide +kernel
theorem dX6_bits_18 : decode cX6_bits 18 = .ok (.iinc 2 1, 3) := by decide +kernel
theorem dX6_bits_21 : decode cX6_bits 21 = .ok (.goto (-17), 3) := by decide +kernel
theorem dX6_bits_24 : decode cX6_bits 24 = .ok (.iload_n 1, 1) := by decide +kernel
theorem dX6_bits_25 : decode cX6_bits 25 = .ok (.ireturn, 1) := by decide +kernel
theorem dX6_sleeps_0 : decode cX6_sleeps 0 = .ok (.aload_n 0, 1) := by decide +kernel
theorem dX6_sleeps_1 : decode cX6_sleeps 1 = .ok (.getfield 7, 3) := by decide +kernel
theorem dX6_sleeps_4 : decode cX6_sleeps 4 = .ok (.bipush 60, 2) := by decide +kernel
theorem dX6_sleeps_6 : decode cX6_sleeps 6 = .ok (.iload_n 1, 1) := by decide +kernel
theorem dX6_sleeps_7 : decode cX6_sleeps 7 = .ok (.iadd, 1) := by decide +kernel
theorem dX6_sleeps_8 : decode cX6_sleeps 8 = .ok (.iaload, 1) := by decide +kernel
theorem dX6_sleeps_9 : decode cX6_sleeps 9 = .ok (.iconst 1, 1) := by decide +kernel
theorem dX6_sleeps_10 : decode cX6_sleeps 10 = .ok (.if_icmp .ne 7, 3) := by decide +kernel
theorem dX6_sleeps_13 : decode cX6_sleeps 13 = .ok (.iconst 1, 1) := by decide +kernel
theorem dX6_sleeps_14 : decode cX6_sleeps 14 = .ok (.goto 4, 3) := by decide +kernel
theorem dX6_sleeps_17 : decode cX6_sleeps 17 = .ok (.iconst 0, 1) := by decide +kernel
theorem dX6_sleeps_18 : decode cX6_sleeps 18 = .ok (.ireturn, 1) := by decide +kernel
set_option maxRecDepth 20000 in
theorem ggX6_link_X6_isLamp : GoodIn wsX6_link wsX6_isLamp := goodIn_r _ [5, 6, 7, 4, 8] (by decide +kernel) (by decide +kernel)
set_option maxRecDepth 20000 in
theorem gX6_link_X6_isLamp : GoodIn wsX6_link (va_wsS RX6 24 yX6_isLamp wsX6_isLamp) := goodIn_app (goodIn_of _ (by decide +kernel)) ggX6_link_X6_isLamp
set_option maxRecDepth 20000 in
theorem ggX6_link_X6_in : GoodIn wsX6_link wsX6_in := goodIn_r _ [8] (by decide +kernel) (by decide +kernel)
set_option maxRecDepth 20000 in
theorem gX6_link_X6_in : GoodIn wsX6_link (va_wsS RX6 20 yX6_in wsX6_in) := goodIn_app (goodIn_of _ (by decide +kernel)) ggX6_link_X6_in
set_option maxRecDepth 20000 in
theorem ggX6_link_X6_bits : GoodIn wsX6_link wsX6_bits := goodIn_r _ [11] (by decide +kernel) (by decide +kernel)
set_option maxRecDepth 20000 in
theorem gX6_link_X6_bits : GoodIn wsX6_link (va_wsS RX6 28 yX6_bits wsX6_bits) := goodIn_app (goodIn_of _ (by decide +kernel)) ggX6_link_X6_bits
theorem dX6_link_0 : decode cX6_link 0 = .ok (.iload_n 1, 1) := by decide +kernel
theorem dX6_link_1 : decode cX6_link 1 = .ok (.invokestatic 24, 3) := by decide +kernel
theorem dX6_link_4 : decode cX6_link 4 = .ok (.ifCond .eq 10, 3) := by decide +kernel
theorem dX6_link_7 : decode cX6_link 7 = .ok (.iload_n 2, 1) := by decide +kernel
theorem dX6_link_8 : decode cX6_link 8 = .ok (.invokestatic 24, 3) := by decide +kernel
theorem dX6_link_11 : decode cX6_link 11 = .ok (.ifCond .ne 5, 3) := by decide +kernel
theorem dX6_link_14 : decode cX6_link 14 = .ok (.iconst (-1), 1) := by decide +kernel
theorem dX6_link_15 : decode cX6_link 15 = .ok (.ireturn, 1) := by decide +kernel
theorem dX6_link_16 : decode cX6_link 16 = .ok (.iload_n 1, 1) := by decide +kernel
theorem dX6_link_17 : decode cX6_link 17 = .ok (.iload_n 2, 1) := by decide +kernel
theorem dX6_link_18 : decode cX6_link 18 = .ok (.if_icmp .eq 12, 3) := by decide +kernel
theorem dX6_link_21 : decode cX6_link 21 = .ok (.iload_n 3, 1) := by decide +kernel
theorem dX6_link_22 : decode cX6_link 22 = .ok (.iconst 0, 1) := by decide +kernel
theorem dX6_link_23 : decode cX6_link 23 = .ok (.iconst 1, 1) := by decide +kernel
theorem dX6_link_24 : decode cX6_link 24 = .ok (.invokestatic 20, 3) := by decide +kernel
theorem dX6_link_27 : decode cX6_link 27 = .ok (.ifCond .ne 6, 3) := by decide +kernel
theorem dX6_link_30 : decode cX6_link 30 = .ok (.bipush (-2), 2) := by decide +kernel
theorem dX6_link_32 : decode cX6_link 32 = .ok (.ireturn, 1) := by decide +kernel
theorem dX6_link_33 : decode cX6_link 33 = .ok (.aload_n 0, 1) := by decide +kernel
theorem dX6_link_34 : decode cX6_link 34 = .ok (.getfield 7, 3) := by decide +kernel
theorem dX6_link_37 : decode cX6_link 37 = .ok (.iconst 0, 1) := by decide +kernel
theorem dX6_link_38 : decode cX6_link 38 = .ok (.iload_n 1, 1) := by decide +kernel
theorem dX6_link_39 : decode cX6_link 39 = .ok (.iadd, 1) := by decide +kernel
theorem dX6_link_40 : decode cX6_link 40 = .ok (.iload_n 3, 1) := by decide +kernel
theorem dX6_link_41 : decode cX6_link 41 = .ok (.iconst 1, 1) := by decide +kernel
theorem dX6_link_42 : decode cX6_link 42 = .ok (.if_icmp .ne 18, 3) := by decide +kernel
theorem dX6_link_45 : decode cX6_link 45 = .ok (.aload_n 0, 1) := by decide +kernel
theorem dX6_link_46 : decode cX6_link 46 = .ok (.getfield 7, 3) := by decide +kernel
theorem dX6_link_49 : decode cX6_link 49 = .ok (.iconst 0, 1) := by decide +kernel
theorem dX6_link_50 : decode cX6_link 50 = .ok (.iload_n 1, 1) := by decide +kernel
theorem dX6_link_51 : decode cX6_link 51 = .ok (.iadd, 1) := by decide +kernel
theorem dX6_link_52 : decode cX6_link 52 = .ok (.iaload, 1) := by decide +kernel
theorem dX6_link_53 : decode cX6_link 53 = .ok (.iconst 1, 1) := by decide +kernel
theorem dX6_link_54 : decode cX6_link 54 = .ok (.iload_n 2, 1) := by decide +kernel
theorem dX6_link_55 : decode cX6_link 55 = .ok (.ishl, 1) := by decide +kernel
theorem dX6_link_56 : decode cX6_link 56 = .ok (.ior, 1) := by decide +kernel
theorem dX6_link_57 : decode cX6_link 57 = .ok (.goto 17, 3) := by decide +kernel
theorem dX6_link_60 : decode cX6_link 60 = .ok (.aload_n 0, 1) := by decide +kernel
theorem dX6_link_61 : decode cX6_link 61 = .ok (.getfield 7, 3) := by decide +kernel
theorem dX6_link_64 : decode cX6_link 64 = .ok (.iconst 0, 1) := by decide +kernel
theorem dX6_link_65 : decode cX6_link 65 = .ok (.iload_n 1, 1) := by decide +kernel
theorem dX6_link_66 : decode cX6_link 66 = .ok (.iadd, 1) := by decide +kernel
theorem dX6_link_67 : decode cX6_link 67 = .ok (.iaload, 1) := by decide +kernel
theorem dX6_link_68 : decode cX6_link 68 = .ok (.iconst 1, 1) := by decide +kernel
theorem dX6_link_69 : decode cX6_link 69 = .ok (.iload_n 2, 1) := by decide +kernel
theorem dX6_link_70 : decode cX6_link 70 = .ok (.ishl, 1) := by decide +kernel
theorem dX6_link_71 : decode cX6_link 71 = .ok (.iconst (-1), 1) := by decide +kernel
theorem dX6_link_72 : decode cX6_link 72 = .ok (.ixor, 1) := by decide +kernel
theorem dX6_link_73 : decode cX6_link 73 = .ok (.iand, 1) := by decide +kernel
theorem dX6_link_74 : decode cX6_link 74 = .ok (.iastore, 1) := by decide +kernel
theorem dX6_link_75 : decode cX6_link 75 = .ok (.aload_n 0, 1) := by decide +kernel
theorem dX6_link_76 : decode cX6_link 76 = .ok (.getfield 7, 3) := by decide +kernel
theorem dX6_link_79 : decode cX6_link 79 = .ok (.iconst 0, 1) := by decide +kernel
theorem dX6_link_80 : decode cX6_link 80 = .ok (.iload_n 2, 1) := by decide +kernel
theorem dX6_link_81 : decode cX6_link 81 = .ok (.iadd, 1) := by decide +kernel
theorem dX6_link_82 : decode cX6_link 82 = .ok (.iload_n 3, 1) := by decide +kernel
theorem dX6_link_83 : decode cX6_link 83 = .ok (.iconst 1, 1) := by decide +kernel
theorem dX6_link_84 : decode cX6_link 84 = .ok (.if_icmp .ne 18, 3) := by decide +kernel
theorem dX6_link_87 : decode cX6_link 87 = .ok (.aload_n 0, 1) := by decide +kernel
theorem dX6_link_88 : decode cX6_link 88 = .ok (.getfield 7, 3) := by decide +kernel
theorem dX6_link_91 : decode cX6_link 91 = .ok (.iconst 0, 1) := by decide +kernel
theorem dX6_link_92 : decode cX6_link 92 = .ok (.iload_n 2, 1) := by decide +kernel
theorem dX6_link_93 : decode cX6_link 93 = .ok (.iadd, 1) := by decide +kernel
theorem dX6_link_94 : decode cX6_link 94 = .ok (.iaload, 1) := by decide +kernel
theorem dX6_link_95 : decode cX6_link 95 = .ok (.iconst 1, 1) := by decide +kernel
theorem dX6_link_96 : decode cX6_link 96 = .ok (.iload_n 1, 1) := by decide +kernel
theorem dX6_link_97 : decode cX6_link 97 = .ok (.ishl, 1) := by decide +kernel
theorem dX6_link_98 : decode cX6_link 98 = .ok (.ior, 1) := by decide +kernel
theorem dX6_link_99 : decode cX6_link 99 = .ok (.goto 17, 3) := by decide +kernel
theorem dX6_link_102 : decode cX6_link 102 = .ok (.aload_n 0, 1) := by decide +kernel
theorem dX6_link_103 : decode cX6_link 103 = .ok (.getfield 7, 3) := by decide +kernel
theorem dX6_link_106 : decode cX6_link 106 = .ok (.iconst 0, 1) := by decide +kernel
theorem dX6_link_107 : decode cX6_link 107 = .ok (.iload_n 2, 1) := by decide +kernel
theorem dX6_link_108 : decode cX6_link 108 = .ok (.iadd, 1) := by decide +kernel
theorem dX6_link_109 : decode cX6_link 109 = .ok (.iaload, 1) := by decide +kernel
theorem dX6_link_110 : decode cX6_link 110 = .ok (.iconst 1, 1) := by decide +kernel
theorem dX6_link_111 : decode cX6_link 111 = .ok (.iload_n 1, 1) := by decide +kernel
theorem dX6_link_112 : decode cX6_link 112 = .ok (.ishl, 1) := by decide +kernel
theorem dX6_link_113 : decode cX6_link 113 = .ok (.iconst (-1), 1) := by decide +kernel
theorem dX6_link_114 : decode cX6_link 114 = .ok (.ixor, 1) := by decide +kernel
theorem dX6_link_115 : decode cX6_link 115 = .ok (.iand, 1) := by decide +kernel
theorem dX6_link_116 : decode cX6_link 116 = .ok (.iastore, 1) := by decide +kernel
theorem dX6_link_117 : decode cX6_link 117 = .ok (.aload_n 0, 1) := by decide +kernel
theorem dX6_link_118 : decode cX6_link 118 = .ok (.getfield 7, 3) := by decide +kernel
theorem dX6_link_121 : decode cX6_link 121 = .ok (.iconst 0, 1) := by decide +kernel
theorem dX6_link_122 : decode cX6_link 122 = .ok (.iload_n 1, 1) := by decide +kernel
theorem dX6_link_123 : decode cX6_link 123 = .ok (.iadd, 1) := by decide +kernel
theorem dX6_link_124 : decode cX6_link 124 = .ok (.iaload, 1) := by decide +kernel
theorem dX6_link_125 : decode cX6_link 125 = .ok (.invokestatic 28, 3) := by decide +kernel
theorem dX6_link_128 : decode cX6_link 128 = .ok (.ireturn, 1) := by decide +kernel
theorem dX6_forget_0 : decode cX6_forget 0 = .ok (.aload_n 0, 1) := by decide +kernel
theorem dX6_forget_1 : decode cX6_forget 1 = .ok (.getfield 7, 3) := by decide +kernel
theorem dX6_forget_4 : decode cX6_forget 4 = .ok (.sipush 160, 3) := by decide +kernel
theorem dX6_forget_7 : decode cX6_forget 7 = .ok (.iload_n 1, 1) := by decide +kernel
theorem dX6_forget_8 : decode cX6_forget 8 = .ok (.iadd, 1) := by decide +kernel
theorem dX6_forget_9 : decode cX6_forget 9 = .ok (.iaload, 1) := by decide +kernel
theorem dX6_forget_10 : decode cX6_forget 10 = .ok (.aload_n 0, 1) := by decide +kernel
theorem dX6_forget_11 : decode cX6_forget 11 = .ok (.getfield 7, 3) := by decide +kernel
theorem dX6_forget_14 : decode cX6_forget 14 = .ok (.bipush 30, 2) := by decide +kernel
theorem dX6_forget_16 : decode cX6_forget 16 = .ok (.iload_n 1, 1) := by decide +kernel
theorem dX6_forget_17 : decode cX6_forget 17 = .ok (.iadd, 1) := by decide +kernel
theorem dX6_forget_18 : decode cX6_forget 18 = .ok (.iaload, 1) := by decide +kernel
theorem dX6_forget_19 : decode cX6_forget 19 = .ok (.isub, 1) := by decide +kernel
theorem dX6_forget_20 : decode cX6_forget 20 = .ok (.istore_n 2, 1) := by decide +kernel
theorem dX6_forget_21 : decode cX6_forget 21 = .ok (.iload_n 2, 1) := by decide +kernel
theorem dX6_forget_22 : decode cX6_forget 22 = .ok (.ifCond .le 80, 3) := by decide +kernel
theorem dX6_forget_25 : decode cX6_forget 25 = .ok (.aload_n 0, 1) := by decide +kernel
theorem dX6_forget_26 : decode cX6_forget 26 = .ok (.getfield 7, 3) := by decide +kernel
theorem dX6_forget_29 : decode cX6_forget 29 = .ok (.sipush 160, 3) := by decide +kernel
theorem dX6_forget_32 : decode cX6_forget 32 = .ok (.iload_n 1, 1) := by decide +kernel
theorem dX6_forget_33 : decode cX6_forget 33 = .ok (.iadd, 1) := by decide +kernel
theorem dX6_forget_34 : decode cX6_forget 34 = .ok (.aload_n 0, 1) := by decide +kernel
theorem dX6_forget_35 : decode cX6_forget 35 = .ok (.getfield 7, 3) := by decide +kernel
theorem dX6_forget_38 : decode cX6_forget 38 = .ok (.bipush 30, 2) := by decide +kernel
theorem dX6_forget_40 : decode cX6_forget 40 = .ok (.iload_n 1, 1) := by decide +kernel
theorem dX6_forget_41 : decode cX6_forget 41 = .ok (.iadd, 1) := by decide +kernel
theorem dX6_forget_42 : decode cX6_forget 42 = .ok (.iaload, 1) := by decide +kernel
theorem dX6_forget_43 : decode cX6_forget 43 = .ok (.iastore, 1) := by decide +kernel
theorem dX6_forget_44 : decode cX6_forget 44 = .ok (.iconst 0, 1) := by decide +kernel
theorem dX6_forget_45 : decode cX6_forget 45 = .ok (.istore_n 3, 1) := by decide +kernel
theorem dX6_forget_46 : decode cX6_forget 46 = .ok (.iload_n 3, 1) := by decide +kernel
theorem dX6_forget_47 : decode cX6_forget 47 = .ok (.iconst 2, 1) := by decide +kernel
theorem dX6_forget_48 : decode cX6_forget 48 = .ok (.aload_n 0, 1) := by decide +kernel
theorem dX6_forget_49 : decode cX6_forget 49 = .ok (.getfield 7, 3) := by decide +kernel
theorem dX6_forget_52 : decode cX6_forget 52 = .ok (.sipush 160, 3) := by decide +kernel
theorem dX6_forget_55 : decode cX6_forget 55 = .ok (.iload_n 1, 1) := by decide +kernel
theorem dX6_forget_56 : decode cX6_forget 56 = .ok (.iadd, 1) := by decide +kernel
theorem dX6_forget_57 : decode cX6_forget 57 = .ok (.iaload, 1) := by decide +kernel
theorem dX6_forget_58 : decode cX6_forget 58 = .ok (.imul, 1) := by decide +kernel
theorem dX6_forget_59 : decode cX6_forget 59 = .ok (.if_icmp .ge 43, 3) := by decide +kernel
theorem dX6_forget_62 : decode cX6_forget 62 = .ok (.aload_n 0, 1) := by decide +kernel
theorem dX6_forget_63 : decode cX6_forget 63 = .ok (.getfield 7, 3) := by decide +kernel
theorem dX6_forget_66 : decode cX6_forget 66 = .ok (.sipush 170, 3) := by decide +kernel
theorem dX6_forget_69 : decode cX6_forget 69 = .ok (.bipush 16, 2) := by decide +kernel
theorem dX6_forget_71 : decode cX6_forget 71 = .ok (.iload_n 1, 1) := by decide +kernel
theorem dX6_forget_72 : decode cX6_forget 72 = .ok (.imul, 1) := by decide +kernel
theorem dX6_forget_73 : decode cX6_forget 73 = .ok (.iadd, 1) := by decide +kernel
theorem dX6_forget_74 : decode cX6_forget 74 = .ok (.iload_n 3, 1) := by decide +kernel
theorem dX6_forget_75 : decode cX6_forget 75 = .ok (.iadd, 1) := by decide +kernel
theorem dX6_forget_76 : decode cX6_forget 76 = .ok (.aload_n 0, 1) := by decide +kernel
theorem dX6_forget_77 : decode cX6_forget 77 = .ok (.getfield 7, 3) := by decide +kernel
theorem dX6_forget_80 : decode cX6_forget 80 = .ok (.sipush 170, 3) := by decide +kernel
theorem dX6_forget_83 : decode cX6_forget 83 = .ok (.bipush 16, 2) := by decide +kernel
theorem dX6_forget_85 : decode cX6_forget 85 = .ok (.iload_n 1, 1) := by decide +kernel
theorem dX6_forget_86 : decode cX6_forget 86 = .ok (.imul, 1) := by decide +kernel
theorem dX6_forget_87 : decode cX6_forget 87 = .ok (.iadd, 1) := by decide +kernel
theorem dX6_forget_88 : decode cX6_forget 88 = .ok (.iload_n 3, 1) := by decide +kernel
theorem dX6_forget_89 : decode cX6_forget 89 = .ok (.iadd, 1) := by decide +kernel
theorem dX6_forget_90 : decode cX6_forget 90 = .ok (.iconst 2, 1) := by decide +kernel
theorem dX6_forget_91 : decode cX6_forget 91 = .ok (.iload_n 2, 1) := by decide +kernel
theorem dX6_forget_92 : decode cX6_forget 92 = .ok (.imul, 1) := by decide +kernel
theorem dX6_forget_93 : decode cX6_forget 93 = .ok (.iadd, 1) := by decide +kernel
theorem dX6_forget_94 : decode cX6_forget 94 = .ok (.iaload, 1) := by decide +kernel
theorem dX6_forget_95 : decode cX6_forget 95 = .ok (.iastore, 1) := by decide +kernel
theorem dX6_forget_96 : decode cX6_forget 96 = .ok (.iinc 3 1, 3) := by decide +kernel
theorem dX6_forget_99 : decode cX6_forget 99 = .ok (.goto (-53), 3) := by decide +kernel
theorem dX6_forget_102 : decode cX6_forget 102 = .ok (.return_, 1) := by decide +kernel
set_option maxRecDepth 20000 in
theorem ggX6_set_X6_isLamp : GoodIn wsX6_set wsX6_isLamp := goodIn_r _ [5, 6, 7, 4, 8] (by decide +kernel) (by decide +kernel)
set_option maxRecDepth 20000 in
theorem gX6_set_X6_isLamp : GoodIn wsX6_set (va_wsS RX6 24 yX6_isLamp wsX6_isLamp) := goodIn_app (goodIn_of _ (by decide +kernel)) ggX6_set_X6_isLamp
set_option maxRecDepth 20000 in
theorem ggX6_set_X6_in : GoodIn wsX6_set wsX6_in := goodIn_r _ [8] (by decide +kernel) (by decide +kernel)
set_option maxRecDepth 20000 in
theorem gX6_set_X6_in : GoodIn wsX6_set (va_wsS RX6 20 yX6_in wsX6_in) := goodIn_app (goodIn_of _ (by decide +kernel)) ggX6_set_X6_in
set_option maxRecDepth 20000 in
theorem ggX6_set_X6_forget : GoodIn wsX6_set wsX6_forget := goodIn_r _ [12, 1, 13, 14, 15] (by decide +kernel) (by decide +kernel)
set_option maxRecDepth 20000 in
theorem gX6_set_X6_forget : GoodIn wsX6_set (wsV RX6 32 RX6 yX6_forget wsX6_forget) := goodIn_app (goodIn_of _ (by decide +kernel)) ggX6_set_X6_forget
theorem dX6_set_0 : decode cX6_set 0 = .ok (.iload_n 1, 1) := by decide +kernel
theorem dX6_set_1 : decode cX6_set 1 = .ok (.invokestatic 24, 3) := by decide +kernel
theorem dX6_set_4 : decode cX6_set 4 = .ok (.ifCond .ne 5, 3) := by decide +kernel
theorem dX6_set_7 : decode cX6_set 7 = .ok (.iconst (-1), 1) := by decide +kernel
theorem dX6_set_8 : decode cX6_set 8 = .ok (.ireturn, 1) := by decide +kernel
theorem dX6_set_9 : decode cX6_set 9 = .ok (.iload_n 2, 1) := by decide +kernel
theorem dX6_set_10 : decode cX6_set 10 = .ok (.iconst 0, 1) := by decide +kernel
theorem dX6_set_11 : decode cX6_set 11 = .ok (.iconst 3, 1) := by decide +kernel
theorem dX6_set_12 : decode cX6_set 12 = .ok (.invokestatic 20, 3) := by decide +kernel
theorem dX6_set_15 : decode cX6_set 15 = .ok (.ifCond .eq 49, 3) := by decide +kernel
theorem dX6_set_18 : decode cX6_set 18 = .ok (.iload_n 3, 1) := by decide +kernel
theorem dX6_set_19 : decode cX6_set 19 = .ok (.iload_n 2, 1) := by decide +kernel
theorem dX6_set_20 : decode cX6_set 20 = .ok (.ifCond .ne 7, 3) := by decide +kernel
theorem dX6_set_23 : decode cX6_set 23 = .ok (.iconst 1, 1) := by decide +kernel
theorem dX6_set_24 : decode cX6_set 24 = .ok (.goto 4, 3) := by decide +kernel
theorem dX6_set_27 : decode cX6_set 27 = .ok (.iconst 0, 1) := by decide +kernel
theorem dX6_set_28 : decode cX6_set 28 = .ok (.iload_n 2, 1) := by decide +kernel
theorem dX6_set_29 : decode cX6_set 29 = .ok (.ifCond .ne 8, 3) := by decide +kernel
theorem dX6_set_32 : decode cX6_set 32 = .ok (.bipush 9, 2) := by decide +kernel
theorem dX6_set_34 : decode cX6_set 34 = .ok (.goto 24, 3) := by decide +kernel
theorem dX6_set_37 : decode cX6_set 37 = .ok (.iload_n 2, 1) := by decide +kernel
theorem dX6_set_38 : decode cX6_set 38 = .ok (.iconst 1, 1) := by decide +kernel
theorem dX6_set_39 : decode cX6_set 39 = .ok (.if_icmp .ne 7, 3) := by decide +kernel
theorem dX6_set_42 : decode cX6_set 42 = .ok (.iconst 1, 1) := by decide +kernel
theorem dX6_set_43 : decode cX6_set 43 = .ok (.goto 15, 3) := by decide +kernel
theorem dX6_set_46 : decode cX6_set 46 = .ok (.iload_n 2, 1) := by decide +kernel
theorem dX6_set_47 : decode cX6_set 47 = .ok (.iconst 2, 1) := by decide +kernel
theorem dX6_set_48 : decode cX6_set 48 = .ok (.if_icmp .ne 8, 3) := by decide +kernel
theorem dX6_set_51 : decode cX6_set 51 = .ok (.bipush 8, 2) := by decide +kernel
theorem dX6_set_53 : decode cX6_set 53 = .ok (.goto 5, 3) := by decide +kernel
theorem dX6_set_56 : decode cX6_set 56 = .ok (.bipush 15, 2) := by decide +kernel
theorem dX6_set_58 : decode cX6_set 58 = .ok (.invokestatic 20, 3) := by decide +kernel
theorem dX6_set_61 : decode cX6_set 61 = .ok (.ifCond .ne 6, 3) := by decide +kernel
theorem dX6_set_64 : decode cX6_set 64 = .ok (.bipush (-2), 2) := by decide +kernel
theorem dX6_set_66 : decode cX6_set 66 = .ok (.ireturn, 1) := by decide +kernel
theorem dX6_set_67 : decode cX6_set 67 = .ok (.bipush 10, 2) := by decide +kernel
theorem dX6_set_69 : decode cX6_set 69 = .ok (.bipush 10, 2) := by decide +kernel
theorem dX6_set_71 : decode cX6_set 71 = .ok (.iload_n 2, 1) := by decide +kernel
theorem dX6_set_72 : decode cX6_set 72 = .ok (.imul, 1) := by decide +kernel
theorem dX6_set_73 : decode cX6_set 73 = .ok (.iadd, 1) := by decide +kernel
theorem dX6_set_74 : decode cX6_set 74 = .ok (.iload_n 1, 1) := by decide +kernel
theorem dX6_set_75 : decode cX6_set 75 = .ok (.iadd, 1) := by decide +kernel
theorem dX6_set_76 : decode cX6_set 76 = .ok (.istore 4, 2) := by decide +kernel
theorem dX6_set_78 : decode cX6_set 78 = .ok (.aload_n 0, 1) := by decide +kernel
theorem dX6_set_79 : decode cX6_set 79 = .ok (.getfield 7, 3) := by decide +kernel
theorem dX6_set_82 : decode cX6_set 82 = .ok (.iload 4, 2) := by decide +kernel
theorem dX6_set_84 : decode cX6_set 84 = .ok (.iaload, 1) := by decide +kernel
theorem dX6_set_85 : decode cX6_set 85 = .ok (.istore 5, 2) := by decide +kernel
theorem dX6_set_87 : decode cX6_set 87 = .ok (.aload_n 0, 1) := by decide +kernel
theorem dX6_set_88 : decode cX6_set 88 = .ok (.getfield 7, 3) := by decide +kernel
theorem dX6_set_91 : decode cX6_set 91 = .ok (.iload 4, 2) := by decide +kernel
theorem dX6_set_93 : decode cX6_set 93 = .ok (.iload_n 3, 1) := by decide +kernel
theorem dX6_set_94 : decode cX6_set 94 = .ok (.iastore, 1) := by decide +kernel
theorem dX6_set_95 : decode cX6_set 95 = .ok (.aload_n 0, 1) := by decide +kernel
theorem dX6_set_96 : decode cX6_set 96 = .ok (.iload_n 1, 1) := by decide +kernel
theorem dX6_set_97 : decode cX6_set 97 = .ok (.invokevirtual 32, 3) := by decide +kernel
theorem dX6_set_100 : decode cX6_set 100 = .ok (.iload 5, 2) := by decide +kernel
theorem dX6_set_102 : decode cX6_set 102 = .ok (.ireturn, 1) := by decide +kernel
set_option maxRecDepth 20000 in
theorem ggX6_friend_X6_isLamp : GoodIn wsX6_friend wsX6_isLamp := goodIn_r _ [5, 6, 7, 4, 8] (by decide +kernel) (by decide +kernel)
set_option maxRecDepth 20000 in
theorem gX6_friend_X6_isLamp : GoodIn wsX6_friend (va_wsS RX6 24 yX6_isLamp wsX6_isLamp) := goodIn_app (goodIn_of _ (by decide +kernel)) ggX6_friend_X6_isLamp
set_option maxRecDepth 20000 in
theorem ggX6_friend_X6_sleeps : GoodIn wsX6_friend wsX6_sleeps := goodIn_r _ [12, 1, 13, 14, 15] (by decide +kernel) (by decide +kernel)
set_option maxRecDepth 20000 in
theorem gX6_friend_X6_sleeps : GoodIn wsX6_friend (wsV RX6 36 RX6 yX6_sleeps wsX6_sleeps) := goodIn_app (goodIn_of _ (by decide +kernel)) ggX6_friend_X6_sleeps
theorem dX6_friend_0 : decode cX6_friend 0 = .ok (.iload_n 1, 1) := by decide +kernel
theorem dX6_friend_1 : decode cX6_friend 1 = .ok (.invokestatic 24, 3) := by decide +kernel
theorem dX6_friend_4 : decode cX6_friend 4 = .ok (.ifCond .ne 5, 3) := by decide +kernel
theorem dX6_friend_7 : decode cX6_friend 7 = .ok (.iconst (-1), 1) := by decide +kernel
theorem dX6_friend_8 : decode cX6_friend 8 = .ok (.ireturn, 1) := by decide +kernel
theorem dX6_friend_9 : decode cX6_friend 9 = .ok (.iload_n 2, 1) := by decide +kernel
theorem dX6_friend_10 : decode cX6_friend 10 = .ok (.invokestatic 24, 3) := by decide +kernel
theorem dX6_friend_13 : decode cX6_friend 13 = .ok (.ifCond .ne 9, 3) := by decide +kernel
theorem dX6_friend_16 : decode cX6_friend 16 = .ok (.iload_n 2, 1) := by decide +kernel
theorem dX6_friend_17 : decode cX6_friend 17 = .ok (.bipush (-6), 2) := by decide +kernel
theorem dX6_friend_19 : decode cX6_friend 19 = .ok (.if_icmp .ne 8, 3) := by decide +kernel
theorem dX6_friend_22 : decode cX6_friend 22 = .ok (.iload_n 1, 1) := by decide +kernel
theorem dX6_friend_23 : decode cX6_friend 23 = .ok (.iload_n 2, 1) := by decide +kernel
theorem dX6_friend_24 : decode cX6_friend 24 = .ok (.if_icmp .ne 6, 3) := by decide +kernel
theorem dX6_friend_27 : decode cX6_friend 27 = .ok (.bipush (-2), 2) := by decide +kernel
theorem dX6_friend_29 : decode cX6_friend 29 = .ok (.ireturn, 1) := by decide +kernel
theorem dX6_friend_30 : decode cX6_friend 30 = .ok (.aload_n 0, 1) := by decide +kernel
theorem dX6_friend_31 : decode cX6_friend 31 = .ok (.iload_n 1, 1) := by decide +kernel
theorem dX6_friend_32 : decode cX6_friend 32 = .ok (.invokevirtual 36, 3) := by decide +kernel
theorem dX6_friend_35 : decode cX6_friend 35 = .ok (.ifCond .eq 6, 3) := by decide +kernel
theorem dX6_friend_38 : decode cX6_friend 38 = .ok (.bipush (-3), 2) := by decide +kernel
theorem dX6_friend_40 : decode cX6_friend 40 = .ok (.ireturn, 1) := by decide +kernel
theorem dX6_friend_41 : decode cX6_friend 41 = .ok (.aload_n 0, 1) := by decide +kernel
theorem dX6_friend_42 : decode cX6_friend 42 = .ok (.getfield 7, 3) := by decide +kernel
theorem dX6_friend_45 : decode cX6_friend 45 = .ok (.bipush 70, 2) := by decide +kernel
theorem dX6_friend_47 : decode cX6_friend 47 = .ok (.iload_n 1, 1) := by decide +kernel
theorem dX6_friend_48 : decode cX6_friend 48 = .ok (.iadd, 1) := by decide +kernel
theorem dX6_friend_49 : decode cX6_friend 49 = .ok (.iaload, 1) := by decide +kernel
theorem dX6_friend_50 : decode cX6_friend 50 = .ok (.istore_n 3, 1) := by decide +kernel
theorem dX6_friend_51 : decode cX6_friend 51 = .ok (.aload_n 0, 1) := by decide +kernel
theorem dX6_friend_52 : decode cX6_friend 52 = .ok (.getfield 7, 3) := by decide +kernel
theorem dX6_friend_55 : decode cX6_friend 55 = .ok (.bipush 70, 2) := by decide +kernel
theorem dX6_friend_57 : decode cX6_friend 57 = .ok (.iload_n 1, 1) := by decide +kernel
theorem dX6_friend_58 : decode cX6_friend 58 = .ok (.iadd, 1) := by decide +kernel
theorem dX6_friend_59 : decode cX6_friend 59 = .ok (.iload_n 2, 1) := by decide +kernel
theorem dX6_friend_60 : decode cX6_friend 60 = .ok (.iastore, 1) := by decide +kernel
theorem dX6_friend_61 : decode cX6_friend 61 = .ok (.aload_n 0, 1) := by decide +kernel
theorem dX6_friend_62 : decode cX6_friend 62 = .ok (.getfield 7, 3) := by decide +kernel
theorem dX6_friend_65 : decode cX6_friend 65 = .ok (.sipush 150, 3) := by decide +kernel
theorem dX6_friend_68 : decode cX6_friend 68 = .ok (.iload_n 1, 1) := by decide +kernel
theorem dX6_friend_69 : decode cX6_friend 69 = .ok (.iadd, 1) := by decide +kernel
theorem dX6_friend_70 : decode cX6_friend 70 = .ok (.iconst 0, 1) := by decide +kernel
theorem dX6_friend_71 : decode cX6_friend 71 = .ok (.iastore, 1) := by decide +kernel
theorem dX6_friend_72 : decode cX6_friend 72 = .ok (.iload_n 3, 1) := by decide +kernel
theorem dX6_friend_73 : decode cX6_friend 73 = .ok (.ireturn, 1) := by decide +kernel
theorem dX6_phase_0 : decode cX6_phase 0 = .ok (.aload_n 0, 1) := by decide +kernel
theorem dX6_phase_1 : decode cX6_phase 1 = .ok (.getfield 7, 3) := by decide +kernel
theorem dX6_phase_4 : decode cX6_phase 4 = .ok (.sipush 6812, 3) := by decide +kernel
theorem dX6_phase_7 : decode cX6_phase 7 = .ok (.aload_n 0, 1) := by decide +kernel
theorem dX6_phase_8 : decode cX6_phase 8 = .ok (.getfield 7, 3) := by decide +kernel
theorem dX6_phase_11 : decode cX6_phase 11 = .ok (.sipush 6812, 3) := by decide +kernel
theorem dX6_phase_14 : decode cX6_phase 14 = .ok (.iaload, 1) := by decide +kernel
theorem dX6_phase_15 : decode cX6_phase 15 = .ok (.iconst 1, 1) := by decide +kernel
theorem dX6_phase_16 : decode cX6_phase 16 = .ok (.iadd, 1) := by decide +kernel
theorem dX6_phase_17 : decode cX6_phase 17 = .ok (.iconst 3, 1) := by decide +kernel
theorem dX6_phase_18 : decode cX6_phase 18 = .ok (.irem, 1) := by decide +kernel
theorem dX6_phase_19 : decode cX6_phase 19 = .ok (.iastore, 1) := by decide +kernel
theorem dX6_phase_20 : decode cX6_phase 20 = .ok (.aload_n 0, 1) := by decide +kernel
theorem dX6_phase_21 : decode cX6_phase 21 = .ok (.getfield 7, 3) := by decide +kernel
theorem dX6_phase_24 : decode cX6_phase 24 = .ok (.sipush 6812, 3) := by decide +kernel
theorem dX6_phase_27 : decode cX6_phase 27 = .ok (.iaload, 1) := by decide +kernel
theorem dX6_phase_28 : decode cX6_phase 28 = .ok (.ifCond .ne 31, 3) := by decide +kernel
theorem dX6_phase_31 : decode cX6_phase 31 = .ok (.aload_n 0, 1) := by decide +kernel
theorem dX6_phase_32 : decode cX6_phase 32 = .ok (.getfield 7, 3) := by decide +kernel
theorem dX6_phase_35 : decode cX6_phase 35 = .ok (.sipush 6811, 3) := by decide +kernel
theorem dX6_phase_38 : decode cX6_phase 38 = .ok (.dup2, 1) := by decide +kernel
theorem dX6_phase_39 : decode cX6_phase 39 = .ok (.iaload, 1) := by decide +kernel
theorem dX6_phase_40 : decode cX6_phase 40 = .ok (.iconst 1, 1) := by decide +kernel
theorem dX6_phase_41 : decode cX6_phase 41 = .ok (.iadd, 1) := by decide +kernel
theorem dX6_phase_42 : decode cX6_phase 42 = .ok (.iastore, 1) := by decide +kernel
theorem dX6_phase_43 : decode cX6_phase 43 = .ok (.aload_n 0, 1) := by decide +kernel
theorem dX6_phase_44 : decode cX6_phase 44 = .ok (.getfield 7, 3) := by decide +kernel
theorem dX6_phase_47 : decode cX6_phase 47 = .ok (.sipush 6813, 3) := by decide +kernel
theorem dX6_phase_50 : decode cX6_phase 50 = .ok (.aload_n 0, 1) := by decide +kernel
theorem dX6_phase_51 : decode cX6_phase 51 = .ok (.getfield 7, 3) := by decide +kernel
theorem dX6_phase_54 : decode cX6_phase 54 = .ok (.sipush 6814, 3) := by decide +kernel
theorem dX6_phase_57 : decode cX6_phase 57 = .ok (.iaload, 1) := by decide +kernel
theorem dX6_phase_58 : decode cX6_phase 58 = .ok (.iastore, 1) := by decide +kernel
theorem dX6_phase_59 : decode cX6_phase 59 = .ok (.aload_n 0, 1) := by decide +kernel
theorem dX6_phase_60 : decode cX6_phase 60 = .ok (.getfield 7, 3) := by decide +kernel
theorem dX6_phase_63 : decode cX6_phase 63 = .ok (.sipush 6812, 3) := by decide +kernel
theorem dX6_phase_66 : decode cX6_phase 66 = .ok (.iaload, 1) := by decide +kernel
theorem dX6_phase_67 : decode cX6_phase 67 = .ok (.iconst 2, 1) := by decide +kernel
theorem dX6_phase_68 : decode cX6_phase 68 = .ok (.if_icmp .ge 12, 3) := by decide +kernel
theorem dX6_phase_71 : decode cX6_phase 71 = .ok (.aload_n 0, 1) := by decide +kernel
theorem dX6_phase_72 : decode cX6_phase 72 = .ok (.getfield 7, 3) := by decide +kernel
theorem dX6_phase_75 : decode cX6_phase 75 = .ok (.sipush 6814, 3) := by decide +kernel
theorem dX6_phase_78 : decode cX6_phase 78 = .ok (.iconst 0, 1) := by decide +kernel
theorem dX6_phase_79 : decode cX6_phase 79 = .ok (.iastore, 1) := by decide +kernel
theorem dX6_phase_80 : decode cX6_phase 80 = .ok (.aload_n 0, 1) := by decide +kernel
theorem dX6_phase_81 : decode cX6_phase 81 = .ok (.getfield 7, 3) := by decide +kernel
theorem dX6_phase_84 : decode cX6_phase 84 = .ok (.sipush 6812, 3) := by decide +kernel
theorem dX6_phase_87 : decode cX6_phase 87 = .ok (.iaload, 1) := by decide +kernel
theorem dX6_phase_88 : decode cX6_phase 88 = .ok (.ireturn, 1) := by decide +kernel
set_option maxRecDepth 20000 in
theorem ggX6_give_X6_isLamp : GoodIn wsX6_give wsX6_isLamp := goodIn_r _ [5, 6, 7, 4, 8] (by decide +kernel) (by decide +kernel)
set_option maxRecDepth 20000 in
theorem gX6_give_X6_isLamp : GoodIn wsX6_give (va_wsS RX6 24 yX6_isLamp wsX6_isLamp) := goodIn_app (goodIn_of _ (by decide +kernel)) ggX6_give_X6_isLamp
set_option maxRecDepth 20000 in
theorem ggX6_give_X6_bits : GoodIn wsX6_give wsX6_bits := goodIn_r _ [11] (by decide +kernel) (by decide +kernel)
set_option maxRecDepth 20000 in
theorem gX6_give_X6_bits : GoodIn wsX6_give (va_wsS RX6 28 yX6_bits wsX6_bits) := goodIn_app (goodIn_of _ (by decide +kernel)) ggX6_give_X6_bits
theorem dX6_give_0 : decode cX6_give 0 = .ok (.iload_n 1, 1) := by decide +kernel
theorem dX6_give_1 : decode cX6_give 1 = .ok (.invokestatic 24, 3) := by decide +kernel
theorem dX6_give_4 : decode cX6_give 4 = .ok (.ifCond .ne 5, 3) := by decide +kernel
theorem dX6_give_7 : decode cX6_give 7 = .ok (.iconst (-1), 1) := by decide +kernel
theorem dX6_give_8 : decode cX6_give 8 = .ok (.ireturn, 1) := by decide +kernel
theorem dX6_give_9 : decode cX6_give 9 = .ok (.aload_n 0, 1) := by decide +kernel
theorem dX6_give_10 : decode cX6_give 10 = .ok (.getfield 7, 3) := by decide +kernel
theorem dX6_give_13 : decode cX6_give 13 = .ok (.sipush 6812, 3) := by decide +kernel
theorem dX6_give_16 : decode cX6_give 16 = .ok (.iaload, 1) := by decide +kernel
theorem dX6_give_17 : decode cX6_give 17 = .ok (.ifCond .ne 6, 3) := by decide +kernel
theorem dX6_give_20 : decode cX6_give 20 = .ok (.bipush (-3), 2) := by decide +kernel
theorem dX6_give_22 : decode cX6_give 22 = .ok (.ireturn, 1) := by decide +kernel
theorem dX6_give_23 : decode cX6_give 23 = .ok (.aload_n 0, 1) := by decide +kernel
theorem dX6_give_24 : decode cX6_give 24 = .ok (.getfield 7, 3) := by decide +kernel
theorem dX6_give_27 : decode cX6_give 27 = .ok (.sipush 6814, 3) := by decide +kernel
theorem dX6_give_30 : decode cX6_give 30 = .ok (.dup2, 1) := by decide +kernel
theorem dX6_give_31 : decode cX6_give 31 = .ok (.iaload, 1) := by decide +kernel
theorem dX6_give_32 : decode cX6_give 32 = .ok (.iconst 1, 1) := by decide +kernel
theorem dX6_give_33 : decode cX6_give 33 = .ok (.iload_n 1, 1) := by decide +kernel
theorem dX6_give_34 : decode cX6_give 34 = .ok (.ishl, 1) := by decide +kernel
theorem dX6_give_35 : decode cX6_give 35 = .ok (.ior, 1) := by decide +kernel
theorem dX6_give_36 : decode cX6_give 36 = .ok (.iastore, 1) := by decide +kernel
theorem dX6_give_37 : decode cX6_give 37 = .ok (.aload_n 0, 1) := by decide +kernel
theorem dX6_give_38 : decode cX6_give 38 = .ok (.getfield 7, 3) := by decide +kernel
theorem dX6_give_41 : decode cX6_give 41 = .ok (.sipush 6814, 3) := by decide +kernel
theorem dX6_give_44 : decode cX6_give 44 = .ok (.iaload, 1) := by decide +kernel
theorem dX6_give_45 : decode cX6_give 45 = .ok (.invokestatic 28, 3) := by decide +kernel
theorem dX6_give_48 : decode cX6_give 48 = .ok (.ireturn, 1) := by decide +kernel
theorem dX6_letter_0 : decode cX6_letter 0 = .ok (.aload_n 0, 1) := by decide +kernel
theorem dX6_letter_1 : decode cX6_letter 1 = .ok (.getfield 7, 3) := by decide +kernel
theorem dX6_letter_4 : decode cX6_letter 4 = .ok (.sipush 810, 3) := by decide +kernel
theorem dX6_letter_7 : decode cX6_letter 7 = .ok (.iconst 3, 1) := by decide +kernel
theorem dX6_letter_8 : decode cX6_letter 8 = .ok (.sipush 200, 3) := by decide +kernel
theorem dX6_letter_11 : decode cX6_letter 11 = .ok (.iload_n 1, 1) := by decide +kernel
theorem dX6_letter_12 : decode cX6_letter 12 = .ok (.imul, 1) := by decide +kernel
theorem dX6_letter_13 : decode cX6_letter 13 = .ok (.iload_n 2, 1) := by decide +kernel
theorem dX6_letter_14 : decode cX6_letter 14 = .ok (.iadd, 1) := by decide +kernel
theorem dX6_letter_15 : decode cX6_letter 15 = .ok (.iconst 1, 1) := by decide +kernel
theorem dX6_letter_16 : decode cX6_letter 16 = .ok (.isub, 1) := by decide +kernel
theorem dX6_letter_17 : decode cX6_letter 17 = .ok (.imul, 1) := by decide +kernel
theorem dX6_letter_18 : decode cX6_letter 18 = .ok (.iadd, 1) := by decide +kernel
theorem dX6_letter_19 : decode cX6_letter 19 = .ok (.iload_n 3, 1) := by decide +kernel
theorem dX6_letter_20 : decode cX6_letter 20 = .ok (.iadd, 1) := by decide +kernel
theorem dX6_letter_21 : decode cX6_letter 21 = .ok (.iaload, 1) := by decide +kernel
theorem dX6_letter_22 : decode cX6_letter 22 = .ok (.ireturn, 1) := by decide +kernel
set_option maxRecDepth 20000 in
theorem ggX6_knows_X6_letter : GoodIn wsX6_knows wsX6_letter := goodIn_r _ [6, 1, 10, 11, 12] (by decide +kernel) (by decide +kernel)
set_option maxRecDepth 20000 in
theorem gX6_knows_X6_letter : GoodIn wsX6_knows (wsV RX6 39 RX6 yX6_letter wsX6_letter) := goodIn_app (goodIn_of _ (by decide +kernel)) ggX6_knows_X6_letter
set_option maxRecDepth 20000 in
theorem ggX6_knows_X6_isOf : GoodIn wsX6_knows wsX6_isOf := goodIn_r _ [9] (by decide +kernel) (by decide +kernel)
set_option maxRecDepth 20000 in
theorem gX6_knows_X6_isOf : GoodIn wsX6_knows (va_wsS RX6 43 yX6_isOf wsX6_isOf) := goodIn_app (goodIn_of _ (by decide +kernel)) ggX6_knows_X6_isOf
theorem dX6_knows_0 : decode cX6_knows 0 = .ok (.aload_n 0, 1) := by decide +kernel
theorem dX6_knows_1 : decode cX6_knows 1 = .ok (.iload_n 2, 1) := by decide +kernel
theorem dX6_knows_2 : decode cX6_knows 2 = .ok (.iload_n 3, 1) := by decide +kernel
theorem dX6_knows_3 : decode cX6_knows 3 = .ok (.iconst 0, 1) := by decide +kernel
theorem dX6_knows_4 : decode cX6_knows 4 = .ok (.invokevirtual 39, 3) := by decide +kernel
theorem dX6_knows_7 : decode cX6_knows 7 = .ok (.istore 4, 2) := by decide +kernel
theorem dX6_knows_9 : decode cX6_knows 9 = .ok (.iload 4, 2) := by decide +kernel
theorem dX6_knows_11 : decode cX6_knows 11 = .ok (.aload_n 0, 1) := by decide +kernel
theorem dX6_knows_12 : decode cX6_knows 12 = .ok (.getfield 7, 3) := by decide +kernel
theorem dX6_knows_15 : decode cX6_knows 15 = .ok (.sipush 6811, 3) := by decide +kernel
theorem dX6_knows_18 : decode cX6_knows 18 = .ok (.iaload, 1) := by decide +kernel
theorem dX6_knows_19 : decode cX6_knows 19 = .ok (.if_icmp .ne 16, 3) := by decide +kernel
theorem dX6_knows_22 : decode cX6_knows 22 = .ok (.aload_n 0, 1) := by decide +kernel
theorem dX6_knows_23 : decode cX6_knows 23 = .ok (.getfield 7, 3) := by decide +kernel
theorem dX6_knows_26 : decode cX6_knows 26 = .ok (.sipush 6813, 3) := by decide +kernel
theorem dX6_knows_29 : decode cX6_knows 29 = .ok (.iaload, 1) := by decide +kernel
theorem dX6_knows_30 : decode cX6_knows 30 = .ok (.iload_n 1, 1) := by decide +kernel
theorem dX6_knows_31 : decode cX6_knows 31 = .ok (.invokestatic 43, 3) := by decide +kernel
theorem dX6_knows_34 : decode cX6_knows 34 = .ok (.ireturn, 1) := by decide +kernel
theorem dX6_knows_35 : decode cX6_knows 35 = .ok (.aload_n 0, 1) := by decide +kernel
theorem dX6_knows_36 : decode cX6_knows 36 = .ok (.getfield 7, 3) := by decide +kernel
theorem dX6_knows_39 : decode cX6_knows 39 = .ok (.sipush 6812, 3) := by decide +kernel
theorem dX6_knows_42 : decode cX6_knows 42 = .ok (.iaload, 1) := by decide +kernel
theorem dX6_knows_43 : decode cX6_knows 43 = .ok (.ifCond .le 37, 3) := by decide +kernel
theorem dX6_knows_46 : decode cX6_knows 46 = .ok (.iload 4, 2) := by decide +kernel
theorem dX6_knows_48 : decode cX6_knows 48 = .ok (.aload_n 0, 1) := by decide +kernel
theorem dX6_knows_49 : decode cX6_knows 49 = .ok (.getfield 7, 3) := by decide +kernel
theorem dX6_knows_52 : decode cX6_knows 52 = .ok (.sipush 6811, 3) := by decide +kernel
theorem dX6_knows_55 : decode cX6_knows 55 = .ok (.iaload, 1) := by decide +kernel
theorem dX6_knows_56 : decode cX6_knows 56 = .ok (.iconst 1, 1) := by decide +kernel
theorem dX6_knows_57 : decode cX6_knows 57 = .ok (.iadd, 1) := by decide +kernel
theorem dX6_knows_58 : decode cX6_knows 58 = .ok (.if_icmp .ne 22, 3) := by decide +kernel
theorem dX6_knows_61 : decode cX6_knows 61 = .ok (.aload_n 0, 1) := by decide +kernel
theorem dX6_knows_62 : decode cX6_knows 62 = .ok (.getfield 7, 3) := by decide +kernel
theorem dX6_knows_65 : decode cX6_knows 65 = .ok (.sipush 6814, 3) := by decide +kernel
theorem dX6_knows_68 : decode cX6_knows 68 = .ok (.iaload, 1) := by decide +kernel
theorem dX6_knows_69 : decode cX6_knows 69 = .ok (.iload_n 1, 1) := by decide +kernel
theorem dX6_knows_70 : decode cX6_knows 70 = .ok (.invokestatic 43, 3) := by decide +kernel
theorem dX6_knows_73 : decode cX6_knows 73 = .ok (.ifCond .eq 7, 3) := by decide +kernel
theorem dX6_knows_76 : decode cX6_knows 76 = .ok (.iconst 1, 1) := by decide +kernel
theorem dX6_knows_77 : decode cX6_knows 77 = .ok (.goto 4, 3) := by decide +kernel
theorem dX6_knows_80 : decode cX6_knows 80 = .ok (.iconst 0, 1) := by decide +kernel
theorem dX6_knows_81 : decode cX6_knows 81 = .ok (.ireturn, 1) := by decide +kernel
set_option maxRecDepth 20000 in
theorem ggX6_isMeant_X6_letter : GoodIn wsX6_isMeant wsX6_letter := goodIn_r _ [6, 1, 10, 11, 12] (by decide +kernel) (by decide +kernel)
set_option maxRecDepth 20000 in
theorem gX6_isMeant_X6_letter : GoodIn wsX6_isMeant (wsV RX6 39 RX6 yX6_letter wsX6_letter) := goodIn_app (goodIn_of _ (by decide +kernel)) ggX6_isMeant_X6_letter
set_option maxRecDepth 20000 in
theorem ggX6_isMeant_X6_isOf : GoodIn wsX6_isMeant wsX6_isOf := goodIn_r _ [9] (by decide +kernel) (by decide +kernel)
set_option maxRecDepth 20000 in
theorem gX6_isMeant_X6_isOf : GoodIn wsX6_isMeant (va_wsS RX6 43 yX6_isOf wsX6_isOf) := goodIn_app (goodIn_of _ (by decide +kernel)) ggX6_isMeant_X6_isOf
theorem dX6_isMeant_0 : decode cX6_isMeant 0 = .ok (.aload_n 0, 1) := by decide +kernel
theorem dX6_isMeant_1 : decode cX6_isMeant 1 = .ok (.iload_n 2, 1) := by decide +kernel
theorem dX6_isMeant_2 : decode cX6_isMeant 2 = .ok (.iload_n 3, 1) := by decide +kernel
theorem dX6_isMeant_3 : decode cX6_isMeant 3 = .ok (.iconst 1, 1) := by decide +kernel
theorem dX6_isMeant_4 : decode cX6_isMeant 4 = .ok (.invokevirtual 39, 3) := by decide +kernel
theorem dX6_isMeant_7 : decode cX6_isMeant 7 = .ok (.istore 4, 2) := by decide +kernel
theorem dX6_isMeant_9 : decode cX6_isMeant 9 = .ok (.iload 4, 2) := by decide +kernel
theorem dX6_isMeant_11 : decode cX6_isMeant 11 = .ok (.iload_n 1, 1) := by decide +kernel
theorem dX6_isMeant_12 : decode cX6_isMeant 12 = .ok (.if_icmp .eq 30, 3) := by decide +kernel
theorem dX6_isMeant_15 : decode cX6_isMeant 15 = .ok (.iload 4, 2) := by decide +kernel
theorem dX6_isMeant_17 : decode cX6_isMeant 17 = .ok (.bipush 9, 2) := by decide +kernel
theorem dX6_isMeant_19 : decode cX6_isMeant 19 = .ok (.if_icmp .le 27, 3) := by decide +kernel
theorem dX6_isMeant_22 : decode cX6_isMeant 22 = .ok (.aload_n 0, 1) := by decide +kernel
theorem dX6_isMeant_23 : decode cX6_isMeant 23 = .ok (.getfield 7, 3) := by decide +kernel
theorem dX6_isMeant_26 : decode cX6_isMeant 26 = .ok (.bipush 40, 2) := by decide +kernel
theorem dX6_isMeant_28 : decode cX6_isMeant 28 = .ok (.iload_n 1, 1) := by decide +kernel
theorem dX6_isMeant_29 : decode cX6_isMeant 29 = .ok (.iadd, 1) := by decide +kernel
theorem dX6_isMeant_30 : decode cX6_isMeant 30 = .ok (.iaload, 1) := by decide +kernel
theorem dX6_isMeant_31 : decode cX6_isMeant 31 = .ok (.iload 4, 2) := by decide +kernel
theorem dX6_isMeant_33 : decode cX6_isMeant 33 = .ok (.bipush 10, 2) := by decide +kernel
theorem dX6_isMeant_35 : decode cX6_isMeant 35 = .ok (.isub, 1) := by decide +kernel
theorem dX6_isMeant_36 : decode cX6_isMeant 36 = .ok (.invokestatic 43, 3) := by decide +kernel
theorem dX6_isMeant_39 : decode cX6_isMeant 39 = .ok (.ifCond .eq 7, 3) := by decide +kernel
theorem dX6_isMeant_42 : decode cX6_isMeant 42 = .ok (.iconst 1, 1) := by decide +kernel
theorem dX6_isMeant_43 : decode cX6_isMeant 43 = .ok (.goto 4, 3) := by decide +kernel
theorem dX6_isMeant_46 : decode cX6_isMeant 46 = .ok (.iconst 0, 1) := by decide +kernel
theorem dX6_isMeant_47 : decode cX6_isMeant 47 = .ok (.ireturn, 1) := by decide +kernel
theorem dX6_hasInMind_0 : decode cX6_hasInMind 0 = .ok (.iconst 0, 1) := by decide +kernel
theorem dX6_hasInMind_1 : decode cX6_hasInMind 1 = .ok (.istore 4, 2) := by decide +kernel
theorem dX6_hasInMind_3 : decode cX6_hasInMind 3 = .ok (.iconst 0, 1) := by decide +kernel
theorem dX6_hasInMind_4 : decode cX6_hasInMind 4 = .ok (.istore 5, 2) := by decide +kernel
theorem dX6_hasInMind_6 : decode cX6_hasInMind 6 = .ok (.iload 5, 2) := by decide +kernel
theorem dX6_hasInMind_8 : decode cX6_hasInMind 8 = .ok (.aload_n 0, 1) := by decide +kernel
theorem dX6_hasInMind_9 : decode cX6_hasInMind 9 = .ok (.getfield 7, 3) := by decide +kernel
theorem dX6_hasInMind_12 : decode cX6_hasInMind 12 = .ok (.sipush 160, 3) := by decide +kernel
theorem dX6_hasInMind_15 : decode cX6_hasInMind 15 = .ok (.iload_n 1, 1) := by decide +kernel
theorem dX6_hasInMind_16 : decode cX6_hasInMind 16 = .ok (.iadd, 1) := by decide +kernel
theorem dX6_hasInMind_17 : decode cX6_hasInMind 17 = .ok (.iaload, 1) := by decide +kernel
theorem dX6_hasInMind_18 : decode cX6_hasInMind 18 = .ok (.if_icmp .ge 60, 3) := by decide +kernel
theorem dX6_hasInMind_21 : decode cX6_hasInMind 21 = .ok (.sipush 170, 3) := by decide +kernel
theorem dX6_hasInMind_24 : decode cX6_hasInMind 24 = .ok (.bipush 16, 2) := by decide +kernel
theorem dX6_hasInMind_26 : decode cX6_hasInMind 26 = .ok (.iload_n 1, 1) := by decide +kernel
theorem dX6_hasInMind_27 : decode cX6_hasInMind 27 = .ok (.imul, 1) := by decide +kernel
theorem dX6_hasInMind_28 : decode cX6_hasInMind 28 = .ok (.iadd, 1) := by decide +kernel
theorem dX6_hasInMind_29 : decode cX6_hasInMind 29 = .ok (.iconst 2, 1) := by decide +kernel
theorem dX6_hasInMind_30 : decode cX6_hasInMind 30 = .ok (.iload 5, 2) := by decide +kernel
theorem dX6_hasInMind_32 : decode cX6_hasInMind 32 = .ok (.imul, 1) := by decide +kernel
theorem dX6_hasInMind_33 : decode cX6_hasInMind 33 = .ok (.iadd, 1) := by decide +kernel
theorem dX6_hasInMind_34 : decode cX6_hasInMind 34 = .ok (.istore 6, 2) := by decide +kernel
theorem dX6_hasInMind_36 : decode cX6_hasInMind 36 = .ok (.iload 4, 2) := by decide +kernel
theorem dX6_hasInMind_38 : decode cX6_hasInMind 38 = .ok (.ifCond .ne 27, 3) := by decide +kernel
theorem dX6_hasInMind_41 : decode cX6_hasInMind 41 = .ok (.aload_n 0, 1) := by decide +kernel
theorem dX6_hasInMind_42 : decode cX6_hasInMind 42 = .ok (.getfield 7, 3) := by decide +kernel
theorem dX6_hasInMind_45 : decode cX6_hasInMind 45 = .ok (.iload 6, 2) := by decide +kernel
theorem dX6_hasInMind_47 : decode cX6_hasInMind 47 = .ok (.iaload, 1) := by decide +kernel
theorem dX6_hasInMind_48 : decode cX6_hasInMind 48 = .ok (.iload_n 2, 1) := by decide +kernel
theorem dX6_hasInMind_49 : decode cX6_hasInMind 49 = .ok (.if_icmp .ne 20, 3) := by decide +kernel
theorem dX6_hasInMind_52 : decode cX6_hasInMind 52 = .ok (.aload_n 0, 1) := by decide +kernel
theorem dX6_hasInMind_53 : decode cX6_hasInMind 53 = .ok (.getfield 7, 3) := by decide +kernel
theorem dX6_hasInMind_56 : decode cX6_hasInMind 56 = .ok (.iload 6, 2) := by decide +kernel
theorem dX6_hasInMind_58 : decode cX6_hasInMind 58 = .ok (.iconst 1, 1) := by decide +kernel
theorem dX6_hasInMind_59 : decode cX6_hasInMind 59 = .ok (.iadd, 1) := by decide +kernel
theorem dX6_hasInMind_60 : decode cX6_hasInMind 60 = .ok (.iaload, 1) := by decide +kernel
theorem dX6_hasInMind_61 : decode cX6_hasInMind 61 = .ok (.iload_n 3, 1) := by decide +kernel
theorem dX6_hasInMind_62 : decode cX6_hasInMind 62 = .ok (.if_icmp .ne 7, 3) := by decide +kernel
theorem dX6_hasInMind_65 : decode cX6_hasInMind 65 = .ok (.iconst 1, 1) := by decide +kernel
theorem dX6_hasInMind_66 : decode cX6_hasInMind 66 = .ok (.goto 4, 3) := by decide +kernel
theorem dX6_hasInMind_69 : decode cX6_hasInMind 69 = .ok (.iconst 0, 1) := by decide +kernel
theorem dX6_hasInMind_70 : decode cX6_hasInMind 70 = .ok (.istore 4, 2) := by decide +kernel
theorem dX6_hasInMind_72 : decode cX6_hasInMind 72 = .ok (.iinc 5 1, 3) := by decide +kernel
theorem dX6_hasInMind_75 : decode cX6_hasInMind 75 = .ok (.goto (-69), 3) := by decide +kernel
theorem dX6_hasInMind_78 : decode cX6_hasInMind 78 = .ok (.iload 4, 2) := by decide +kernel
theorem dX6_hasInMind_80 : decode cX6_hasInMind 80 = .ok (.ireturn, 1) := by decide +kernel
theorem dX6_remember_0 : decode cX6_remember 0 = .ok (.aload_n 0, 1) := by decide +kernel
theorem dX6_remember_1 : decode cX6_remember 1 = .ok (.getfield 7, 3) := by decide +kernel
theorem dX6_remember_4 : decode cX6_remember 4 = .ok (.bipush 30, 2) := by decide +kernel
theorem dX6_remember_6 : decode cX6_remember 6 = .ok (.iload_n 1, 1) := by decide +kernel
theorem dX6_remember_7 : decode cX6_remember 7 = .ok (.iadd, 1) := by decide +kernel
theorem dX6_remember_8 : decode cX6_remember 8 = .ok (.iaload, 1) := by decide +kernel
theorem dX6_remember_9 : decode cX6_remember 9 = .ok (.ifCond .ne 4, 3) := by decide +kernel
theorem dX6_remember_12 : decode cX6_remember 12 = .ok (.return_, 1) := by decide +kernel
theorem dX6_remember_13 : decode cX6_remember 13 = .ok (.aload_n 0, 1) := by decide +kernel
theorem dX6_remember_14 : decode cX6_remember 14 = .ok (.getfield 7, 3) := by decide +kernel
theorem dX6_remember_17 : decode cX6_remember 17 = .ok (.sipush 160, 3) := by decide +kernel
theorem dX6_remember_20 : decode cX6_remember 20 = .ok (.iload_n 1, 1) := by decide +kernel
theorem dX6_remember_21 : decode cX6_remember 21 = .ok (.iadd, 1) := by decide +kernel
theorem dX6_remember_22 : decode cX6_remember 22 = .ok (.iaload, 1) := by decide +kernel
theorem dX6_remember_23 : decode cX6_remember 23 = .ok (.aload_n 0, 1) := by decide +kernel
theorem dX6_remember_24 : decode cX6_remember 24 = .ok (.getfield 7, 3) := by decide +kernel
theorem dX6_remember_27 : decode cX6_remember 27 = .ok (.bipush 30, 2) := by decide +kernel
theorem dX6_remember_29 : decode cX6_remember 29 = .ok (.iload_n 1, 1) := by decide +kernel
theorem dX6_remember_30 : decode cX6_remember 30 = .ok (.iadd, 1) := by decide +kernel
theorem dX6_remember_31 : decode cX6_remember 31 = .ok (.iaload, 1) := by decide +kernel
theorem dX6_remember_32 : decode cX6_remember 32 = .ok (.if_icmp .ne 79, 3) := by decide +kernel
theorem dX6_remember_35 : decode cX6_remember 35 = .ok (.iconst 0, 1) := by decide +kernel
theorem dX6_remember_36 : decode cX6_remember 36 = .ok (.istore 4, 2) := by decide +kernel
theorem dX6_remember_38 : decode cX6_remember 38 = .ok (.iload 4, 2) := by decide +kernel
theorem dX6_remember_40 : decode cX6_remember 40 = .ok (.iconst 2, 1) := by decide +kernel
theorem dX6_remember_41 : decode cX6_remember 41 = .ok (.aload_n 0, 1) := by decide +kernel
theorem dX6_remember_42 : decode cX6_remember 42 = .ok (.getfield 7, 3) := by decide +kernel
theorem dX6_remember_45 : decode cX6_remember 45 = .ok (.sipush 160, 3) := by decide +kernel
theorem dX6_remember_48 : decode cX6_remember 48 = .ok (.iload_n 1, 1) := by decide +kernel
theorem dX6_remember_49 : decode cX6_remember 49 = .ok (.iadd, 1) := by decide +kernel
theorem dX6_remember_50 : decode cX6_remember 50 = .ok (.iaload, 1) := by decide +kernel
theorem dX6_remember_51 : decode cX6_remember 51 = .ok (.imul, 1) := by decide +kernel
theorem dX6_remember_52 : decode cX6_remember 52 = .ok (.iconst 2, 1) := by decide +kernel
theorem dX6_remember_53 : decode cX6_remember 53 = .ok (.isub, 1) := by decide +kernel
theorem dX6_remember_54 : decode cX6_remember 54 = .ok (.if_icmp .ge 43, 3) := by decide +kernel
theorem dX6_remember_57 : decode cX6_remember 57 = .ok (.aload_n 0, 1) := by decide +kernel
theorem dX6_remember_58 : decode cX6_remember 58 = .ok (.getfield 7, 3) := by decide +kernel
theorem dX6_remember_61 : decode cX6_remember 61 = .ok (.sipush 170, 3) := by decide +kernel
theorem dX6_remember_64 : decode cX6_remember 64 = .ok (.bipush 16, 2) := by decide +kernel
theorem dX6_remember_66 : decode cX6_remember 66 = .ok (.iload_n 1, 1) := by decide +kernel
theorem dX6_remember_67 : decode cX6_remember 67 = .ok (.imul, 1) := by decide +kernel
theorem dX6_remember_68 : decode cX6_remember 68 = .ok (.iadd, 1) := by decide +kernel
theorem dX6_remember_69 : decode cX6_remember 69 = .ok (.iload 4, 2) := by decide +kernel
theorem dX6_remember_71 : decode cX6_remember 71 = .ok (.iadd, 1) := by decide +kernel
theorem dX6_remember_72 : decode cX6_remember 72 = .ok (.aload_n 0, 1) := by decide +kernel
theorem dX6_remember_73 : decode cX6_remember 73 = .ok (.getfield 7, 3) := by decide +kernel
theorem dX6_remember_76 : decode cX6_remember 76 = .ok (.sipush 170, 3) := by decide +kernel
theorem dX6_remember_79 : decode cX6_remember 79 = .ok (.bipush 16, 2) := by decide +kernel
theorem dX6_remember_81 : decode cX6_remember 81 = .ok (.iload_n 1, 1) := by decide +kernel
theorem dX6_remember_82 : decode cX6_remember 82 = .ok (.imul, 1) := by decide +kernel
theorem dX6_remember_83 : decode cX6_remember 83 = .ok (.iadd, 1) := by decide +kernel
theorem dX6_remember_84 : decode cX6_remember 84 = .ok (.iload 4, 2) := by decide +kernel
theorem dX6_remember_86 : decode cX6_remember 86 = .ok (.iadd, 1) := by decide +kernel
theorem dX6_remember_87 : decode cX6_remember 87 = .ok (.iconst 2, 1) := by decide +kernel
theorem dX6_remember_88 : decode cX6_remember 88 = .ok (.iadd, 1) := by decide +kernel
theorem dX6_remember_89 : decode cX6_remember 89 = .ok (.iaload, 1) := by decide +kernel
theorem dX6_remember_90 : decode cX6_remember 90 = .ok (.iastore, 1) := by decide +kernel
theorem dX6_remember_91 : decode cX6_remember 91 = .ok (.iinc 4 1, 3) := by decide +kernel
theorem dX6_remember_94 : decode cX6_remember 94 = .ok (.goto (-56), 3) := by decide +kernel
theorem dX6_remember_97 : decode cX6_remember 97 = .ok (.aload_n 0, 1) := by decide +kernel
theorem dX6_remember_98 : decode cX6_remember 98 = .ok (.getfield 7, 3) := by decide +kernel
theorem dX6_remember_101 : decode cX6_remember 101 = .ok (.sipush 160, 3) := by decide +kernel
theorem dX6_remember_104 : decode cX6_remember 104 = .ok (.iload_n 1, 1) := by decide +kernel
theorem dX6_remember_105 : decode cX6_remember 105 = .ok (.iadd, 1) := by decide +kernel
theorem dX6_remember_106 : decode cX6_remember 106 = .ok (.dup2, 1) := by decide +kernel
theorem dX6_remember_107 : decode cX6_remember 107 = .ok (.iaload, 1) := by decide +kernel
theorem dX6_remember_108 : decode cX6_remember 108 = .ok (.iconst 1, 1) := by decide +kernel
theorem dX6_remember_109 : decode cX6_remember 109 = .ok (.isub, 1) := by decide +kernel
theorem dX6_remember_110 : decode cX6_remember 110 = .ok (.iastore, 1) := by decide +kernel
theorem dX6_remember_111 : decode cX6_remember 111 = .ok (.sipush 170, 3) := by decide +kernel
theorem dX6_remember_114 : decode cX6_remember 114 = .ok (.bipush 16, 2) := by decide +kernel
theorem dX6_remember_116 : decode cX6_remember 116 = .ok (.iload_n 1, 1) := by decide +kernel
theorem dX6_remember_117 : decode cX6_remember 117 = .ok (.imul, 1) := by decide +kernel
theorem dX6_remember_118 : decode cX6_remember 118 = .ok (.iadd, 1) := by decide +kernel
theorem dX6_remember_119 : decode cX6_remember 119 = .ok (.iconst 2, 1) := by decide +kernel
theorem dX6_remember_120 : decode cX6_remember 120 = .ok (.aload_n 0, 1) := by decide +kernel
theorem dX6_remember_121 : decode cX6_remember 121 = .ok (.getfield 7, 3) := by decide +kernel
theorem dX6_remember_124 : decode cX6_remember 124 = .ok (.sipush 160, 3) := by decide +kernel
theorem dX6_remember_127 : decode cX6_remember 127 = .ok (.iload_n 1, 1) := by decide +kernel
theorem dX6_remember_128 : decode cX6_remember 128 = .ok (.iadd, 1) := by decide +kernel
theorem dX6_remember_129 : decode cX6_remember 129 = .ok (.iaload, 1) := by decide +kernel
theorem dX6_remember_130 : decode cX6_remember 130 = .ok (.imul, 1) := by decide +kernel
theorem dX6_remember_131 : decode cX6_remember 131 = .ok (.iadd, 1) := by decide +kernel
