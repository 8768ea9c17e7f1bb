theorem dX6_remember_132 : decode cX6_remember 132 = .ok (.istore 4, 2) := by decide +kernel
theorem dX6_remember_134 : decode cX6_remember 134 = .ok (.aload_n 0, 1) := by decide +kernel
theorem dX6_remember_135 : decode cX6_remember 135 = .ok (.getfield 7, 3) := by decide +kernel
theorem dX6_remember_138 : decode cX6_remember 138 = .ok (.iload 4, 2) := by decide +kernel
theorem dX6_remember_140 : decode cX6_remember 140 = .ok (.iload_n 2, 1) := by decide +kernel
theorem dX6_remember_141 : decode cX6_remember 141 = .ok (.iastore, 1) := by decide +kernel
theorem dX6_remember_142 : decode cX6_remember 142 = .ok (.aload_n 0, 1) := by decide +kernel
theorem dX6_remember_143 : decode cX6_remember 143 = .ok (.getfield 7, 3) := by decide +kernel
theorem dX6_remember_146 : decode cX6_remember 146 = .ok (.iload 4, 2) := by decide +kernel
theorem dX6_remember_148 : decode cX6_remember 148 = .ok (.iconst 1, 1) := by decide +kernel
theorem dX6_remember_149 : decode cX6_remember 149 = .ok (.iadd, 1) := by decide +kernel
theorem dX6_remember_150 : decode cX6_remember 150 = .ok (.iload_n 3, 1) := by decide +kernel
theorem dX6_remember_151 : decode cX6_remember 151 = .ok (.iastore, 1) := by decide +kernel
theorem dX6_remember_152 : decode cX6_remember 152 = .ok (.aload_n 0, 1) := by decide +kernel
theorem dX6_remember_153 : decode cX6_remember 153 = .ok (.getfield 7, 3) := by decide +kernel
theorem dX6_remember_156 : decode cX6_remember 156 = .ok (.sipush 160, 3) := by decide +kernel
theorem dX6_remember_159 : decode cX6_remember 159 = .ok (.iload_n 1, 1) := by decide +kernel
theorem dX6_remember_160 : decode cX6_remember 160 = .ok (.iadd, 1) := by decide +kernel
theorem dX6_remember_161 : decode cX6_remember 161 = .ok (.dup2, 1) := by decide +kernel
theorem dX6_remember_162 : decode cX6_remember 162 = .ok (.iaload, 1) := by decide +kernel
theorem dX6_remember_163 : decode cX6_remember 163 = .ok (.iconst 1, 1) := by decide +kernel
theorem dX6_remember_164 : decode cX6_remember 164 = .ok (.iadd, 1) := by decide +kernel
theorem dX6_remember_165 : decode cX6_remember 165 = .ok (.iastore, 1) := by decide +kernel
theorem dX6_remember_166 : decode cX6_remember 166 = .ok (.return_, 1) := by decide +kernel
theorem dX6_addToAir_0 : decode cX6_addToAir 0 = .ok (.sipush 490, 3) := by decide +kernel
theorem dX6_addToAir_3 : decode cX6_addToAir 3 = .ok (.iconst 5, 1) := by decide +kernel
theorem dX6_addToAir_4 : decode cX6_addToAir 4 = .ok (.aload_n 0, 1) := by decide +kernel
theorem dX6_addToAir_5 : decode cX6_addToAir 5 = .ok (.getfield 7, 3) := by decide +kernel
theorem dX6_addToAir_8 : decode cX6_addToAir 8 = .ok (.sipush 6815, 3) := by decide +kernel
theorem dX6_addToAir_11 : decode cX6_addToAir 11 = .ok (.iaload, 1) := by decide +kernel
theorem dX6_addToAir_12 : decode cX6_addToAir 12 = .ok (.imul, 1) := by decide +kernel
theorem dX6_addToAir_13 : decode cX6_addToAir 13 = .ok (.iadd, 1) := by decide +kernel
theorem dX6_addToAir_14 : decode cX6_addToAir 14 = .ok (.istore 6, 2) := by decide +kernel
theorem dX6_addToAir_16 : decode cX6_addToAir 16 = .ok (.aload_n 0, 1) := by decide +kernel
theorem dX6_addToAir_17 : decode cX6_addToAir 17 = .ok (.getfield 7, 3) := by decide +kernel
theorem dX6_addToAir_20 : decode cX6_addToAir 20 = .ok (.iload 6, 2) := by decide +kernel
theorem dX6_addToAir_22 : decode cX6_addToAir 22 = .ok (.iload_n 1, 1) := by decide +kernel
theorem dX6_addToAir_23 : decode cX6_addToAir 23 = .ok (.iastore, 1) := by decide +kernel
theorem dX6_addToAir_24 : decode cX6_addToAir 24 = .ok (.aload_n 0, 1) := by decide +kernel
theorem dX6_addToAir_25 : decode cX6_addToAir 25 = .ok (.getfield 7, 3) := by decide +kernel
theorem dX6_addToAir_28 : decode cX6_addToAir 28 = .ok (.iload 6, 2) := by decide +kernel
theorem dX6_addToAir_30 : decode cX6_addToAir 30 = .ok (.iconst 1, 1) := by decide +kernel
theorem dX6_addToAir_31 : decode cX6_addToAir 31 = .ok (.iadd, 1) := by decide +kernel
theorem dX6_addToAir_32 : decode cX6_addToAir 32 = .ok (.iload_n 2, 1) := by decide +kernel
theorem dX6_addToAir_33 : decode cX6_addToAir 33 = .ok (.iastore, 1) := by decide +kernel
theorem dX6_addToAir_34 : decode cX6_addToAir 34 = .ok (.aload_n 0, 1) := by decide +kernel
theorem dX6_addToAir_35 : decode cX6_addToAir 35 = .ok (.getfield 7, 3) := by decide +kernel
theorem dX6_addToAir_38 : decode cX6_addToAir 38 = .ok (.iload 6, 2) := by decide +kernel
theorem dX6_addToAir_40 : decode cX6_addToAir 40 = .ok (.iconst 2, 1) := by decide +kernel
theorem dX6_addToAir_41 : decode cX6_addToAir 41 = .ok (.iadd, 1) := by decide +kernel
theorem dX6_addToAir_42 : decode cX6_addToAir 42 = .ok (.iload_n 3, 1) := by decide +kernel
theorem dX6_addToAir_43 : decode cX6_addToAir 43 = .ok (.iastore, 1) := by decide +kernel
theorem dX6_addToAir_44 : decode cX6_addToAir 44 = .ok (.aload_n 0, 1) := by decide +kernel
theorem dX6_addToAir_45 : decode cX6_addToAir 45 = .ok (.getfield 7, 3) := by decide +kernel
theorem dX6_addToAir_48 : decode cX6_addToAir 48 = .ok (.iload 6, 2) := by decide +kernel
theorem dX6_addToAir_50 : decode cX6_addToAir 50 = .ok (.iconst 3, 1) := by decide +kernel
theorem dX6_addToAir_51 : decode cX6_addToAir 51 = .ok (.iadd, 1) := by decide +kernel
theorem dX6_addToAir_52 : decode cX6_addToAir 52 = .ok (.iload 4, 2) := by decide +kernel
theorem dX6_addToAir_54 : decode cX6_addToAir 54 = .ok (.iastore, 1) := by decide +kernel
theorem dX6_addToAir_55 : decode cX6_addToAir 55 = .ok (.aload_n 0, 1) := by decide +kernel
theorem dX6_addToAir_56 : decode cX6_addToAir 56 = .ok (.getfield 7, 3) := by decide +kernel
theorem dX6_addToAir_59 : decode cX6_addToAir 59 = .ok (.iload 6, 2) := by decide +kernel
theorem dX6_addToAir_61 : decode cX6_addToAir 61 = .ok (.iconst 4, 1) := by decide +kernel
theorem dX6_addToAir_62 : decode cX6_addToAir 62 = .ok (.iadd, 1) := by decide +kernel
theorem dX6_addToAir_63 : decode cX6_addToAir 63 = .ok (.iload 5, 2) := by decide +kernel
theorem dX6_addToAir_65 : decode cX6_addToAir 65 = .ok (.iastore, 1) := by decide +kernel
theorem dX6_addToAir_66 : decode cX6_addToAir 66 = .ok (.aload_n 0, 1) := by decide +kernel
theorem dX6_addToAir_67 : decode cX6_addToAir 67 = .ok (.getfield 7, 3) := by decide +kernel
theorem dX6_addToAir_70 : decode cX6_addToAir 70 = .ok (.sipush 6815, 3) := by decide +kernel
theorem dX6_addToAir_73 : decode cX6_addToAir 73 = .ok (.dup2, 1) := by decide +kernel
theorem dX6_addToAir_74 : decode cX6_addToAir 74 = .ok (.iaload, 1) := by decide +kernel
theorem dX6_addToAir_75 : decode cX6_addToAir 75 = .ok (.iconst 1, 1) := by decide +kernel
theorem dX6_addToAir_76 : decode cX6_addToAir 76 = .ok (.iadd, 1) := by decide +kernel
theorem dX6_addToAir_77 : decode cX6_addToAir 77 = .ok (.iastore, 1) := by decide +kernel
theorem dX6_addToAir_78 : decode cX6_addToAir 78 = .ok (.return_, 1) := by decide +kernel
set_option maxRecDepth 20000 in
theorem ggX6_keyFor_X6_isOf : GoodIn wsX6_keyFor wsX6_isOf := goodIn_r _ [5] (by decide +kernel) (by decide +kernel)
set_option maxRecDepth 20000 in
theorem gX6_keyFor_X6_isOf : GoodIn wsX6_keyFor (va_wsS RX6 43 yX6_isOf wsX6_isOf) := goodIn_app (goodIn_of _ (by decide +kernel)) ggX6_keyFor_X6_isOf
theorem dX6_keyFor_0 : decode cX6_keyFor 0 = .ok (.aload_n 0, 1) := by decide +kernel
theorem dX6_keyFor_1 : decode cX6_keyFor 1 = .ok (.getfield 7, 3) := by decide +kernel
theorem dX6_keyFor_4 : decode cX6_keyFor 4 = .ok (.sipush 6812, 3) := by decide +kernel
theorem dX6_keyFor_7 : decode cX6_keyFor 7 = .ok (.iaload, 1) := by decide +kernel
theorem dX6_keyFor_8 : decode cX6_keyFor 8 = .ok (.iconst 2, 1) := by decide +kernel
theorem dX6_keyFor_9 : decode cX6_keyFor 9 = .ok (.if_icmp .ne 29, 3) := by decide +kernel
theorem dX6_keyFor_12 : decode cX6_keyFor 12 = .ok (.aload_n 0, 1) := by decide +kernel
theorem dX6_keyFor_13 : decode cX6_keyFor 13 = .ok (.getfield 7, 3) := by decide +kernel
theorem dX6_keyFor_16 : decode cX6_keyFor 16 = .ok (.sipush 6814, 3) := by decide +kernel
theorem dX6_keyFor_19 : decode cX6_keyFor 19 = .ok (.iaload, 1) := by decide +kernel
theorem dX6_keyFor_20 : decode cX6_keyFor 20 = .ok (.iload_n 1, 1) := by decide +kernel
theorem dX6_keyFor_21 : decode cX6_keyFor 21 = .ok (.invokestatic 43, 3) := by decide +kernel
theorem dX6_keyFor_24 : decode cX6_keyFor 24 = .ok (.ifCond .eq 14, 3) := by decide +kernel
theorem dX6_keyFor_27 : decode cX6_keyFor 27 = .ok (.aload_n 0, 1) := by decide +kernel
theorem dX6_keyFor_28 : decode cX6_keyFor 28 = .ok (.getfield 7, 3) := by decide +kernel
theorem dX6_keyFor_31 : decode cX6_keyFor 31 = .ok (.sipush 6811, 3) := by decide +kernel
theorem dX6_keyFor_34 : decode cX6_keyFor 34 = .ok (.iaload, 1) := by decide +kernel
theorem dX6_keyFor_35 : decode cX6_keyFor 35 = .ok (.iconst 1, 1) := by decide +kernel
theorem dX6_keyFor_36 : decode cX6_keyFor 36 = .ok (.iadd, 1) := by decide +kernel
theorem dX6_keyFor_37 : decode cX6_keyFor 37 = .ok (.ireturn, 1) := by decide +kernel
theorem dX6_keyFor_38 : decode cX6_keyFor 38 = .ok (.aload_n 0, 1) := by decide +kernel
theorem dX6_keyFor_39 : decode cX6_keyFor 39 = .ok (.getfield 7, 3) := by decide +kernel
theorem dX6_keyFor_42 : decode cX6_keyFor 42 = .ok (.sipush 6813, 3) := by decide +kernel
theorem dX6_keyFor_45 : decode cX6_keyFor 45 = .ok (.iaload, 1) := by decide +kernel
theorem dX6_keyFor_46 : decode cX6_keyFor 46 = .ok (.iload_n 1, 1) := by decide +kernel
theorem dX6_keyFor_47 : decode cX6_keyFor 47 = .ok (.invokestatic 43, 3) := by decide +kernel
theorem dX6_keyFor_50 : decode cX6_keyFor 50 = .ok (.ifCond .eq 14, 3) := by decide +kernel
theorem dX6_keyFor_53 : decode cX6_keyFor 53 = .ok (.aload_n 0, 1) := by decide +kernel
theorem dX6_keyFor_54 : decode cX6_keyFor 54 = .ok (.getfield 7, 3) := by decide +kernel
theorem dX6_keyFor_57 : decode cX6_keyFor 57 = .ok (.sipush 6811, 3) := by decide +kernel
theorem dX6_keyFor_60 : decode cX6_keyFor 60 = .ok (.iaload, 1) := by decide +kernel
theorem dX6_keyFor_61 : decode cX6_keyFor 61 = .ok (.goto 5, 3) := by decide +kernel
theorem dX6_keyFor_64 : decode cX6_keyFor 64 = .ok (.bipush (-6), 2) := by decide +kernel
theorem dX6_keyFor_66 : decode cX6_keyFor 66 = .ok (.ireturn, 1) := by decide +kernel
set_option maxRecDepth 20000 in
theorem ggX6_tell_X6_isLamp : GoodIn wsX6_tell wsX6_isLamp := goodIn_r _ [5, 6, 7, 4, 8] (by decide +kernel) (by decide +kernel)
set_option maxRecDepth 20000 in
theorem gX6_tell_X6_isLamp : GoodIn wsX6_tell (va_wsS RX6 24 yX6_isLamp wsX6_isLamp) := goodIn_app (goodIn_of _ (by decide +kernel)) ggX6_tell_X6_isLamp
set_option maxRecDepth 20000 in
theorem ggX6_tell_X6_in : GoodIn wsX6_tell wsX6_in := goodIn_r _ [8] (by decide +kernel) (by decide +kernel)
set_option maxRecDepth 20000 in
theorem gX6_tell_X6_in : GoodIn wsX6_tell (va_wsS RX6 20 yX6_in wsX6_in) := goodIn_app (goodIn_of _ (by decide +kernel)) ggX6_tell_X6_in
set_option maxRecDepth 20000 in
theorem ggX6_tell_X6_sleeps : GoodIn wsX6_tell wsX6_sleeps := goodIn_r _ [12, 1, 28, 29, 30] (by decide +kernel) (by decide +kernel)
set_option maxRecDepth 20000 in
theorem gX6_tell_X6_sleeps : GoodIn wsX6_tell (wsV RX6 36 RX6 yX6_sleeps wsX6_sleeps) := goodIn_app (goodIn_of _ (by decide +kernel)) ggX6_tell_X6_sleeps
set_option maxRecDepth 20000 in
theorem ggX6_tell_X6_keyFor : GoodIn wsX6_tell wsX6_keyFor := goodIn_r _ [16, 1, 17, 18, 4, 19, 28, 29, 30] (by decide +kernel) (by decide +kernel)
set_option maxRecDepth 20000 in
theorem gX6_tell_X6_keyFor : GoodIn wsX6_tell (wsV RX6 47 RX6 yX6_keyFor wsX6_keyFor) := goodIn_app (goodIn_of _ (by decide +kernel)) ggX6_tell_X6_keyFor
set_option maxRecDepth 20000 in
theorem ggX6_tell_X6_remember : GoodIn wsX6_tell wsX6_remember := goodIn_r _ [23, 1, 28, 29, 30] (by decide +kernel) (by decide +kernel)
set_option maxRecDepth 20000 in
theorem gX6_tell_X6_remember : GoodIn wsX6_tell (wsV RX6 50 RX6 yX6_remember wsX6_remember) := goodIn_app (goodIn_of _ (by decide +kernel)) ggX6_tell_X6_remember
set_option maxRecDepth 20000 in
theorem ggX6_tell_X6_addToAir : GoodIn wsX6_tell wsX6_addToAir := goodIn_r _ [27, 1, 28, 29, 30] (by decide +kernel) (by decide +kernel)
set_option maxRecDepth 20000 in
theorem gX6_tell_X6_addToAir : GoodIn wsX6_tell (wsV RX6 54 RX6 yX6_addToAir wsX6_addToAir) := goodIn_app (goodIn_of _ (by decide +kernel)) ggX6_tell_X6_addToAir
theorem dX6_tell_0 : decode cX6_tell 0 = .ok (.iload_n 1, 1) := by decide +kernel
theorem dX6_tell_1 : decode cX6_tell 1 = .ok (.invokestatic 24, 3) := by decide +kernel
theorem dX6_tell_4 : decode cX6_tell 4 = .ok (.ifCond .ne 5, 3) := by decide +kernel
theorem dX6_tell_7 : decode cX6_tell 7 = .ok (.iconst (-1), 1) := by decide +kernel
theorem dX6_tell_8 : decode cX6_tell 8 = .ok (.ireturn, 1) := by decide +kernel
theorem dX6_tell_9 : decode cX6_tell 9 = .ok (.iload_n 2, 1) := by decide +kernel
theorem dX6_tell_10 : decode cX6_tell 10 = .ok (.iconst 0, 1) := by decide +kernel
theorem dX6_tell_11 : decode cX6_tell 11 = .ok (.bipush 13, 2) := by decide +kernel
theorem dX6_tell_13 : decode cX6_tell 13 = .ok (.invokestatic 20, 3) := by decide +kernel
theorem dX6_tell_16 : decode cX6_tell 16 = .ok (.ifCond .eq 24, 3) := by decide +kernel
theorem dX6_tell_19 : decode cX6_tell 19 = .ok (.iload_n 3, 1) := by decide +kernel
theorem dX6_tell_20 : decode cX6_tell 20 = .ok (.iconst 0, 1) := by decide +kernel
theorem dX6_tell_21 : decode cX6_tell 21 = .ok (.bipush 99, 2) := by decide +kernel
theorem dX6_tell_23 : decode cX6_tell 23 = .ok (.invokestatic 20, 3) := by decide +kernel
theorem dX6_tell_26 : decode cX6_tell 26 = .ok (.ifCond .eq 14, 3) := by decide +kernel
theorem dX6_tell_29 : decode cX6_tell 29 = .ok (.iload 4, 2) := by decide +kernel
theorem dX6_tell_31 : decode cX6_tell 31 = .ok (.iconst 1, 1) := by decide +kernel
theorem dX6_tell_32 : decode cX6_tell 32 = .ok (.bipush 7, 2) := by decide +kernel
theorem dX6_tell_34 : decode cX6_tell 34 = .ok (.invokestatic 20, 3) := by decide +kernel
theorem dX6_tell_37 : decode cX6_tell 37 = .ok (.ifCond .ne 6, 3) := by decide +kernel
theorem dX6_tell_40 : decode cX6_tell 40 = .ok (.bipush (-2), 2) := by decide +kernel
theorem dX6_tell_42 : decode cX6_tell 42 = .ok (.ireturn, 1) := by decide +kernel
theorem dX6_tell_43 : decode cX6_tell 43 = .ok (.aload_n 0, 1) := by decide +kernel
theorem dX6_tell_44 : decode cX6_tell 44 = .ok (.iload_n 1, 1) := by decide +kernel
theorem dX6_tell_45 : decode cX6_tell 45 = .ok (.invokevirtual 36, 3) := by decide +kernel
theorem dX6_tell_48 : decode cX6_tell 48 = .ok (.ifCond .eq 6, 3) := by decide +kernel
theorem dX6_tell_51 : decode cX6_tell 51 = .ok (.bipush (-3), 2) := by decide +kernel
theorem dX6_tell_53 : decode cX6_tell 53 = .ok (.ireturn, 1) := by decide +kernel
theorem dX6_tell_54 : decode cX6_tell 54 = .ok (.aload_n 0, 1) := by decide +kernel
theorem dX6_tell_55 : decode cX6_tell 55 = .ok (.iload_n 1, 1) := by decide +kernel
theorem dX6_tell_56 : decode cX6_tell 56 = .ok (.invokevirtual 47, 3) := by decide +kernel
theorem dX6_tell_59 : decode cX6_tell 59 = .ok (.istore 5, 2) := by decide +kernel
theorem dX6_tell_61 : decode cX6_tell 61 = .ok (.iload 5, 2) := by decide +kernel
theorem dX6_tell_63 : decode cX6_tell 63 = .ok (.ifCond .ge 6, 3) := by decide +kernel
theorem dX6_tell_66 : decode cX6_tell 66 = .ok (.bipush (-5), 2) := by decide +kernel
theorem dX6_tell_68 : decode cX6_tell 68 = .ok (.ireturn, 1) := by decide +kernel
theorem dX6_tell_69 : decode cX6_tell 69 = .ok (.aload_n 0, 1) := by decide +kernel
theorem dX6_tell_70 : decode cX6_tell 70 = .ok (.getfield 7, 3) := by decide +kernel
theorem dX6_tell_73 : decode cX6_tell 73 = .ok (.sipush 6815, 3) := by decide +kernel
theorem dX6_tell_76 : decode cX6_tell 76 = .ok (.iaload, 1) := by decide +kernel
theorem dX6_tell_77 : decode cX6_tell 77 = .ok (.bipush 64, 2) := by decide +kernel
theorem dX6_tell_79 : decode cX6_tell 79 = .ok (.if_icmp .eq 18, 3) := by decide +kernel
theorem dX6_tell_82 : decode cX6_tell 82 = .ok (.aload_n 0, 1) := by decide +kernel
theorem dX6_tell_83 : decode cX6_tell 83 = .ok (.getfield 7, 3) := by decide +kernel
theorem dX6_tell_86 : decode cX6_tell 86 = .ok (.bipush 80, 2) := by decide +kernel
theorem dX6_tell_88 : decode cX6_tell 88 = .ok (.iload_n 1, 1) := by decide +kernel
theorem dX6_tell_89 : decode cX6_tell 89 = .ok (.iadd, 1) := by decide +kernel
theorem dX6_tell_90 : decode cX6_tell 90 = .ok (.iaload, 1) := by decide +kernel
theorem dX6_tell_91 : decode cX6_tell 91 = .ok (.sipush 200, 3) := by decide +kernel
theorem dX6_tell_94 : decode cX6_tell 94 = .ok (.if_icmp .ne 6, 3) := by decide +kernel
theorem dX6_tell_97 : decode cX6_tell 97 = .ok (.bipush (-4), 2) := by decide +kernel
theorem dX6_tell_99 : decode cX6_tell 99 = .ok (.ireturn, 1) := by decide +kernel
theorem dX6_tell_100 : decode cX6_tell 100 = .ok (.aload_n 0, 1) := by decide +kernel
theorem dX6_tell_101 : decode cX6_tell 101 = .ok (.getfield 7, 3) := by decide +kernel
theorem dX6_tell_104 : decode cX6_tell 104 = .ok (.bipush 80, 2) := by decide +kernel
theorem dX6_tell_106 : decode cX6_tell 106 = .ok (.iload_n 1, 1) := by decide +kernel
theorem dX6_tell_107 : decode cX6_tell 107 = .ok (.iadd, 1) := by decide +kernel
theorem dX6_tell_108 : decode cX6_tell 108 = .ok (.dup2, 1) := by decide +kernel
theorem dX6_tell_109 : decode cX6_tell 109 = .ok (.iaload, 1) := by decide +kernel
theorem dX6_tell_110 : decode cX6_tell 110 = .ok (.iconst 1, 1) := by decide +kernel
theorem dX6_tell_111 : decode cX6_tell 111 = .ok (.iadd, 1) := by decide +kernel
theorem dX6_tell_112 : decode cX6_tell 112 = .ok (.iastore, 1) := by decide +kernel
theorem dX6_tell_113 : decode cX6_tell 113 = .ok (.aload_n 0, 1) := by decide +kernel
theorem dX6_tell_114 : decode cX6_tell 114 = .ok (.getfield 7, 3) := by decide +kernel
theorem dX6_tell_117 : decode cX6_tell 117 = .ok (.bipush 80, 2) := by decide +kernel
theorem dX6_tell_119 : decode cX6_tell 119 = .ok (.iload_n 1, 1) := by decide +kernel
theorem dX6_tell_120 : decode cX6_tell 120 = .ok (.iadd, 1) := by decide +kernel
theorem dX6_tell_121 : decode cX6_tell 121 = .ok (.iaload, 1) := by decide +kernel
theorem dX6_tell_122 : decode cX6_tell 122 = .ok (.istore 6, 2) := by decide +kernel
theorem dX6_tell_124 : decode cX6_tell 124 = .ok (.sipush 810, 3) := by decide +kernel
theorem dX6_tell_127 : decode cX6_tell 127 = .ok (.iconst 3, 1) := by decide +kernel
theorem dX6_tell_128 : decode cX6_tell 128 = .ok (.sipush 200, 3) := by decide +kernel
theorem dX6_tell_131 : decode cX6_tell 131 = .ok (.iload_n 1, 1) := by decide +kernel
theorem dX6_tell_132 : decode cX6_tell 132 = .ok (.imul, 1) := by decide +kernel
theorem dX6_tell_133 : decode cX6_tell 133 = .ok (.iload 6, 2) := by decide +kernel
theorem dX6_tell_135 : decode cX6_tell 135 = .ok (.iadd, 1) := by decide +kernel
theorem dX6_tell_136 : decode cX6_tell 136 = .ok (.iconst 1, 1) := by decide +kernel
theorem dX6_tell_137 : decode cX6_tell 137 = .ok (.isub, 1) := by decide +kernel
theorem dX6_tell_138 : decode cX6_tell 138 = .ok (.imul, 1) := by decide +kernel
theorem dX6_tell_139 : decode cX6_tell 139 = .ok (.iadd, 1) := by decide +kernel
theorem dX6_tell_140 : decode cX6_tell 140 = .ok (.istore 7, 2) := by decide +kernel
theorem dX6_tell_142 : decode cX6_tell 142 = .ok (.aload_n 0, 1) := by decide +kernel
theorem dX6_tell_143 : decode cX6_tell 143 = .ok (.getfield 7, 3) := by decide +kernel
theorem dX6_tell_146 : decode cX6_tell 146 = .ok (.iload 7, 2) := by decide +kernel
theorem dX6_tell_148 : decode cX6_tell 148 = .ok (.iload 5, 2) := by decide +kernel
theorem dX6_tell_150 : decode cX6_tell 150 = .ok (.iastore, 1) := by decide +kernel
theorem dX6_tell_151 : decode cX6_tell 151 = .ok (.aload_n 0, 1) := by decide +kernel
theorem dX6_tell_152 : decode cX6_tell 152 = .ok (.getfield 7, 3) := by decide +kernel
theorem dX6_tell_155 : decode cX6_tell 155 = .ok (.iload 7, 2) := by decide +kernel
theorem dX6_tell_157 : decode cX6_tell 157 = .ok (.iconst 1, 1) := by decide +kernel
theorem dX6_tell_158 : decode cX6_tell 158 = .ok (.iadd, 1) := by decide +kernel
theorem dX6_tell_159 : decode cX6_tell 159 = .ok (.iload_n 2, 1) := by decide +kernel
theorem dX6_tell_160 : decode cX6_tell 160 = .ok (.iastore, 1) := by decide +kernel
theorem dX6_tell_161 : decode cX6_tell 161 = .ok (.aload_n 0, 1) := by decide +kernel
theorem dX6_tell_162 : decode cX6_tell 162 = .ok (.getfield 7, 3) := by decide +kernel
theorem dX6_tell_165 : decode cX6_tell 165 = .ok (.iload 7, 2) := by decide +kernel
theorem dX6_tell_167 : decode cX6_tell 167 = .ok (.iconst 2, 1) := by decide +kernel
theorem dX6_tell_168 : decode cX6_tell 168 = .ok (.iadd, 1) := by decide +kernel
theorem dX6_tell_169 : decode cX6_tell 169 = .ok (.iload_n 3, 1) := by decide +kernel
theorem dX6_tell_170 : decode cX6_tell 170 = .ok (.iastore, 1) := by decide +kernel
theorem dX6_tell_171 : decode cX6_tell 171 = .ok (.aload_n 0, 1) := by decide +kernel
theorem dX6_tell_172 : decode cX6_tell 172 = .ok (.iload_n 1, 1) := by decide +kernel
theorem dX6_tell_173 : decode cX6_tell 173 = .ok (.iload_n 1, 1) := by decide +kernel
theorem dX6_tell_174 : decode cX6_tell 174 = .ok (.iload 6, 2) := by decide +kernel
theorem dX6_tell_176 : decode cX6_tell 176 = .ok (.invokevirtual 50, 3) := by decide +kernel
theorem dX6_tell_179 : decode cX6_tell 179 = .ok (.aload_n 0, 1) := by decide +kernel
theorem dX6_tell_180 : decode cX6_tell 180 = .ok (.iload_n 1, 1) := by decide +kernel
theorem dX6_tell_181 : decode cX6_tell 181 = .ok (.aload_n 0, 1) := by decide +kernel
theorem dX6_tell_182 : decode cX6_tell 182 = .ok (.getfield 7, 3) := by decide +kernel
theorem dX6_tell_185 : decode cX6_tell 185 = .ok (.sipush 6810, 3) := by decide +kernel
theorem dX6_tell_188 : decode cX6_tell 188 = .ok (.iaload, 1) := by decide +kernel
theorem dX6_tell_189 : decode cX6_tell 189 = .ok (.iconst 1, 1) := by decide +kernel
theorem dX6_tell_190 : decode cX6_tell 190 = .ok (.iadd, 1) := by decide +kernel
theorem dX6_tell_191 : decode cX6_tell 191 = .ok (.iload_n 1, 1) := by decide +kernel
theorem dX6_tell_192 : decode cX6_tell 192 = .ok (.iload 6, 2) := by decide +kernel
theorem dX6_tell_194 : decode cX6_tell 194 = .ok (.iload 4, 2) := by decide +kernel
theorem dX6_tell_196 : decode cX6_tell 196 = .ok (.invokevirtual 54, 3) := by decide +kernel
theorem dX6_tell_199 : decode cX6_tell 199 = .ok (.iload 6, 2) := by decide +kernel
theorem dX6_tell_201 : decode cX6_tell 201 = .ok (.ireturn, 1) := by decide +kernel
set_option maxRecDepth 20000 in
theorem ggX6_replay_X6_isLamp : GoodIn wsX6_replay wsX6_isLamp := goodIn_r _ [5, 6, 7, 4, 8] (by decide +kernel) (by decide +kernel)
set_option maxRecDepth 20000 in
theorem gX6_replay_X6_isLamp : GoodIn wsX6_replay (va_wsS RX6 24 yX6_isLamp wsX6_isLamp) := goodIn_app (goodIn_of _ (by decide +kernel)) ggX6_replay_X6_isLamp
set_option maxRecDepth 20000 in
theorem ggX6_replay_X6_in : GoodIn wsX6_replay wsX6_in := goodIn_r _ [8] (by decide +kernel) (by decide +kernel)
set_option maxRecDepth 20000 in
theorem gX6_replay_X6_in : GoodIn wsX6_replay (va_wsS RX6 20 yX6_in wsX6_in) := goodIn_app (goodIn_of _ (by decide +kernel)) ggX6_replay_X6_in
set_option maxRecDepth 20000 in
theorem ggX6_replay_X6_addToAir : GoodIn wsX6_replay wsX6_addToAir := goodIn_r _ [12, 1, 13, 14, 15] (by decide +kernel) (by decide +kernel)
set_option maxRecDepth 20000 in
theorem gX6_replay_X6_addToAir : GoodIn wsX6_replay (wsV RX6 54 RX6 yX6_addToAir wsX6_addToAir) := goodIn_app (goodIn_of _ (by decide +kernel)) ggX6_replay_X6_addToAir
theorem dX6_replay_0 : decode cX6_replay 0 = .ok (.iload_n 1, 1) := by decide +kernel
theorem dX6_replay_1 : decode cX6_replay 1 = .ok (.invokestatic 24, 3) := by decide +kernel
theorem dX6_replay_4 : decode cX6_replay 4 = .ok (.ifCond .eq 10, 3) := by decide +kernel
theorem dX6_replay_7 : decode cX6_replay 7 = .ok (.iload_n 2, 1) := by decide +kernel
theorem dX6_replay_8 : decode cX6_replay 8 = .ok (.invokestatic 24, 3) := by decide +kernel
theorem dX6_replay_11 : decode cX6_replay 11 = .ok (.ifCond .ne 5, 3) := by decide +kernel
theorem dX6_replay_14 : decode cX6_replay 14 = .ok (.iconst (-1), 1) := by decide +kernel
theorem dX6_replay_15 : decode cX6_replay 15 = .ok (.ireturn, 1) := by decide +kernel
theorem dX6_replay_16 : decode cX6_replay 16 = .ok (.iload_n 3, 1) := by decide +kernel
theorem dX6_replay_17 : decode cX6_replay 17 = .ok (.iconst 1, 1) := by decide +kernel
theorem dX6_replay_18 : decode cX6_replay 18 = .ok (.aload_n 0, 1) := by decide +kernel
theorem dX6_replay_19 : decode cX6_replay 19 = .ok (.getfield 7, 3) := by decide +kernel
theorem dX6_replay_22 : decode cX6_replay 22 = .ok (.bipush 80, 2) := by decide +kernel
theorem dX6_replay_24 : decode cX6_replay 24 = .ok (.iload_n 2, 1) := by decide +kernel
theorem dX6_replay_25 : decode cX6_replay 25 = .ok (.iadd, 1) := by decide +kernel
theorem dX6_replay_26 : decode cX6_replay 26 = .ok (.iaload, 1) := by decide +kernel
theorem dX6_replay_27 : decode cX6_replay 27 = .ok (.invokestatic 20, 3) := by decide +kernel
theorem dX6_replay_30 : decode cX6_replay 30 = .ok (.ifCond .ne 6, 3) := by decide +kernel
theorem dX6_replay_33 : decode cX6_replay 33 = .ok (.bipush (-2), 2) := by decide +kernel
theorem dX6_replay_35 : decode cX6_replay 35 = .ok (.ireturn, 1) := by decide +kernel
theorem dX6_replay_36 : decode cX6_replay 36 = .ok (.aload_n 0, 1) := by decide +kernel
theorem dX6_replay_37 : decode cX6_replay 37 = .ok (.getfield 7, 3) := by decide +kernel
theorem dX6_replay_40 : decode cX6_replay 40 = .ok (.sipush 6815, 3) := by decide +kernel
theorem dX6_replay_43 : decode cX6_replay 43 = .ok (.iaload, 1) := by decide +kernel
theorem dX6_replay_44 : decode cX6_replay 44 = .ok (.bipush 64, 2) := by decide +kernel
theorem dX6_replay_46 : decode cX6_replay 46 = .ok (.if_icmp .ne 6, 3) := by decide +kernel
theorem dX6_replay_49 : decode cX6_replay 49 = .ok (.bipush (-4), 2) := by decide +kernel
theorem dX6_replay_51 : decode cX6_replay 51 = .ok (.ireturn, 1) := by decide +kernel
theorem dX6_replay_52 : decode cX6_replay 52 = .ok (.aload_n 0, 1) := by decide +kernel
theorem dX6_replay_53 : decode cX6_replay 53 = .ok (.bipush 10, 2) := by decide +kernel
theorem dX6_replay_55 : decode cX6_replay 55 = .ok (.iload_n 1, 1) := by decide +kernel
theorem dX6_replay_56 : decode cX6_replay 56 = .ok (.iadd, 1) := by decide +kernel
theorem dX6_replay_57 : decode cX6_replay 57 = .ok (.aload_n 0, 1) := by decide +kernel
theorem dX6_replay_58 : decode cX6_replay 58 = .ok (.getfield 7, 3) := by decide +kernel
theorem dX6_replay_61 : decode cX6_replay 61 = .ok (.sipush 6810, 3) := by decide +kernel
theorem dX6_replay_64 : decode cX6_replay 64 = .ok (.iaload, 1) := by decide +kernel
theorem dX6_replay_65 : decode cX6_replay 65 = .ok (.iconst 1, 1) := by decide +kernel
theorem dX6_replay_66 : decode cX6_replay 66 = .ok (.iadd, 1) := by decide +kernel
theorem dX6_replay_67 : decode cX6_replay 67 = .ok (.iload_n 2, 1) := by decide +kernel
theorem dX6_replay_68 : decode cX6_replay 68 = .ok (.iload_n 3, 1) := by decide +kernel
theorem dX6_replay_69 : decode cX6_replay 69 = .ok (.bipush 7, 2) := by decide +kernel
theorem dX6_replay_71 : decode cX6_replay 71 = .ok (.invokevirtual 54, 3) := by decide +kernel
theorem dX6_replay_74 : decode cX6_replay 74 = .ok (.aload_n 0, 1) := by decide +kernel
theorem dX6_replay_75 : decode cX6_replay 75 = .ok (.getfield 7, 3) := by decide +kernel
theorem dX6_replay_78 : decode cX6_replay 78 = .ok (.sipush 6815, 3) := by decide +kernel
theorem dX6_replay_81 : decode cX6_replay 81 = .ok (.iaload, 1) := by decide +kernel
theorem dX6_replay_82 : decode cX6_replay 82 = .ok (.ireturn, 1) := by decide +kernel
set_option maxRecDepth 20000 in
theorem ggX6_takes_X6_letter : GoodIn wsX6_takes wsX6_letter := goodIn_r _ [6, 1, 7, 8, 9] (by decide +kernel) (by decide +kernel)
set_option maxRecDepth 20000 in
theorem gX6_takes_X6_letter : GoodIn wsX6_takes (wsV RX6 39 RX6 yX6_letter wsX6_letter) := goodIn_app (goodIn_of _ (by decide +kernel)) ggX6_takes_X6_letter
theorem dX6_takes_0 : decode cX6_takes 0 = .ok (.sipush 330, 3) := by decide +kernel
theorem dX6_takes_3 : decode cX6_takes 3 = .ok (.bipush 10, 2) := by decide +kernel
theorem dX6_takes_5 : decode cX6_takes 5 = .ok (.iload_n 1, 1) := by decide +kernel
theorem dX6_takes_6 : decode cX6_takes 6 = .ok (.imul, 1) := by decide +kernel
theorem dX6_takes_7 : decode cX6_takes 7 = .ok (.iadd, 1) := by decide +kernel
theorem dX6_takes_8 : decode cX6_takes 8 = .ok (.iload_n 2, 1) := by decide +kernel
theorem dX6_takes_9 : decode cX6_takes 9 = .ok (.iadd, 1) := by decide +kernel
theorem dX6_takes_10 : decode cX6_takes 10 = .ok (.istore 4, 2) := by decide +kernel
theorem dX6_takes_12 : decode cX6_takes 12 = .ok (.iload_n 3, 1) := by decide +kernel
theorem dX6_takes_13 : decode cX6_takes 13 = .ok (.aload_n 0, 1) := by decide +kernel
theorem dX6_takes_14 : decode cX6_takes 14 = .ok (.getfield 7, 3) := by decide +kernel
theorem dX6_takes_17 : decode cX6_takes 17 = .ok (.iload 4, 2) := by decide +kernel
theorem dX6_takes_19 : decode cX6_takes 19 = .ok (.iaload, 1) := by decide +kernel
theorem dX6_takes_20 : decode cX6_takes 20 = .ok (.if_icmp .gt 18, 3) := by decide +kernel
theorem dX6_takes_23 : decode cX6_takes 23 = .ok (.aload_n 0, 1) := by decide +kernel
theorem dX6_takes_24 : decode cX6_takes 24 = .ok (.getfield 7, 3) := by decide +kernel
theorem dX6_takes_27 : decode cX6_takes 27 = .ok (.bipush 100, 2) := by decide +kernel
theorem dX6_takes_29 : decode cX6_takes 29 = .ok (.iload_n 1, 1) := by decide +kernel
theorem dX6_takes_30 : decode cX6_takes 30 = .ok (.iadd, 1) := by decide +kernel
theorem dX6_takes_31 : decode cX6_takes 31 = .ok (.dup2, 1) := by decide +kernel
theorem dX6_takes_32 : decode cX6_takes 32 = .ok (.iaload, 1) := by decide +kernel
theorem dX6_takes_33 : decode cX6_takes 33 = .ok (.iconst 1, 1) := by decide +kernel
theorem dX6_takes_34 : decode cX6_takes 34 = .ok (.iadd, 1) := by decide +kernel
theorem dX6_takes_35 : decode cX6_takes 35 = .ok (.iastore, 1) := by decide +kernel
theorem dX6_takes_36 : decode cX6_takes 36 = .ok (.iconst 0, 1) := by decide +kernel
theorem dX6_takes_37 : decode cX6_takes 37 = .ok (.ireturn, 1) := by decide +kernel
theorem dX6_takes_38 : decode cX6_takes 38 = .ok (.aload_n 0, 1) := by decide +kernel
theorem dX6_takes_39 : decode cX6_takes 39 = .ok (.getfield 7, 3) := by decide +kernel
theorem dX6_takes_42 : decode cX6_takes 42 = .ok (.iload 4, 2) := by decide +kernel
theorem dX6_takes_44 : decode cX6_takes 44 = .ok (.iload_n 3, 1) := by decide +kernel
theorem dX6_takes_45 : decode cX6_takes 45 = .ok (.iastore, 1) := by decide +kernel
theorem dX6_takes_46 : decode cX6_takes 46 = .ok (.aload_n 0, 1) := by decide +kernel
theorem dX6_takes_47 : decode cX6_takes 47 = .ok (.getfield 7, 3) := by decide +kernel
theorem dX6_takes_50 : decode cX6_takes 50 = .ok (.bipush 50, 2) := by decide +kernel
theorem dX6_takes_52 : decode cX6_takes 52 = .ok (.iload_n 1, 1) := by decide +kernel
theorem dX6_takes_53 : decode cX6_takes 53 = .ok (.iadd, 1) := by decide +kernel
theorem dX6_takes_54 : decode cX6_takes 54 = .ok (.aload_n 0, 1) := by decide +kernel
theorem dX6_takes_55 : decode cX6_takes 55 = .ok (.iload_n 2, 1) := by decide +kernel
theorem dX6_takes_56 : decode cX6_takes 56 = .ok (.iload_n 3, 1) := by decide +kernel
theorem dX6_takes_57 : decode cX6_takes 57 = .ok (.iconst 2, 1) := by decide +kernel
theorem dX6_takes_58 : decode cX6_takes 58 = .ok (.invokevirtual 39, 3) := by decide +kernel
theorem dX6_takes_61 : decode cX6_takes 61 = .ok (.iastore, 1) := by decide +kernel
theorem dX6_takes_62 : decode cX6_takes 62 = .ok (.aload_n 0, 1) := by decide +kernel
theorem dX6_takes_63 : decode cX6_takes 63 = .ok (.getfield 7, 3) := by decide +kernel
theorem dX6_takes_66 : decode cX6_takes 66 = .ok (.bipush 90, 2) := by decide +kernel
theorem dX6_takes_68 : decode cX6_takes 68 = .ok (.iload_n 1, 1) := by decide +kernel
theorem dX6_takes_69 : decode cX6_takes 69 = .ok (.iadd, 1) := by decide +kernel
theorem dX6_takes_70 : decode cX6_takes 70 = .ok (.dup2, 1) := by decide +kernel
theorem dX6_takes_71 : decode cX6_takes 71 = .ok (.iaload, 1) := by decide +kernel
theorem dX6_takes_72 : decode cX6_takes 72 = .ok (.iconst 1, 1) := by decide +kernel
theorem dX6_takes_73 : decode cX6_takes 73 = .ok (.iadd, 1) := by decide +kernel
theorem dX6_takes_74 : decode cX6_takes 74 = .ok (.iastore, 1) := by decide +kernel
theorem dX6_takes_75 : decode cX6_takes 75 = .ok (.iconst 1, 1) := by decide +kernel
theorem dX6_takes_76 : decode cX6_takes 76 = .ok (.ireturn, 1) := by decide +kernel
theorem dX6_keepFor_0 : decode cX6_keepFor 0 = .ok (.sipush 430, 3) := by decide +kernel
theorem dX6_keepFor_3 : decode cX6_keepFor 3 = .ok (.bipush 6, 2) := by decide +kernel
theorem dX6_keepFor_5 : decode cX6_keepFor 5 = .ok (.iload_n 1, 1) := by decide +kernel
theorem dX6_keepFor_6 : decode cX6_keepFor 6 = .ok (.imul, 1) := by decide +kernel
theorem dX6_keepFor_7 : decode cX6_keepFor 7 = .ok (.iadd, 1) := by decide +kernel
theorem dX6_keepFor_8 : decode cX6_keepFor 8 = .ok (.istore 4, 2) := by decide +kernel
theorem dX6_keepFor_10 : decode cX6_keepFor 10 = .ok (.aload_n 0, 1) := by decide +kernel
theorem dX6_keepFor_11 : decode cX6_keepFor 11 = .ok (.getfield 7, 3) := by decide +kernel
theorem dX6_keepFor_14 : decode cX6_keepFor 14 = .ok (.sipush 150, 3) := by decide +kernel
theorem dX6_keepFor_17 : decode cX6_keepFor 17 = .ok (.iload_n 1, 1) := by decide +kernel
theorem dX6_keepFor_18 : decode cX6_keepFor 18 = .ok (.iadd, 1) := by decide +kernel
theorem dX6_keepFor_19 : decode cX6_keepFor 19 = .ok (.iaload, 1) := by decide +kernel
theorem dX6_keepFor_20 : decode cX6_keepFor 20 = .ok (.iconst 3, 1) := by decide +kernel
theorem dX6_keepFor_21 : decode cX6_keepFor 21 = .ok (.if_icmp .ne 51, 3) := by decide +kernel
theorem dX6_keepFor_24 : decode cX6_keepFor 24 = .ok (.iconst 0, 1) := by decide +kernel
theorem dX6_keepFor_25 : decode cX6_keepFor 25 = .ok (.istore 5, 2) := by decide +kernel
theorem dX6_keepFor_27 : decode cX6_keepFor 27 = .ok (.iload 5, 2) := by decide +kernel
theorem dX6_keepFor_29 : decode cX6_keepFor 29 = .ok (.iconst 4, 1) := by decide +kernel
theorem dX6_keepFor_30 : decode cX6_keepFor 30 = .ok (.if_icmp .ge 31, 3) := by decide +kernel
theorem dX6_keepFor_33 : decode cX6_keepFor 33 = .ok (.aload_n 0, 1) := by decide +kernel
theorem dX6_keepFor_34 : decode cX6_keepFor 34 = .ok (.getfield 7, 3) := by decide +kernel
theorem dX6_keepFor_37 : decode cX6_keepFor 37 = .ok (.iload 4, 2) := by decide +kernel
theorem dX6_keepFor_39 : decode cX6_keepFor 39 = .ok (.iload 5, 2) := by decide +kernel
theorem dX6_keepFor_41 : decode cX6_keepFor 41 = .ok (.iadd, 1) := by decide +kernel
theorem dX6_keepFor_42 : decode cX6_keepFor 42 = .ok (.aload_n 0, 1) := by decide +kernel
theorem dX6_keepFor_43 : decode cX6_keepFor 43 = .ok (.getfield 7, 3) := by decide +kernel
theorem dX6_keepFor_46 : decode cX6_keepFor 46 = .ok (.iload 4, 2) := by decide +kernel
theorem dX6_keepFor_48 : decode cX6_keepFor 48 = .ok (.iload 5, 2) := by decide +kernel
theorem dX6_keepFor_50 : decode cX6_keepFor 50 = .ok (.iadd, 1) := by decide +kernel
theorem dX6_keepFor_51 : decode cX6_keepFor 51 = .ok (.iconst 2, 1) := by decide +kernel
theorem dX6_keepFor_52 : decode cX6_keepFor 52 = .ok (.iadd, 1) := by decide +kernel
theorem dX6_keepFor_53 : decode cX6_keepFor 53 = .ok (.iaload, 1) := by decide +kernel
theorem dX6_keepFor_54 : decode cX6_keepFor 54 = .ok (.iastore, 1) := by decide +kernel
theorem dX6_keepFor_55 : decode cX6_keepFor 55 = .ok (.iinc 5 1, 3) := by decide +kernel
theorem dX6_keepFor_58 : decode cX6_keepFor 58 = .ok (.goto (-31), 3) := by decide +kernel
theorem dX6_keepFor_61 : decode cX6_keepFor 61 = .ok (.aload_n 0, 1) := by decide +kernel
theorem dX6_keepFor_62 : decode cX6_keepFor 62 = .ok (.getfield 7, 3) := by decide +kernel
theorem dX6_keepFor_65 : decode cX6_keepFor 65 = .ok (.sipush 150, 3) := by decide +kernel
theorem dX6_keepFor_68 : decode cX6_keepFor 68 = .ok (.iload_n 1, 1) := by decide +kernel
theorem dX6_keepFor_69 : decode cX6_keepFor 69 = .ok (.iadd, 1) := by decide +kernel
theorem dX6_keepFor_70 : decode cX6_keepFor 70 = .ok (.iconst 2, 1) := by decide +kernel
theorem dX6_keepFor_71 : decode cX6_keepFor 71 = .ok (.iastore, 1) := by decide +kernel
theorem dX6_keepFor_72 : decode cX6_keepFor 72 = .ok (.aload_n 0, 1) := by decide +kernel
theorem dX6_keepFor_73 : decode cX6_keepFor 73 = .ok (.getfield 7, 3) := by decide +kernel
theorem dX6_keepFor_76 : decode cX6_keepFor 76 = .ok (.iload 4, 2) := by decide +kernel
theorem dX6_keepFor_78 : decode cX6_keepFor 78 = .ok (.iconst 2, 1) := by decide +kernel
theorem dX6_keepFor_79 : decode cX6_keepFor 79 = .ok (.aload_n 0, 1) := by decide +kernel
theorem dX6_keepFor_80 : decode cX6_keepFor 80 = .ok (.getfield 7, 3) := by decide +kernel
theorem dX6_keepFor_83 : decode cX6_keepFor 83 = .ok (.sipush 150, 3) := by decide +kernel
theorem dX6_keepFor_86 : decode cX6_keepFor 86 = .ok (.iload_n 1, 1) := by decide +kernel
theorem dX6_keepFor_87 : decode cX6_keepFor 87 = .ok (.iadd, 1) := by decide +kernel
theorem dX6_keepFor_88 : decode cX6_keepFor 88 = .ok (.iaload, 1) := by decide +kernel
theorem dX6_keepFor_89 : decode cX6_keepFor 89 = .ok (.imul, 1) := by decide +kernel
theorem dX6_keepFor_90 : decode cX6_keepFor 90 = .ok (.iadd, 1) := by decide +kernel
theorem dX6_keepFor_91 : decode cX6_keepFor 91 = .ok (.iload_n 2, 1) := by decide +kernel
theorem dX6_keepFor_92 : decode cX6_keepFor 92 = .ok (.iastore, 1) := by decide +kernel
theorem dX6_keepFor_93 : decode cX6_keepFor 93 = .ok (.aload_n 0, 1) := by decide +kernel
theorem dX6_keepFor_94 : decode cX6_keepFor 94 = .ok (.getfield 7, 3) := by decide +kernel
theorem dX6_keepFor_97 : decode cX6_keepFor 97 = .ok (.iload 4, 2) := by decide +kernel
theorem dX6_keepFor_99 : decode cX6_keepFor 99 = .ok (.iconst 2, 1) := by decide +kernel
theorem dX6_keepFor_100 : decode cX6_keepFor 100 = .ok (.aload_n 0, 1) := by decide +kernel
theorem dX6_keepFor_101 : decode cX6_keepFor 101 = .ok (.getfield 7, 3) := by decide +kernel
theorem dX6_keepFor_104 : decode cX6_keepFor 104 = .ok (.sipush 150, 3) := by decide +kernel
theorem dX6_keepFor_107 : decode cX6_keepFor 107 = .ok (.iload_n 1, 1) := by decide +kernel
theorem dX6_keepFor_108 : decode cX6_keepFor 108 = .ok (.iadd, 1) := by decide +kernel
theorem dX6_keepFor_109 : decode cX6_keepFor 109 = .ok (.iaload, 1) := by decide +kernel
theorem dX6_keepFor_110 : decode cX6_keepFor 110 = .ok (.imul, 1) := by decide +kernel
theorem dX6_keepFor_111 : decode cX6_keepFor 111 = .ok (.iadd, 1) := by decide +kernel
theorem dX6_keepFor_112 : decode cX6_keepFor 112 = .ok (.iconst 1, 1) := by decide +kernel
theorem dX6_keepFor_113 : decode cX6_keepFor 113 = .ok (.iadd, 1) := by decide +kernel
theorem dX6_keepFor_114 : decode cX6_keepFor 114 = .ok (.iload_n 3, 1) := by decide +kernel
theorem dX6_keepFor_115 : decode cX6_keepFor 115 = .ok (.iastore, 1) := by decide +kernel
theorem dX6_keepFor_116 : decode cX6_keepFor 116 = .ok (.aload_n 0, 1) := by decide +kernel
theorem dX6_keepFor_117 : decode cX6_keepFor 117 = .ok (.getfield 7, 3) := by decide +kernel
theorem dX6_keepFor_120 : decode cX6_keepFor 120 = .ok (.sipush 150, 3) := by decide +kernel
theorem dX6_keepFor_123 : decode cX6_keepFor 123 = .ok (.iload_n 1, 1) := by decide +kernel
theorem dX6_keepFor_124 : decode cX6_keepFor 124 = .ok (.iadd, 1) := by decide +kernel
theorem dX6_keepFor_125 : decode cX6_keepFor 125 = .ok (.dup2, 1) := by decide +kernel
theorem dX6_keepFor_126 : decode cX6_keepFor 126 = .ok (.iaload, 1) := by decide +kernel
theorem dX6_keepFor_127 : decode cX6_keepFor 127 = .ok (.iconst 1, 1) := by decide +kernel
theorem dX6_keepFor_128 : decode cX6_keepFor 128 = .ok (.iadd, 1) := by decide +kernel
theorem dX6_keepFor_129 : decode cX6_keepFor 129 = .ok (.iastore, 1) := by decide +kernel
theorem dX6_keepFor_130 : decode cX6_keepFor 130 = .ok (.return_, 1) := by decide +kernel
set_option maxRecDepth 20000 in
theorem ggX6_hear_X6_knows : GoodIn wsX6_hear wsX6_knows := goodIn_r _ [6, 1, 7, 8, 9, 5, 10, 11, 12, 13, 42, 43, 44] (by decide +kernel) (by decide +kernel)
set_option maxRecDepth 20000 in
theorem gX6_hear_X6_knows : GoodIn wsX6_hear (wsV RX6 58 RX6 yX6_knows wsX6_knows) := goodIn_app (goodIn_of _ (by decide +kernel)) ggX6_hear_X6_knows
set_option maxRecDepth 20000 in
theorem ggX6_hear_X6_hasInMind : GoodIn wsX6_hear wsX6_hasInMind := goodIn_r _ [17, 1, 42, 43, 44] (by decide +kernel) (by decide +kernel)
set_option maxRecDepth 20000 in
theorem gX6_hear_X6_hasInMind : GoodIn wsX6_hear (wsV RX6 61 RX6 yX6_hasInMind wsX6_hasInMind) := goodIn_app (goodIn_of _ (by decide +kernel)) ggX6_hear_X6_hasInMind
set_option maxRecDepth 20000 in
theorem ggX6_hear_X6_remember : GoodIn wsX6_hear wsX6_remember := goodIn_r _ [21, 1, 42, 43, 44] (by decide +kernel) (by decide +kernel)
set_option maxRecDepth 20000 in
theorem gX6_hear_X6_remember : GoodIn wsX6_hear (wsV RX6 50 RX6 yX6_remember wsX6_remember) := goodIn_app (goodIn_of _ (by decide +kernel)) ggX6_hear_X6_remember
set_option maxRecDepth 20000 in
theorem ggX6_hear_X6_isMeant : GoodIn wsX6_hear wsX6_isMeant := goodIn_r _ [25, 1, 7, 8, 9, 5, 10, 11, 12, 13, 42, 43, 44] (by decide +kernel) (by decide +kernel)
set_option maxRecDepth 20000 in
theorem gX6_hear_X6_isMeant : GoodIn wsX6_hear (wsV RX6 64 RX6 yX6_isMeant wsX6_isMeant) := goodIn_app (goodIn_of _ (by decide +kernel)) ggX6_hear_X6_isMeant
set_option maxRecDepth 20000 in
theorem ggX6_hear_X6_takes : GoodIn wsX6_hear wsX6_takes := goodIn_r _ [29, 1, 7, 8, 9, 5, 10, 42, 43, 44] (by decide +kernel) (by decide +kernel)
set_option maxRecDepth 20000 in
theorem gX6_hear_X6_takes : GoodIn wsX6_hear (wsV RX6 67 RX6 yX6_takes wsX6_takes) := goodIn_app (goodIn_of _ (by decide +kernel)) ggX6_hear_X6_takes
set_option maxRecDepth 20000 in
theorem ggX6_hear_X6_sleeps : GoodIn wsX6_hear wsX6_sleeps := goodIn_r _ [33, 1, 42, 43, 44] (by decide +kernel) (by decide +kernel)
set_option maxRecDepth 20000 in
theorem gX6_hear_X6_sleeps : GoodIn wsX6_hear (wsV RX6 36 RX6 yX6_sleeps wsX6_sleeps) := goodIn_app (goodIn_of _ (by decide +kernel)) ggX6_hear_X6_sleeps
set_option maxRecDepth 20000 in
theorem ggX6_hear_X6_keepFor : GoodIn wsX6_hear wsX6_keepFor := goodIn_r _ [37, 1, 42, 43, 44] (by decide +kernel) (by decide +kernel)
set_option maxRecDepth 20000 in
theorem gX6_hear_X6_keepFor : GoodIn wsX6_hear (wsV RX6 70 RX6 yX6_keepFor wsX6_keepFor) := goodIn_app (goodIn_of _ (by decide +kernel)) ggX6_hear_X6_keepFor
set_option maxRecDepth 20000 in
theorem ggX6_hear_X6_addToAir : GoodIn wsX6_hear wsX6_addToAir := goodIn_r _ [41, 1, 42, 43, 44] (by decide +kernel) (by decide +kernel)
set_option maxRecDepth 20000 in
theorem gX6_hear_X6_addToAir : GoodIn wsX6_hear (wsV RX6 54 RX6 yX6_addToAir wsX6_addToAir) := goodIn_app (goodIn_of _ (by decide +kernel)) ggX6_hear_X6_addToAir
theorem dX6_hear_0 : decode cX6_hear 0 = .ok (.aload_n 0, 1) := by decide +kernel
theorem dX6_hear_1 : decode cX6_hear 1 = .ok (.iload_n 1, 1) := by decide +kernel
theorem dX6_hear_2 : decode cX6_hear 2 = .ok (.iload_n 2, 1) := by decide +kernel
theorem dX6_hear_3 : decode cX6_hear 3 = .ok (.iload_n 3, 1) := by decide +kernel
theorem dX6_hear_4 : decode cX6_hear 4 = .ok (.invokevirtual 58, 3) := by decide +kernel
theorem dX6_hear_7 : decode cX6_hear 7 = .ok (.ifCond .ne 17, 3) := by decide +kernel
theorem dX6_hear_10 : decode cX6_hear 10 = .ok (.aload_n 0, 1) := by decide +kernel
theorem dX6_hear_11 : decode cX6_hear 11 = .ok (.getfield 7, 3) := by decide +kernel
theorem dX6_hear_14 : decode cX6_hear 14 = .ok (.bipush 110, 2) := by decide +kernel
theorem dX6_hear_16 : decode cX6_hear 16 = .ok (.iload_n 1, 1) := by decide +kernel
theorem dX6_hear_17 : decode cX6_hear 17 = .ok (.iadd, 1) := by decide +kernel
theorem dX6_hear_18 : decode cX6_hear 18 = .ok (.dup2, 1) := by decide +kernel
theorem dX6_hear_19 : decode cX6_hear 19 = .ok (.iaload, 1) := by decide +kernel
theorem dX6_hear_20 : decode cX6_hear 20 = .ok (.iconst 1, 1) := by decide +kernel
theorem dX6_hear_21 : decode cX6_hear 21 = .ok (.iadd, 1) := by decide +kernel
theorem dX6_hear_22 : decode cX6_hear 22 = .ok (.iastore, 1) := by decide +kernel
theorem dX6_hear_23 : decode cX6_hear 23 = .ok (.return_, 1) := by decide +kernel
theorem dX6_hear_24 : decode cX6_hear 24 = .ok (.aload_n 0, 1) := by decide +kernel
theorem dX6_hear_25 : decode cX6_hear 25 = .ok (.iload_n 1, 1) := by decide +kernel
theorem dX6_hear_26 : decode cX6_hear 26 = .ok (.iload_n 2, 1) := by decide +kernel
theorem dX6_hear_27 : decode cX6_hear 27 = .ok (.iload_n 3, 1) := by decide +kernel
theorem dX6_hear_28 : decode cX6_hear 28 = .ok (.invokevirtual 61, 3) := by decide +kernel
theorem dX6_hear_31 : decode cX6_hear 31 = .ok (.ifCond .eq 17, 3) := by decide +kernel
theorem dX6_hear_34 : decode cX6_hear 34 = .ok (.aload_n 0, 1) := by decide +kernel
theorem dX6_hear_35 : decode cX6_hear 35 = .ok (.getfield 7, 3) := by decide +kernel
theorem dX6_hear_38 : decode cX6_hear 38 = .ok (.bipush 120, 2) := by decide +kernel
theorem dX6_hear_40 : decode cX6_hear 40 = .ok (.iload_n 1, 1) := by decide +kernel
theorem dX6_hear_41 : decode cX6_hear 41 = .ok (.iadd, 1) := by decide +kernel
theorem dX6_hear_42 : decode cX6_hear 42 = .ok (.dup2, 1) := by decide +kernel
theorem dX6_hear_43 : decode cX6_hear 43 = .ok (.iaload, 1) := by decide +kernel
theorem dX6_hear_44 : decode cX6_hear 44 = .ok (.iconst 1, 1) := by decide +kernel
theorem dX6_hear_45 : decode cX6_hear 45 = .ok (.iadd, 1) := by decide +kernel
theorem dX6_hear_46 : decode cX6_hear 46 = .ok (.iastore, 1) := by decide +kernel
theorem dX6_hear_47 : decode cX6_hear 47 = .ok (.return_, 1) := by decide +kernel
theorem dX6_hear_48 : decode cX6_hear 48 = .ok (.aload_n 0, 1) := by decide +kernel
theorem dX6_hear_49 : decode cX6_hear 49 = .ok (.getfield 7, 3) := by decide +kernel
theorem dX6_hear_52 : decode cX6_hear 52 = .ok (.sipush 130, 3) := by decide +kernel
theorem dX6_hear_55 : decode cX6_hear 55 = .ok (.iload_n 1, 1) := by decide +kernel
theorem dX6_hear_56 : decode cX6_hear 56 = .ok (.iadd, 1) := by decide +kernel
theorem dX6_hear_57 : decode cX6_hear 57 = .ok (.dup2, 1) := by decide +kernel
theorem dX6_hear_58 : decode cX6_hear 58 = .ok (.iaload, 1) := by decide +kernel
theorem dX6_hear_59 : decode cX6_hear 59 = .ok (.iconst 1, 1) := by decide +kernel
theorem dX6_hear_60 : decode cX6_hear 60 = .ok (.iadd, 1) := by decide +kernel
theorem dX6_hear_61 : decode cX6_hear 61 = .ok (.iastore, 1) := by decide +kernel
theorem dX6_hear_62 : decode cX6_hear 62 = .ok (.aload_n 0, 1) := by decide +kernel
theorem dX6_hear_63 : decode cX6_hear 63 = .ok (.iload_n 1, 1) := by decide +kernel
theorem dX6_hear_64 : decode cX6_hear 64 = .ok (.iload_n 2, 1) := by decide +kernel
theorem dX6_hear_65 : decode cX6_hear 65 = .ok (.iload_n 3, 1) := by decide +kernel
theorem dX6_hear_66 : decode cX6_hear 66 = .ok (.invokevirtual 50, 3) := by decide +kernel
theorem dX6_hear_69 : decode cX6_hear 69 = .ok (.iload_n 1, 1) := by decide +kernel
theorem dX6_hear_70 : decode cX6_hear 70 = .ok (.iload_n 2, 1) := by decide +kernel
theorem dX6_hear_71 : decode cX6_hear 71 = .ok (.if_icmp .ne 4, 3) := by decide +kernel
theorem dX6_hear_74 : decode cX6_hear 74 = .ok (.return_, 1) := by decide +kernel
theorem dX6_hear_75 : decode cX6_hear 75 = .ok (.aload_n 0, 1) := by decide +kernel
theorem dX6_hear_76 : decode cX6_hear 76 = .ok (.iload_n 1, 1) := by decide +kernel
theorem dX6_hear_77 : decode cX6_hear 77 = .ok (.iload_n 2, 1) := by decide +kernel
theorem dX6_hear_78 : decode cX6_hear 78 = .ok (.iload_n 3, 1) := by decide +kernel
theorem dX6_hear_79 : decode cX6_hear 79 = .ok (.invokevirtual 64, 3) := by decide +kernel
theorem dX6_hear_82 : decode cX6_hear 82 = .ok (.ifCond .eq 11, 3) := by decide +kernel
theorem dX6_hear_85 : decode cX6_hear 85 = .ok (.aload_n 0, 1) := by decide +kernel
theorem dX6_hear_86 : decode cX6_hear 86 = .ok (.iload_n 1, 1) := by decide +kernel
theorem dX6_hear_87 : decode cX6_hear 87 = .ok (.iload_n 2, 1) := by decide +kernel
theorem dX6_hear_88 : decode cX6_hear 88 = .ok (.iload_n 3, 1) := by decide +kernel
theorem dX6_hear_89 : decode cX6_hear 89 = .ok (.invokevirtual 67, 3) := by decide +kernel
theorem dX6_hear_92 : decode cX6_hear 92 = .ok (.pop, 1) := by decide +kernel
theorem dX6_hear_93 : decode cX6_hear 93 = .ok (.iconst 0, 1) := by decide +kernel
theorem dX6_hear_94 : decode cX6_hear 94 = .ok (.istore 5, 2) := by decide +kernel
theorem dX6_hear_96 : decode cX6_hear 96 = .ok (.iload 5, 2) := by decide +kernel
theorem dX6_hear_98 : decode cX6_hear 98 = .ok (.bipush 10, 2) := by decide +kernel
theorem dX6_hear_100 : decode cX6_hear 100 = .ok (.if_icmp .ge 57, 3) := by decide +kernel
theorem dX6_hear_103 : decode cX6_hear 103 = .ok (.aload_n 0, 1) := by decide +kernel
theorem dX6_hear_104 : decode cX6_hear 104 = .ok (.iload 5, 2) := by decide +kernel
theorem dX6_hear_106 : decode cX6_hear 106 = .ok (.invokevirtual 36, 3) := by decide +kernel
theorem dX6_hear_109 : decode cX6_hear 109 = .ok (.ifCond .eq 42, 3) := by decide +kernel
theorem dX6_hear_112 : decode cX6_hear 112 = .ok (.aload_n 0, 1) := by decide +kernel
theorem dX6_hear_113 : decode cX6_hear 113 = .ok (.getfield 7, 3) := by decide +kernel
theorem dX6_hear_116 : decode cX6_hear 116 = .ok (.bipush 70, 2) := by decide +kernel
theorem dX6_hear_118 : decode cX6_hear 118 = .ok (.iload 5, 2) := by decide +kernel
theorem dX6_hear_120 : decode cX6_hear 120 = .ok (.iadd, 1) := by decide +kernel
theorem dX6_hear_121 : decode cX6_hear 121 = .ok (.iaload, 1) := by decide +kernel
theorem dX6_hear_122 : decode cX6_hear 122 = .ok (.iload_n 1, 1) := by decide +kernel
theorem dX6_hear_123 : decode cX6_hear 123 = .ok (.if_icmp .ne 28, 3) := by decide +kernel
theorem dX6_hear_126 : decode cX6_hear 126 = .ok (.aload_n 0, 1) := by decide +kernel
theorem dX6_hear_127 : decode cX6_hear 127 = .ok (.iload 5, 2) := by decide +kernel
theorem dX6_hear_129 : decode cX6_hear 129 = .ok (.iload_n 2, 1) := by decide +kernel
theorem dX6_hear_130 : decode cX6_hear 130 = .ok (.iload_n 3, 1) := by decide +kernel
theorem dX6_hear_131 : decode cX6_hear 131 = .ok (.invokevirtual 64, 3) := by decide +kernel
theorem dX6_hear_134 : decode cX6_hear 134 = .ok (.ifCond .eq 17, 3) := by decide +kernel
theorem dX6_hear_137 : decode cX6_hear 137 = .ok (.iload 5, 2) := by decide +kernel
theorem dX6_hear_139 : decode cX6_hear 139 = .ok (.iload_n 2, 1) := by decide +kernel
theorem dX6_hear_140 : decode cX6_hear 140 = .ok (.if_icmp .eq 11, 3) := by decide +kernel
theorem dX6_hear_143 : decode cX6_hear 143 = .ok (.aload_n 0, 1) := by decide +kernel
theorem dX6_hear_144 : decode cX6_hear 144 = .ok (.iload 5, 2) := by decide +kernel
theorem dX6_hear_146 : decode cX6_hear 146 = .ok (.iload_n 2, 1) := by decide +kernel
theorem dX6_hear_147 : decode cX6_hear 147 = .ok (.iload_n 3, 1) := by decide +kernel
theorem dX6_hear_148 : decode cX6_hear 148 = .ok (.invokevirtual 70, 3) := by decide +kernel
theorem dX6_hear_151 : decode cX6_hear 151 = .ok (.iinc 5 1, 3) := by decide +kernel
theorem dX6_hear_154 : decode cX6_hear 154 = .ok (.goto (-58), 3) := by decide +kernel
theorem dX6_hear_157 : decode cX6_hear 157 = .ok (.iload 4, 2) := by decide +kernel
theorem dX6_hear_159 : decode cX6_hear 159 = .ok (.iconst 1, 1) := by decide +kernel
theorem dX6_hear_160 : decode cX6_hear 160 = .ok (.if_icmp .le 73, 3) := by decide +kernel
theorem dX6_hear_163 : decode cX6_hear 163 = .ok (.aload_n 0, 1) := by decide +kernel
theorem dX6_hear_164 : decode cX6_hear 164 = .ok (.getfield 7, 3) := by decide +kernel
theorem dX6_hear_167 : decode cX6_hear 167 = .ok (.bipush 20, 2) := by decide +kernel
theorem dX6_hear_169 : decode cX6_hear 169 = .ok (.iload_n 1, 1) := by decide +kernel
theorem dX6_hear_170 : decode cX6_hear 170 = .ok (.iadd, 1) := by decide +kernel
theorem dX6_hear_171 : decode cX6_hear 171 = .ok (.iaload, 1) := by decide +kernel
theorem dX6_hear_172 : decode cX6_hear 172 = .ok (.iconst 1, 1) := by decide +kernel
theorem dX6_hear_173 : decode cX6_hear 173 = .ok (.if_icmp .ne 60, 3) := by decide +kernel
theorem dX6_hear_176 : decode cX6_hear 176 = .ok (.aload_n 0, 1) := by decide +kernel
theorem dX6_hear_177 : decode cX6_hear 177 = .ok (.getfield 7, 3) := by decide +kernel
theorem dX6_hear_180 : decode cX6_hear 180 = .ok (.sipush 6815, 3) := by decide +kernel
theorem dX6_hear_183 : decode cX6_hear 183 = .ok (.iaload, 1) := by decide +kernel
theorem dX6_hear_184 : decode cX6_hear 184 = .ok (.bipush 64, 2) := by decide +kernel
theorem dX6_hear_186 : decode cX6_hear 186 = .ok (.if_icmp .ne 18, 3) := by decide +kernel
theorem dX6_hear_189 : decode cX6_hear 189 = .ok (.aload_n 0, 1) := by decide +kernel
theorem dX6_hear_190 : decode cX6_hear 190 = .ok (.getfield 7, 3) := by decide +kernel
theorem dX6_hear_193 : decode cX6_hear 193 = .ok (.sipush 6817, 3) := by decide +kernel
theorem dX6_hear_196 : decode cX6_hear 196 = .ok (.dup2, 1) := by decide +kernel
theorem dX6_hear_197 : decode cX6_hear 197 = .ok (.iaload, 1) := by decide +kernel
theorem dX6_hear_198 : decode cX6_hear 198 = .ok (.iconst 1, 1) := by decide +kernel
theorem dX6_hear_199 : decode cX6_hear 199 = .ok (.iadd, 1) := by decide +kernel
theorem dX6_hear_200 : decode cX6_hear 200 = .ok (.iastore, 1) := by decide +kernel
theorem dX6_hear_201 : decode cX6_hear 201 = .ok (.goto 32, 3) := by decide +kernel
theorem dX6_hear_204 : decode cX6_hear 204 = .ok (.aload_n 0, 1) := by decide +kernel
theorem dX6_hear_205 : decode cX6_hear 205 = .ok (.iload_n 1, 1) := by decide +kernel
theorem dX6_hear_206 : decode cX6_hear 206 = .ok (.aload_n 0, 1) := by decide +kernel
theorem dX6_hear_207 : decode cX6_hear 207 = .ok (.getfield 7, 3) := by decide +kernel
theorem dX6_hear_210 : decode cX6_hear 210 = .ok (.sipush 6810, 3) := by decide +kernel
theorem dX6_hear_213 : decode cX6_hear 213 = .ok (.iaload, 1) := by decide +kernel
theorem dX6_hear_214 : decode cX6_hear 214 = .ok (.aload_n 0, 1) := by decide +kernel
theorem dX6_hear_215 : decode cX6_hear 215 = .ok (.getfield 7, 3) := by decide +kernel
theorem dX6_hear_218 : decode cX6_hear 218 = .ok (.bipush 10, 2) := by decide +kernel
theorem dX6_hear_220 : decode cX6_hear 220 = .ok (.iload_n 1, 1) := by decide +kernel
theorem dX6_hear_221 : decode cX6_hear 221 = .ok (.iadd, 1) := by decide +kernel
theorem dX6_hear_222 : decode cX6_hear 222 = .ok (.iaload, 1) := by decide +kernel
theorem dX6_hear_223 : decode cX6_hear 223 = .ok (.iadd, 1) := by decide +kernel
theorem dX6_hear_224 : decode cX6_hear 224 = .ok (.iload_n 2, 1) := by decide +kernel
theorem dX6_hear_225 : decode cX6_hear 225 = .ok (.iload_n 3, 1) := by decide +kernel
theorem dX6_hear_226 : decode cX6_hear 226 = .ok (.iload 4, 2) := by decide +kernel
theorem dX6_hear_228 : decode cX6_hear 228 = .ok (.iconst 1, 1) := by decide +kernel
theorem dX6_hear_229 : decode cX6_hear 229 = .ok (.isub, 1) := by decide +kernel
theorem dX6_hear_230 : decode cX6_hear 230 = .ok (.invokevirtual 54, 3) := by decide +kernel
theorem dX6_hear_233 : decode cX6_hear 233 = .ok (.return_, 1) := by decide +kernel
set_option maxRecDepth 20000 in
theorem ggX6_sleep_X6_isLamp : GoodIn wsX6_sleep wsX6_isLamp := goodIn_r _ [5, 6, 7, 4, 8] (by decide +kernel) (by decide +kernel)
set_option maxRecDepth 20000 in
theorem gX6_sleep_X6_isLamp : GoodIn wsX6_sleep (va_wsS RX6 24 yX6_isLamp wsX6_isLamp) := goodIn_app (goodIn_of _ (by decide +kernel)) ggX6_sleep_X6_isLamp
set_option maxRecDepth 20000 in
theorem ggX6_sleep_X6_in : GoodIn wsX6_sleep wsX6_in := goodIn_r _ [8] (by decide +kernel) (by decide +kernel)
set_option maxRecDepth 20000 in
theorem gX6_sleep_X6_in : GoodIn wsX6_sleep (va_wsS RX6 20 yX6_in wsX6_in) := goodIn_app (goodIn_of _ (by decide +kernel)) ggX6_sleep_X6_in
set_option maxRecDepth 20000 in
theorem ggX6_sleep_X6_sleeps : GoodIn wsX6_sleep wsX6_sleeps := goodIn_r _ [12, 1, 28, 29, 30] (by decide +kernel) (by decide +kernel)
set_option maxRecDepth 20000 in
theorem gX6_sleep_X6_sleeps : GoodIn wsX6_sleep (wsV RX6 36 RX6 yX6_sleeps wsX6_sleeps) := goodIn_app (goodIn_of _ (by decide +kernel)) ggX6_sleep_X6_sleeps
set_option maxRecDepth 20000 in
theorem ggX6_sleep_X6_knows : GoodIn wsX6_sleep wsX6_knows := goodIn_r _ [16, 1, 17, 18, 19, 4, 20, 21, 22, 23, 28, 29, 30] (by decide +kernel) (by decide +kernel)
set_option maxRecDepth 20000 in
theorem gX6_sleep_X6_knows : GoodIn wsX6_sleep (wsV RX6 58 RX6 yX6_knows wsX6_knows) := goodIn_app (goodIn_of _ (by decide +kernel)) ggX6_sleep_X6_knows
set_option maxRecDepth 20000 in
theorem ggX6_sleep_X6_takes : GoodIn wsX6_sleep wsX6_takes := goodIn_r _ [27, 1, 17, 18, 19, 4, 20, 28, 29, 30] (by decide +kernel) (by decide +kernel)
set_option maxRecDepth 20000 in
theorem gX6_sleep_X6_takes : GoodIn wsX6_sleep (wsV RX6 67 RX6 yX6_takes wsX6_takes) := goodIn_app (goodIn_of _ (by decide +kernel)) ggX6_sleep_X6_takes
theorem dX6_sleep_0 : decode cX6_sleep 0 = .ok (.iload_n 1, 1) := by decide +kernel
theorem dX6_sleep_1 : decode cX6_sleep 1 = .ok (.invokestatic 24, 3) := by decide +kernel
theorem dX6_sleep_4 : decode cX6_sleep 4 = .ok (.ifCond .ne 5, 3) := by decide +kernel
theorem dX6_sleep_7 : decode cX6_sleep 7 = .ok (.iconst (-1), 1) := by decide +kernel
theorem dX6_sleep_8 : decode cX6_sleep 8 = .ok (.ireturn, 1) := by decide +kernel
theorem dX6_sleep_9 : decode cX6_sleep 9 = .ok (.iload_n 2, 1) := by decide +kernel
theorem dX6_sleep_10 : decode cX6_sleep 10 = .ok (.iconst 0, 1) := by decide +kernel
theorem dX6_sleep_11 : decode cX6_sleep 11 = .ok (.iconst 1, 1) := by decide +kernel
theorem dX6_sleep_12 : decode cX6_sleep 12 = .ok (.invokestatic 20, 3) := by decide +kernel
theorem dX6_sleep_15 : decode cX6_sleep 15 = .ok (.ifCond .ne 6, 3) := by decide +kernel
theorem dX6_sleep_18 : decode cX6_sleep 18 = .ok (.bipush (-2), 2) := by decide +kernel
theorem dX6_sleep_20 : decode cX6_sleep 20 = .ok (.ireturn, 1) := by decide +kernel
theorem dX6_sleep_21 : decode cX6_sleep 21 = .ok (.iload_n 2, 1) := by decide +kernel
theorem dX6_sleep_22 : decode cX6_sleep 22 = .ok (.iconst 1, 1) := by decide +kernel
theorem dX6_sleep_23 : decode cX6_sleep 23 = .ok (.if_icmp .ne 18, 3) := by decide +kernel
theorem dX6_sleep_26 : decode cX6_sleep 26 = .ok (.aload_n 0, 1) := by decide +kernel
theorem dX6_sleep_27 : decode cX6_sleep 27 = .ok (.getfield 7, 3) := by decide +kernel
theorem dX6_sleep_30 : decode cX6_sleep 30 = .ok (.bipush 70, 2) := by decide +kernel
theorem dX6_sleep_32 : decode cX6_sleep 32 = .ok (.iload_n 1, 1) := by decide +kernel
theorem dX6_sleep_33 : decode cX6_sleep 33 = .ok (.iadd, 1) := by decide +kernel
theorem dX6_sleep_34 : decode cX6_sleep 34 = .ok (.iaload, 1) := by decide +kernel
theorem dX6_sleep_35 : decode cX6_sleep 35 = .ok (.ifCond .ge 6, 3) := by decide +kernel
theorem dX6_sleep_38 : decode cX6_sleep 38 = .ok (.bipush (-5), 2) := by decide +kernel
theorem dX6_sleep_40 : decode cX6_sleep 40 = .ok (.ireturn, 1) := by decide +kernel
theorem dX6_sleep_41 : decode cX6_sleep 41 = .ok (.iload_n 2, 1) := by decide +kernel
theorem dX6_sleep_42 : decode cX6_sleep 42 = .ok (.ifCond .ne 15, 3) := by decide +kernel
theorem dX6_sleep_45 : decode cX6_sleep 45 = .ok (.aload_n 0, 1) := by decide +kernel
theorem dX6_sleep_46 : decode cX6_sleep 46 = .ok (.iload_n 1, 1) := by decide +kernel
theorem dX6_sleep_47 : decode cX6_sleep 47 = .ok (.invokevirtual 36, 3) := by decide +kernel
theorem dX6_sleep_50 : decode cX6_sleep 50 = .ok (.ifCond .eq 7, 3) := by decide +kernel
theorem dX6_sleep_53 : decode cX6_sleep 53 = .ok (.iconst 1, 1) := by decide +kernel
theorem dX6_sleep_54 : decode cX6_sleep 54 = .ok (.goto 4, 3) := by decide +kernel
theorem dX6_sleep_57 : decode cX6_sleep 57 = .ok (.iconst 0, 1) := by decide +kernel
theorem dX6_sleep_58 : decode cX6_sleep 58 = .ok (.istore_n 3, 1) := by decide +kernel
theorem dX6_sleep_59 : decode cX6_sleep 59 = .ok (.aload_n 0, 1) := by decide +kernel
theorem dX6_sleep_60 : decode cX6_sleep 60 = .ok (.getfield 7, 3) := by decide +kernel
theorem dX6_sleep_63 : decode cX6_sleep 63 = .ok (.bipush 60, 2) := by decide +kernel
theorem dX6_sleep_65 : decode cX6_sleep 65 = .ok (.iload_n 1, 1) := by decide +kernel
theorem dX6_sleep_66 : decode cX6_sleep 66 = .ok (.iadd, 1) := by decide +kernel
theorem dX6_sleep_67 : decode cX6_sleep 67 = .ok (.iload_n 2, 1) := by decide +kernel
theorem dX6_sleep_68 : decode cX6_sleep 68 = .ok (.iastore, 1) := by decide +kernel
theorem dX6_sleep_69 : decode cX6_sleep 69 = .ok (.iconst 0, 1) := by decide +kernel
theorem dX6_sleep_70 : decode cX6_sleep 70 = .ok (.istore 4, 2) := by decide +kernel
theorem dX6_sleep_72 : decode cX6_sleep 72 = .ok (.iconst 0, 1) := by decide +kernel
theorem dX6_sleep_73 : decode cX6_sleep 73 = .ok (.istore 5, 2) := by decide +kernel
theorem dX6_sleep_75 : decode cX6_sleep 75 = .ok (.iload 5, 2) := by decide +kernel
theorem dX6_sleep_77 : decode cX6_sleep 77 = .ok (.aload_n 0, 1) := by decide +kernel
theorem dX6_sleep_78 : decode cX6_sleep 78 = .ok (.getfield 7, 3) := by decide +kernel
theorem dX6_sleep_81 : decode cX6_sleep 81 = .ok (.sipush 150, 3) := by decide +kernel
theorem dX6_sleep_84 : decode cX6_sleep 84 = .ok (.iload_n 1, 1) := by decide +kernel
theorem dX6_sleep_85 : decode cX6_sleep 85 = .ok (.iadd, 1) := by decide +kernel
theorem dX6_sleep_86 : decode cX6_sleep 86 = .ok (.iaload, 1) := by decide +kernel
theorem dX6_sleep_87 : decode cX6_sleep 87 = .ok (.if_icmp .ge 105, 3) := by decide +kernel
theorem dX6_sleep_90 : decode cX6_sleep 90 = .ok (.iload_n 3, 1) := by decide +kernel
theorem dX6_sleep_91 : decode cX6_sleep 91 = .ok (.ifCond .eq 101, 3) := by decide +kernel
theorem dX6_sleep_94 : decode cX6_sleep 94 = .ok (.aload_n 0, 1) := by decide +kernel
theorem dX6_sleep_95 : decode cX6_sleep 95 = .ok (.getfield 7, 3) := by decide +kernel
theorem dX6_sleep_98 : decode cX6_sleep 98 = .ok (.sipush 430, 3) := by decide +kernel
theorem dX6_sleep_101 : decode cX6_sleep 101 = .ok (.bipush 6, 2) := by decide +kernel
theorem dX6_sleep_103 : decode cX6_sleep 103 = .ok (.iload_n 1, 1) := by decide +kernel
theorem dX6_sleep_104 : decode cX6_sleep 104 = .ok (.imul, 1) := by decide +kernel
theorem dX6_sleep_105 : decode cX6_sleep 105 = .ok (.iadd, 1) := by decide +kernel
theorem dX6_sleep_106 : decode cX6_sleep 106 = .ok (.iconst 2, 1) := by decide +kernel
theorem dX6_sleep_107 : decode cX6_sleep 107 = .ok (.iload 5, 2) := by decide +kernel
theorem dX6_sleep_109 : decode cX6_sleep 109 = .ok (.imul, 1) := by decide +kernel
theorem dX6_sleep_110 : decode cX6_sleep 110 = .ok (.iadd, 1) := by decide +kernel
theorem dX6_sleep_111 : decode cX6_sleep 111 = .ok (.iaload, 1) := by decide +kernel
theorem dX6_sleep_112 : decode cX6_sleep 112 = .ok (.istore 6, 2) := by decide +kernel
theorem dX6_sleep_114 : decode cX6_sleep 114 = .ok (.aload_n 0, 1) := by decide +kernel
theorem dX6_sleep_115 : decode cX6_sleep 115 = .ok (.getfield 7, 3) := by decide +kernel
theorem dX6_sleep_118 : decode cX6_sleep 118 = .ok (.sipush 430, 3) := by decide +kernel
theorem dX6_sleep_121 : decode cX6_sleep 121 = .ok (.bipush 6, 2) := by decide +kernel
theorem dX6_sleep_123 : decode cX6_sleep 123 = .ok (.iload_n 1, 1) := by decide +kernel
theorem dX6_sleep_124 : decode cX6_sleep 124 = .ok (.imul, 1) := by decide +kernel
theorem dX6_sleep_125 : decode cX6_sleep 125 = .ok (.iadd, 1) := by decide +kernel
theorem dX6_sleep_126 : decode cX6_sleep 126 = .ok (.iconst 2, 1) := by decide +kernel
theorem dX6_sleep_127 : decode cX6_sleep 127 = .ok (.iload 5, 2) := by decide +kernel
theorem dX6_sleep_129 : decode cX6_sleep 129 = .ok (.imul, 1) := by decide +kernel
theorem dX6_sleep_130 : decode cX6_sleep 130 = .ok (.iadd, 1) := by decide +kernel
theorem dX6_sleep_131 : decode cX6_sleep 131 = .ok (.iconst 1, 1) := by decide +kernel
theorem dX6_sleep_132 : decode cX6_sleep 132 = .ok (.iadd, 1) := by decide +kernel
theorem dX6_sleep_133 : decode cX6_sleep 133 = .ok (.iaload, 1) := by decide +kernel
theorem dX6_sleep_134 : decode cX6_sleep 134 = .ok (.istore 7, 2) := by decide +kernel
theorem dX6_sleep_136 : decode cX6_sleep 136 = .ok (.aload_n 0, 1) := by decide +kernel
theorem dX6_sleep_137 : decode cX6_sleep 137 = .ok (.iload_n 1, 1) := by decide +kernel
theorem dX6_sleep_138 : decode cX6_sleep 138 = .ok (.iload 6, 2) := by decide +kernel
theorem dX6_sleep_140 : decode cX6_sleep 140 = .ok (.iload 7, 2) := by decide +kernel
theorem dX6_sleep_142 : decode cX6_sleep 142 = .ok (.invokevirtual 58, 3) := by decide +kernel
theorem dX6_sleep_145 : decode cX6_sleep 145 = .ok (.ifCond .eq 28, 3) := by decide +kernel
theorem dX6_sleep_148 : decode cX6_sleep 148 = .ok (.iload 4, 2) := by decide +kernel
theorem dX6_sleep_150 : decode cX6_sleep 150 = .ok (.aload_n 0, 1) := by decide +kernel
theorem dX6_sleep_151 : decode cX6_sleep 151 = .ok (.iload_n 1, 1) := by decide +kernel
theorem dX6_sleep_152 : decode cX6_sleep 152 = .ok (.iload 6, 2) := by decide +kernel
theorem dX6_sleep_154 : decode cX6_sleep 154 = .ok (.iload 7, 2) := by decide +kernel
theorem dX6_sleep_156 : decode cX6_sleep 156 = .ok (.invokevirtual 67, 3) := by decide +kernel
theorem dX6_sleep_159 : decode cX6_sleep 159 = .ok (.ifCond .eq 7, 3) := by decide +kernel
