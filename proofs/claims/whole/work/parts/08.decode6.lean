theorem dX6_sleep_162 : decode cX6_sleep 162 = .ok (.iconst 1, 1) := by decide +kernel
theorem dX6_sleep_163 : decode cX6_sleep 163 = .ok (.goto 4, 3) := by decide +kernel
theorem dX6_sleep_166 : decode cX6_sleep 166 = .ok (.iconst 0, 1) := by decide +kernel
theorem dX6_sleep_167 : decode cX6_sleep 167 = .ok (.iadd, 1) := by decide +kernel
theorem dX6_sleep_168 : decode cX6_sleep 168 = .ok (.istore 4, 2) := by decide +kernel
theorem dX6_sleep_170 : decode cX6_sleep 170 = .ok (.goto 16, 3) := by decide +kernel
theorem dX6_sleep_173 : decode cX6_sleep 173 = .ok (.aload_n 0, 1) := by decide +kernel
theorem dX6_sleep_174 : decode cX6_sleep 174 = .ok (.getfield 7, 3) := by decide +kernel
theorem dX6_sleep_177 : decode cX6_sleep 177 = .ok (.bipush 110, 2) := by decide +kernel
theorem dX6_sleep_179 : decode cX6_sleep 179 = .ok (.iload_n 1, 1) := by decide +kernel
theorem dX6_sleep_180 : decode cX6_sleep 180 = .ok (.iadd, 1) := by decide +kernel
theorem dX6_sleep_181 : decode cX6_sleep 181 = .ok (.dup2, 1) := by decide +kernel
theorem dX6_sleep_182 : decode cX6_sleep 182 = .ok (.iaload, 1) := by decide +kernel
theorem dX6_sleep_183 : decode cX6_sleep 183 = .ok (.iconst 1, 1) := by decide +kernel
theorem dX6_sleep_184 : decode cX6_sleep 184 = .ok (.iadd, 1) := by decide +kernel
theorem dX6_sleep_185 : decode cX6_sleep 185 = .ok (.iastore, 1) := by decide +kernel
theorem dX6_sleep_186 : decode cX6_sleep 186 = .ok (.iinc 5 1, 3) := by decide +kernel
theorem dX6_sleep_189 : decode cX6_sleep 189 = .ok (.goto (-114), 3) := by decide +kernel
theorem dX6_sleep_192 : decode cX6_sleep 192 = .ok (.aload_n 0, 1) := by decide +kernel
theorem dX6_sleep_193 : decode cX6_sleep 193 = .ok (.getfield 7, 3) := by decide +kernel
theorem dX6_sleep_196 : decode cX6_sleep 196 = .ok (.sipush 150, 3) := by decide +kernel
theorem dX6_sleep_199 : decode cX6_sleep 199 = .ok (.iload_n 1, 1) := by decide +kernel
theorem dX6_sleep_200 : decode cX6_sleep 200 = .ok (.iadd, 1) := by decide +kernel
theorem dX6_sleep_201 : decode cX6_sleep 201 = .ok (.iload_n 3, 1) := by decide +kernel
theorem dX6_sleep_202 : decode cX6_sleep 202 = .ok (.ifCond .eq 7, 3) := by decide +kernel
theorem dX6_sleep_205 : decode cX6_sleep 205 = .ok (.iconst 0, 1) := by decide +kernel
theorem dX6_sleep_206 : decode cX6_sleep 206 = .ok (.goto 13, 3) := by decide +kernel
theorem dX6_sleep_209 : decode cX6_sleep 209 = .ok (.aload_n 0, 1) := by decide +kernel
theorem dX6_sleep_210 : decode cX6_sleep 210 = .ok (.getfield 7, 3) := by decide +kernel
theorem dX6_sleep_213 : decode cX6_sleep 213 = .ok (.sipush 150, 3) := by decide +kernel
theorem dX6_sleep_216 : decode cX6_sleep 216 = .ok (.iload_n 1, 1) := by decide +kernel
theorem dX6_sleep_217 : decode cX6_sleep 217 = .ok (.iadd, 1) := by decide +kernel
theorem dX6_sleep_218 : decode cX6_sleep 218 = .ok (.iaload, 1) := by decide +kernel
theorem dX6_sleep_219 : decode cX6_sleep 219 = .ok (.iastore, 1) := by decide +kernel
theorem dX6_sleep_220 : decode cX6_sleep 220 = .ok (.iload 4, 2) := by decide +kernel
theorem dX6_sleep_222 : decode cX6_sleep 222 = .ok (.ireturn, 1) := by decide +kernel
theorem dX6_dueNow_0 : decode cX6_dueNow 0 = .ok (.bipush (-6), 2) := by decide +kernel
theorem dX6_dueNow_2 : decode cX6_dueNow 2 = .ok (.istore_n 1, 1) := by decide +kernel
theorem dX6_dueNow_3 : decode cX6_dueNow 3 = .ok (.aload_n 0, 1) := by decide +kernel
theorem dX6_dueNow_4 : decode cX6_dueNow 4 = .ok (.getfield 7, 3) := by decide +kernel
theorem dX6_dueNow_7 : decode cX6_dueNow 7 = .ok (.sipush 6815, 3) := by decide +kernel
theorem dX6_dueNow_10 : decode cX6_dueNow 10 = .ok (.iaload, 1) := by decide +kernel
theorem dX6_dueNow_11 : decode cX6_dueNow 11 = .ok (.iconst 1, 1) := by decide +kernel
theorem dX6_dueNow_12 : decode cX6_dueNow 12 = .ok (.isub, 1) := by decide +kernel
theorem dX6_dueNow_13 : decode cX6_dueNow 13 = .ok (.istore_n 2, 1) := by decide +kernel
theorem dX6_dueNow_14 : decode cX6_dueNow 14 = .ok (.iload_n 2, 1) := by decide +kernel
theorem dX6_dueNow_15 : decode cX6_dueNow 15 = .ok (.ifCond .lt 40, 3) := by decide +kernel
theorem dX6_dueNow_18 : decode cX6_dueNow 18 = .ok (.aload_n 0, 1) := by decide +kernel
theorem dX6_dueNow_19 : decode cX6_dueNow 19 = .ok (.getfield 7, 3) := by decide +kernel
theorem dX6_dueNow_22 : decode cX6_dueNow 22 = .ok (.sipush 490, 3) := by decide +kernel
theorem dX6_dueNow_25 : decode cX6_dueNow 25 = .ok (.iconst 5, 1) := by decide +kernel
theorem dX6_dueNow_26 : decode cX6_dueNow 26 = .ok (.iload_n 2, 1) := by decide +kernel
theorem dX6_dueNow_27 : decode cX6_dueNow 27 = .ok (.imul, 1) := by decide +kernel
theorem dX6_dueNow_28 : decode cX6_dueNow 28 = .ok (.iadd, 1) := by decide +kernel
theorem dX6_dueNow_29 : decode cX6_dueNow 29 = .ok (.iconst 1, 1) := by decide +kernel
theorem dX6_dueNow_30 : decode cX6_dueNow 30 = .ok (.iadd, 1) := by decide +kernel
theorem dX6_dueNow_31 : decode cX6_dueNow 31 = .ok (.iaload, 1) := by decide +kernel
theorem dX6_dueNow_32 : decode cX6_dueNow 32 = .ok (.aload_n 0, 1) := by decide +kernel
theorem dX6_dueNow_33 : decode cX6_dueNow 33 = .ok (.getfield 7, 3) := by decide +kernel
theorem dX6_dueNow_36 : decode cX6_dueNow 36 = .ok (.sipush 6810, 3) := by decide +kernel
theorem dX6_dueNow_39 : decode cX6_dueNow 39 = .ok (.iaload, 1) := by decide +kernel
theorem dX6_dueNow_40 : decode cX6_dueNow 40 = .ok (.if_icmp .ne 7, 3) := by decide +kernel
theorem dX6_dueNow_43 : decode cX6_dueNow 43 = .ok (.iload_n 2, 1) := by decide +kernel
theorem dX6_dueNow_44 : decode cX6_dueNow 44 = .ok (.goto 4, 3) := by decide +kernel
theorem dX6_dueNow_47 : decode cX6_dueNow 47 = .ok (.iload_n 1, 1) := by decide +kernel
theorem dX6_dueNow_48 : decode cX6_dueNow 48 = .ok (.istore_n 1, 1) := by decide +kernel
theorem dX6_dueNow_49 : decode cX6_dueNow 49 = .ok (.iinc 2 (-1), 3) := by decide +kernel
theorem dX6_dueNow_52 : decode cX6_dueNow 52 = .ok (.goto (-38), 3) := by decide +kernel
theorem dX6_dueNow_55 : decode cX6_dueNow 55 = .ok (.iload_n 1, 1) := by decide +kernel
theorem dX6_dueNow_56 : decode cX6_dueNow 56 = .ok (.ireturn, 1) := by decide +kernel
theorem dX6_removeFromAir_0 : decode cX6_removeFromAir 0 = .ok (.aload_n 0, 1) := by decide +kernel
theorem dX6_removeFromAir_1 : decode cX6_removeFromAir 1 = .ok (.getfield 7, 3) := by decide +kernel
theorem dX6_removeFromAir_4 : decode cX6_removeFromAir 4 = .ok (.sipush 6815, 3) := by decide +kernel
theorem dX6_removeFromAir_7 : decode cX6_removeFromAir 7 = .ok (.dup2, 1) := by decide +kernel
theorem dX6_removeFromAir_8 : decode cX6_removeFromAir 8 = .ok (.iaload, 1) := by decide +kernel
theorem dX6_removeFromAir_9 : decode cX6_removeFromAir 9 = .ok (.iconst 1, 1) := by decide +kernel
theorem dX6_removeFromAir_10 : decode cX6_removeFromAir 10 = .ok (.isub, 1) := by decide +kernel
theorem dX6_removeFromAir_11 : decode cX6_removeFromAir 11 = .ok (.iastore, 1) := by decide +kernel
theorem dX6_removeFromAir_12 : decode cX6_removeFromAir 12 = .ok (.iconst 5, 1) := by decide +kernel
theorem dX6_removeFromAir_13 : decode cX6_removeFromAir 13 = .ok (.iload_n 1, 1) := by decide +kernel
theorem dX6_removeFromAir_14 : decode cX6_removeFromAir 14 = .ok (.imul, 1) := by decide +kernel
theorem dX6_removeFromAir_15 : decode cX6_removeFromAir 15 = .ok (.istore_n 2, 1) := by decide +kernel
theorem dX6_removeFromAir_16 : decode cX6_removeFromAir 16 = .ok (.iload_n 2, 1) := by decide +kernel
theorem dX6_removeFromAir_17 : decode cX6_removeFromAir 17 = .ok (.iconst 5, 1) := by decide +kernel
theorem dX6_removeFromAir_18 : decode cX6_removeFromAir 18 = .ok (.aload_n 0, 1) := by decide +kernel
theorem dX6_removeFromAir_19 : decode cX6_removeFromAir 19 = .ok (.getfield 7, 3) := by decide +kernel
theorem dX6_removeFromAir_22 : decode cX6_removeFromAir 22 = .ok (.sipush 6815, 3) := by decide +kernel
theorem dX6_removeFromAir_25 : decode cX6_removeFromAir 25 = .ok (.iaload, 1) := by decide +kernel
theorem dX6_removeFromAir_26 : decode cX6_removeFromAir 26 = .ok (.imul, 1) := by decide +kernel
theorem dX6_removeFromAir_27 : decode cX6_removeFromAir 27 = .ok (.if_icmp .ge 31, 3) := by decide +kernel
theorem dX6_removeFromAir_30 : decode cX6_removeFromAir 30 = .ok (.aload_n 0, 1) := by decide +kernel
theorem dX6_removeFromAir_31 : decode cX6_removeFromAir 31 = .ok (.getfield 7, 3) := by decide +kernel
theorem dX6_removeFromAir_34 : decode cX6_removeFromAir 34 = .ok (.sipush 490, 3) := by decide +kernel
theorem dX6_removeFromAir_37 : decode cX6_removeFromAir 37 = .ok (.iload_n 2, 1) := by decide +kernel
theorem dX6_removeFromAir_38 : decode cX6_removeFromAir 38 = .ok (.iadd, 1) := by decide +kernel
theorem dX6_removeFromAir_39 : decode cX6_removeFromAir 39 = .ok (.aload_n 0, 1) := by decide +kernel
theorem dX6_removeFromAir_40 : decode cX6_removeFromAir 40 = .ok (.getfield 7, 3) := by decide +kernel
theorem dX6_removeFromAir_43 : decode cX6_removeFromAir 43 = .ok (.sipush 490, 3) := by decide +kernel
theorem dX6_removeFromAir_46 : decode cX6_removeFromAir 46 = .ok (.iload_n 2, 1) := by decide +kernel
theorem dX6_removeFromAir_47 : decode cX6_removeFromAir 47 = .ok (.iadd, 1) := by decide +kernel
theorem dX6_removeFromAir_48 : decode cX6_removeFromAir 48 = .ok (.iconst 5, 1) := by decide +kernel
theorem dX6_removeFromAir_49 : decode cX6_removeFromAir 49 = .ok (.iadd, 1) := by decide +kernel
theorem dX6_removeFromAir_50 : decode cX6_removeFromAir 50 = .ok (.iaload, 1) := by decide +kernel
theorem dX6_removeFromAir_51 : decode cX6_removeFromAir 51 = .ok (.iastore, 1) := by decide +kernel
theorem dX6_removeFromAir_52 : decode cX6_removeFromAir 52 = .ok (.iinc 2 1, 3) := by decide +kernel
theorem dX6_removeFromAir_55 : decode cX6_removeFromAir 55 = .ok (.goto (-39), 3) := by decide +kernel
theorem dX6_removeFromAir_58 : decode cX6_removeFromAir 58 = .ok (.return_, 1) := by decide +kernel
set_option maxRecDepth 20000 in
theorem ggX6_speaks_X6_removeFromAir : GoodIn wsX6_speaks wsX6_removeFromAir := goodIn_r _ [6, 1, 50, 51, 52] (by decide +kernel) (by decide +kernel)
set_option maxRecDepth 20000 in
theorem gX6_speaks_X6_removeFromAir : GoodIn wsX6_speaks (wsV RX6 73 RX6 yX6_removeFromAir wsX6_removeFromAir) := goodIn_app (goodIn_of _ (by decide +kernel)) ggX6_speaks_X6_removeFromAir
set_option maxRecDepth 20000 in
theorem ggX6_speaks_X6_sleeps : GoodIn wsX6_speaks wsX6_sleeps := goodIn_r _ [10, 1, 50, 51, 52] (by decide +kernel) (by decide +kernel)
set_option maxRecDepth 20000 in
theorem gX6_speaks_X6_sleeps : GoodIn wsX6_speaks (wsV RX6 36 RX6 yX6_sleeps wsX6_sleeps) := goodIn_app (goodIn_of _ (by decide +kernel)) ggX6_speaks_X6_sleeps
set_option maxRecDepth 20000 in
theorem ggX6_speaks_X6_isOf : GoodIn wsX6_speaks wsX6_isOf := goodIn_r _ [13] (by decide +kernel) (by decide +kernel)
set_option maxRecDepth 20000 in
theorem gX6_speaks_X6_isOf : GoodIn wsX6_speaks (va_wsS RX6 43 yX6_isOf wsX6_isOf) := goodIn_app (goodIn_of _ (by decide +kernel)) ggX6_speaks_X6_isOf
set_option maxRecDepth 20000 in
theorem ggX6_speaks_X6_hear : GoodIn wsX6_speaks wsX6_hear := goodIn_r _ [17, 1, 18, 19, 20, 5, 21, 22, 23, 24, 25, 11, 12, 13, 26, 27, 28, 29, 30, 31, 32, 33, 34, 35, 36, 37, 38, 39, 40, 41, 7, 8, 9, 10, 42, 43, 44, 45, 46, 47, 48, 49, 50, 51, 52] (by decide +kernel) (by decide +kernel)
set_option maxRecDepth 20000 in
theorem gX6_speaks_X6_hear : GoodIn wsX6_speaks (wsV RX6 76 RX6 yX6_hear wsX6_hear) := goodIn_app (goodIn_of _ (by decide +kernel)) ggX6_speaks_X6_hear
theorem dX6_speaks_0 : decode cX6_speaks 0 = .ok (.aload_n 0, 1) := by decide +kernel
theorem dX6_speaks_1 : decode cX6_speaks 1 = .ok (.getfield 7, 3) := by decide +kernel
theorem dX6_speaks_4 : decode cX6_speaks 4 = .ok (.sipush 490, 3) := by decide +kernel
theorem dX6_speaks_7 : decode cX6_speaks 7 = .ok (.iconst 5, 1) := by decide +kernel
theorem dX6_speaks_8 : decode cX6_speaks 8 = .ok (.iload_n 1, 1) := by decide +kernel
theorem dX6_speaks_9 : decode cX6_speaks 9 = .ok (.imul, 1) := by decide +kernel
theorem dX6_speaks_10 : decode cX6_speaks 10 = .ok (.iadd, 1) := by decide +kernel
theorem dX6_speaks_11 : decode cX6_speaks 11 = .ok (.iaload, 1) := by decide +kernel
theorem dX6_speaks_12 : decode cX6_speaks 12 = .ok (.istore_n 2, 1) := by decide +kernel
theorem dX6_speaks_13 : decode cX6_speaks 13 = .ok (.aload_n 0, 1) := by decide +kernel
theorem dX6_speaks_14 : decode cX6_speaks 14 = .ok (.getfield 7, 3) := by decide +kernel
theorem dX6_speaks_17 : decode cX6_speaks 17 = .ok (.sipush 490, 3) := by decide +kernel
theorem dX6_speaks_20 : decode cX6_speaks 20 = .ok (.iconst 5, 1) := by decide +kernel
theorem dX6_speaks_21 : decode cX6_speaks 21 = .ok (.iload_n 1, 1) := by decide +kernel
theorem dX6_speaks_22 : decode cX6_speaks 22 = .ok (.imul, 1) := by decide +kernel
theorem dX6_speaks_23 : decode cX6_speaks 23 = .ok (.iadd, 1) := by decide +kernel
theorem dX6_speaks_24 : decode cX6_speaks 24 = .ok (.iconst 2, 1) := by decide +kernel
theorem dX6_speaks_25 : decode cX6_speaks 25 = .ok (.iadd, 1) := by decide +kernel
theorem dX6_speaks_26 : decode cX6_speaks 26 = .ok (.iaload, 1) := by decide +kernel
theorem dX6_speaks_27 : decode cX6_speaks 27 = .ok (.istore_n 3, 1) := by decide +kernel
theorem dX6_speaks_28 : decode cX6_speaks 28 = .ok (.aload_n 0, 1) := by decide +kernel
theorem dX6_speaks_29 : decode cX6_speaks 29 = .ok (.getfield 7, 3) := by decide +kernel
theorem dX6_speaks_32 : decode cX6_speaks 32 = .ok (.sipush 490, 3) := by decide +kernel
theorem dX6_speaks_35 : decode cX6_speaks 35 = .ok (.iconst 5, 1) := by decide +kernel
theorem dX6_speaks_36 : decode cX6_speaks 36 = .ok (.iload_n 1, 1) := by decide +kernel
theorem dX6_speaks_37 : decode cX6_speaks 37 = .ok (.imul, 1) := by decide +kernel
theorem dX6_speaks_38 : decode cX6_speaks 38 = .ok (.iadd, 1) := by decide +kernel
theorem dX6_speaks_39 : decode cX6_speaks 39 = .ok (.iconst 3, 1) := by decide +kernel
theorem dX6_speaks_40 : decode cX6_speaks 40 = .ok (.iadd, 1) := by decide +kernel
theorem dX6_speaks_41 : decode cX6_speaks 41 = .ok (.iaload, 1) := by decide +kernel
theorem dX6_speaks_42 : decode cX6_speaks 42 = .ok (.istore 4, 2) := by decide +kernel
theorem dX6_speaks_44 : decode cX6_speaks 44 = .ok (.aload_n 0, 1) := by decide +kernel
theorem dX6_speaks_45 : decode cX6_speaks 45 = .ok (.getfield 7, 3) := by decide +kernel
theorem dX6_speaks_48 : decode cX6_speaks 48 = .ok (.sipush 490, 3) := by decide +kernel
theorem dX6_speaks_51 : decode cX6_speaks 51 = .ok (.iconst 5, 1) := by decide +kernel
theorem dX6_speaks_52 : decode cX6_speaks 52 = .ok (.iload_n 1, 1) := by decide +kernel
theorem dX6_speaks_53 : decode cX6_speaks 53 = .ok (.imul, 1) := by decide +kernel
theorem dX6_speaks_54 : decode cX6_speaks 54 = .ok (.iadd, 1) := by decide +kernel
theorem dX6_speaks_55 : decode cX6_speaks 55 = .ok (.iconst 4, 1) := by decide +kernel
theorem dX6_speaks_56 : decode cX6_speaks 56 = .ok (.iadd, 1) := by decide +kernel
theorem dX6_speaks_57 : decode cX6_speaks 57 = .ok (.iaload, 1) := by decide +kernel
theorem dX6_speaks_58 : decode cX6_speaks 58 = .ok (.istore 5, 2) := by decide +kernel
theorem dX6_speaks_60 : decode cX6_speaks 60 = .ok (.aload_n 0, 1) := by decide +kernel
theorem dX6_speaks_61 : decode cX6_speaks 61 = .ok (.iload_n 1, 1) := by decide +kernel
theorem dX6_speaks_62 : decode cX6_speaks 62 = .ok (.invokevirtual 73, 3) := by decide +kernel
theorem dX6_speaks_65 : decode cX6_speaks 65 = .ok (.iload_n 2, 1) := by decide +kernel
theorem dX6_speaks_66 : decode cX6_speaks 66 = .ok (.bipush 10, 2) := by decide +kernel
theorem dX6_speaks_68 : decode cX6_speaks 68 = .ok (.if_icmp .ge 7, 3) := by decide +kernel
theorem dX6_speaks_71 : decode cX6_speaks 71 = .ok (.iconst 1, 1) := by decide +kernel
theorem dX6_speaks_72 : decode cX6_speaks 72 = .ok (.goto 4, 3) := by decide +kernel
theorem dX6_speaks_75 : decode cX6_speaks 75 = .ok (.iconst 0, 1) := by decide +kernel
theorem dX6_speaks_76 : decode cX6_speaks 76 = .ok (.istore 6, 2) := by decide +kernel
theorem dX6_speaks_78 : decode cX6_speaks 78 = .ok (.iload 6, 2) := by decide +kernel
theorem dX6_speaks_80 : decode cX6_speaks 80 = .ok (.ifCond .eq 25, 3) := by decide +kernel
theorem dX6_speaks_83 : decode cX6_speaks 83 = .ok (.aload_n 0, 1) := by decide +kernel
theorem dX6_speaks_84 : decode cX6_speaks 84 = .ok (.iload_n 2, 1) := by decide +kernel
theorem dX6_speaks_85 : decode cX6_speaks 85 = .ok (.invokevirtual 36, 3) := by decide +kernel
theorem dX6_speaks_88 : decode cX6_speaks 88 = .ok (.ifCond .eq 17, 3) := by decide +kernel
theorem dX6_speaks_91 : decode cX6_speaks 91 = .ok (.aload_n 0, 1) := by decide +kernel
theorem dX6_speaks_92 : decode cX6_speaks 92 = .ok (.getfield 7, 3) := by decide +kernel
theorem dX6_speaks_95 : decode cX6_speaks 95 = .ok (.sipush 6818, 3) := by decide +kernel
theorem dX6_speaks_98 : decode cX6_speaks 98 = .ok (.dup2, 1) := by decide +kernel
theorem dX6_speaks_99 : decode cX6_speaks 99 = .ok (.iaload, 1) := by decide +kernel
theorem dX6_speaks_100 : decode cX6_speaks 100 = .ok (.iconst 1, 1) := by decide +kernel
theorem dX6_speaks_101 : decode cX6_speaks 101 = .ok (.iadd, 1) := by decide +kernel
theorem dX6_speaks_102 : decode cX6_speaks 102 = .ok (.iastore, 1) := by decide +kernel
theorem dX6_speaks_103 : decode cX6_speaks 103 = .ok (.iconst 0, 1) := by decide +kernel
theorem dX6_speaks_104 : decode cX6_speaks 104 = .ok (.ireturn, 1) := by decide +kernel
theorem dX6_speaks_105 : decode cX6_speaks 105 = .ok (.iload 6, 2) := by decide +kernel
theorem dX6_speaks_107 : decode cX6_speaks 107 = .ok (.ifCond .eq 7, 3) := by decide +kernel
theorem dX6_speaks_110 : decode cX6_speaks 110 = .ok (.iload_n 2, 1) := by decide +kernel
theorem dX6_speaks_111 : decode cX6_speaks 111 = .ok (.goto 7, 3) := by decide +kernel
theorem dX6_speaks_114 : decode cX6_speaks 114 = .ok (.iload_n 2, 1) := by decide +kernel
theorem dX6_speaks_115 : decode cX6_speaks 115 = .ok (.bipush 10, 2) := by decide +kernel
theorem dX6_speaks_117 : decode cX6_speaks 117 = .ok (.isub, 1) := by decide +kernel
theorem dX6_speaks_118 : decode cX6_speaks 118 = .ok (.istore 7, 2) := by decide +kernel
theorem dX6_speaks_120 : decode cX6_speaks 120 = .ok (.aload_n 0, 1) := by decide +kernel
theorem dX6_speaks_121 : decode cX6_speaks 121 = .ok (.getfield 7, 3) := by decide +kernel
theorem dX6_speaks_124 : decode cX6_speaks 124 = .ok (.sipush 6816, 3) := by decide +kernel
theorem dX6_speaks_127 : decode cX6_speaks 127 = .ok (.dup2, 1) := by decide +kernel
theorem dX6_speaks_128 : decode cX6_speaks 128 = .ok (.iaload, 1) := by decide +kernel
theorem dX6_speaks_129 : decode cX6_speaks 129 = .ok (.iconst 1, 1) := by decide +kernel
theorem dX6_speaks_130 : decode cX6_speaks 130 = .ok (.iadd, 1) := by decide +kernel
theorem dX6_speaks_131 : decode cX6_speaks 131 = .ok (.iastore, 1) := by decide +kernel
theorem dX6_speaks_132 : decode cX6_speaks 132 = .ok (.aload_n 0, 1) := by decide +kernel
theorem dX6_speaks_133 : decode cX6_speaks 133 = .ok (.getfield 7, 3) := by decide +kernel
theorem dX6_speaks_136 : decode cX6_speaks 136 = .ok (.sipush 140, 3) := by decide +kernel
theorem dX6_speaks_139 : decode cX6_speaks 139 = .ok (.iload 7, 2) := by decide +kernel
theorem dX6_speaks_141 : decode cX6_speaks 141 = .ok (.iadd, 1) := by decide +kernel
theorem dX6_speaks_142 : decode cX6_speaks 142 = .ok (.dup2, 1) := by decide +kernel
theorem dX6_speaks_143 : decode cX6_speaks 143 = .ok (.iaload, 1) := by decide +kernel
theorem dX6_speaks_144 : decode cX6_speaks 144 = .ok (.iload 6, 2) := by decide +kernel
theorem dX6_speaks_146 : decode cX6_speaks 146 = .ok (.ifCond .eq 7, 3) := by decide +kernel
theorem dX6_speaks_149 : decode cX6_speaks 149 = .ok (.iconst 1, 1) := by decide +kernel
theorem dX6_speaks_150 : decode cX6_speaks 150 = .ok (.goto 4, 3) := by decide +kernel
theorem dX6_speaks_153 : decode cX6_speaks 153 = .ok (.iconst 0, 1) := by decide +kernel
theorem dX6_speaks_154 : decode cX6_speaks 154 = .ok (.iadd, 1) := by decide +kernel
theorem dX6_speaks_155 : decode cX6_speaks 155 = .ok (.iastore, 1) := by decide +kernel
theorem dX6_speaks_156 : decode cX6_speaks 156 = .ok (.iconst 0, 1) := by decide +kernel
theorem dX6_speaks_157 : decode cX6_speaks 157 = .ok (.istore 8, 2) := by decide +kernel
theorem dX6_speaks_159 : decode cX6_speaks 159 = .ok (.iload 8, 2) := by decide +kernel
theorem dX6_speaks_161 : decode cX6_speaks 161 = .ok (.bipush 10, 2) := by decide +kernel
theorem dX6_speaks_163 : decode cX6_speaks 163 = .ok (.if_icmp .ge 70, 3) := by decide +kernel
theorem dX6_speaks_166 : decode cX6_speaks 166 = .ok (.aload_n 0, 1) := by decide +kernel
theorem dX6_speaks_167 : decode cX6_speaks 167 = .ok (.getfield 7, 3) := by decide +kernel
theorem dX6_speaks_170 : decode cX6_speaks 170 = .ok (.iconst 0, 1) := by decide +kernel
theorem dX6_speaks_171 : decode cX6_speaks 171 = .ok (.iload 7, 2) := by decide +kernel
theorem dX6_speaks_173 : decode cX6_speaks 173 = .ok (.iadd, 1) := by decide +kernel
theorem dX6_speaks_174 : decode cX6_speaks 174 = .ok (.iaload, 1) := by decide +kernel
theorem dX6_speaks_175 : decode cX6_speaks 175 = .ok (.iload 8, 2) := by decide +kernel
theorem dX6_speaks_177 : decode cX6_speaks 177 = .ok (.invokestatic 43, 3) := by decide +kernel
theorem dX6_speaks_180 : decode cX6_speaks 180 = .ok (.ifCond .ne 15, 3) := by decide +kernel
theorem dX6_speaks_183 : decode cX6_speaks 183 = .ok (.iload 6, 2) := by decide +kernel
theorem dX6_speaks_185 : decode cX6_speaks 185 = .ok (.ifCond .ne 14, 3) := by decide +kernel
theorem dX6_speaks_188 : decode cX6_speaks 188 = .ok (.iload 8, 2) := by decide +kernel
theorem dX6_speaks_190 : decode cX6_speaks 190 = .ok (.iload 7, 2) := by decide +kernel
theorem dX6_speaks_192 : decode cX6_speaks 192 = .ok (.if_icmp .ne 7, 3) := by decide +kernel
theorem dX6_speaks_195 : decode cX6_speaks 195 = .ok (.iconst 1, 1) := by decide +kernel
theorem dX6_speaks_196 : decode cX6_speaks 196 = .ok (.goto 4, 3) := by decide +kernel
theorem dX6_speaks_199 : decode cX6_speaks 199 = .ok (.iconst 0, 1) := by decide +kernel
theorem dX6_speaks_200 : decode cX6_speaks 200 = .ok (.istore 9, 2) := by decide +kernel
theorem dX6_speaks_202 : decode cX6_speaks 202 = .ok (.iload 9, 2) := by decide +kernel
theorem dX6_speaks_204 : decode cX6_speaks 204 = .ok (.ifCond .eq 23, 3) := by decide +kernel
theorem dX6_speaks_207 : decode cX6_speaks 207 = .ok (.aload_n 0, 1) := by decide +kernel
theorem dX6_speaks_208 : decode cX6_speaks 208 = .ok (.iload 8, 2) := by decide +kernel
theorem dX6_speaks_210 : decode cX6_speaks 210 = .ok (.invokevirtual 36, 3) := by decide +kernel
theorem dX6_speaks_213 : decode cX6_speaks 213 = .ok (.ifCond .ne 14, 3) := by decide +kernel
theorem dX6_speaks_216 : decode cX6_speaks 216 = .ok (.aload_n 0, 1) := by decide +kernel
theorem dX6_speaks_217 : decode cX6_speaks 217 = .ok (.iload 8, 2) := by decide +kernel
theorem dX6_speaks_219 : decode cX6_speaks 219 = .ok (.iload_n 3, 1) := by decide +kernel
theorem dX6_speaks_220 : decode cX6_speaks 220 = .ok (.iload 4, 2) := by decide +kernel
theorem dX6_speaks_222 : decode cX6_speaks 222 = .ok (.iload 5, 2) := by decide +kernel
theorem dX6_speaks_224 : decode cX6_speaks 224 = .ok (.invokevirtual 76, 3) := by decide +kernel
theorem dX6_speaks_227 : decode cX6_speaks 227 = .ok (.iinc 8 1, 3) := by decide +kernel
theorem dX6_speaks_230 : decode cX6_speaks 230 = .ok (.goto (-71), 3) := by decide +kernel
theorem dX6_speaks_233 : decode cX6_speaks 233 = .ok (.iconst 1, 1) := by decide +kernel
theorem dX6_speaks_234 : decode cX6_speaks 234 = .ok (.ireturn, 1) := by decide +kernel
set_option maxRecDepth 20000 in
theorem ggX6_goOn_X6_dueNow : GoodIn wsX6_goOn wsX6_dueNow := goodIn_r _ [6, 1, 58, 59, 60] (by decide +kernel) (by decide +kernel)
set_option maxRecDepth 20000 in
theorem gX6_goOn_X6_dueNow : GoodIn wsX6_goOn (wsV RX6 80 RX6 yX6_dueNow wsX6_dueNow) := goodIn_app (goodIn_of _ (by decide +kernel)) ggX6_goOn_X6_dueNow
set_option maxRecDepth 20000 in
theorem ggX6_goOn_X6_speaks : GoodIn wsX6_goOn wsX6_speaks := goodIn_r _ [10, 1, 11, 12, 13, 5, 14, 15, 16, 17, 18, 19, 20, 21, 22, 23, 24, 25, 26, 27, 28, 29, 30, 31, 32, 33, 34, 35, 36, 37, 38, 39, 40, 41, 42, 43, 44, 45, 46, 47, 48, 49, 50, 51, 52, 53, 54, 55, 56, 57, 58, 59, 60] (by decide +kernel) (by decide +kernel)
set_option maxRecDepth 20000 in
theorem gX6_goOn_X6_speaks : GoodIn wsX6_goOn (wsV RX6 84 RX6 yX6_speaks wsX6_speaks) := goodIn_app (goodIn_of _ (by decide +kernel)) ggX6_goOn_X6_speaks
theorem dX6_goOn_0 : decode cX6_goOn 0 = .ok (.aload_n 0, 1) := by decide +kernel
theorem dX6_goOn_1 : decode cX6_goOn 1 = .ok (.getfield 7, 3) := by decide +kernel
theorem dX6_goOn_4 : decode cX6_goOn 4 = .ok (.sipush 6810, 3) := by decide +kernel
theorem dX6_goOn_7 : decode cX6_goOn 7 = .ok (.dup2, 1) := by decide +kernel
theorem dX6_goOn_8 : decode cX6_goOn 8 = .ok (.iaload, 1) := by decide +kernel
theorem dX6_goOn_9 : decode cX6_goOn 9 = .ok (.iconst 1, 1) := by decide +kernel
theorem dX6_goOn_10 : decode cX6_goOn 10 = .ok (.iadd, 1) := by decide +kernel
theorem dX6_goOn_11 : decode cX6_goOn 11 = .ok (.iastore, 1) := by decide +kernel
theorem dX6_goOn_12 : decode cX6_goOn 12 = .ok (.iconst 0, 1) := by decide +kernel
theorem dX6_goOn_13 : decode cX6_goOn 13 = .ok (.istore_n 1, 1) := by decide +kernel
theorem dX6_goOn_14 : decode cX6_goOn 14 = .ok (.aload_n 0, 1) := by decide +kernel
theorem dX6_goOn_15 : decode cX6_goOn 15 = .ok (.invokevirtual 80, 3) := by decide +kernel
theorem dX6_goOn_18 : decode cX6_goOn 18 = .ok (.istore_n 2, 1) := by decide +kernel
theorem dX6_goOn_19 : decode cX6_goOn 19 = .ok (.iload_n 2, 1) := by decide +kernel
theorem dX6_goOn_20 : decode cX6_goOn 20 = .ok (.ifCond .lt 27, 3) := by decide +kernel
theorem dX6_goOn_23 : decode cX6_goOn 23 = .ok (.iload_n 1, 1) := by decide +kernel
theorem dX6_goOn_24 : decode cX6_goOn 24 = .ok (.aload_n 0, 1) := by decide +kernel
theorem dX6_goOn_25 : decode cX6_goOn 25 = .ok (.iload_n 2, 1) := by decide +kernel
theorem dX6_goOn_26 : decode cX6_goOn 26 = .ok (.invokevirtual 84, 3) := by decide +kernel
theorem dX6_goOn_29 : decode cX6_goOn 29 = .ok (.ifCond .eq 7, 3) := by decide +kernel
theorem dX6_goOn_32 : decode cX6_goOn 32 = .ok (.iconst 1, 1) := by decide +kernel
theorem dX6_goOn_33 : decode cX6_goOn 33 = .ok (.goto 4, 3) := by decide +kernel
theorem dX6_goOn_36 : decode cX6_goOn 36 = .ok (.iconst 0, 1) := by decide +kernel
theorem dX6_goOn_37 : decode cX6_goOn 37 = .ok (.iadd, 1) := by decide +kernel
theorem dX6_goOn_38 : decode cX6_goOn 38 = .ok (.istore_n 1, 1) := by decide +kernel
theorem dX6_goOn_39 : decode cX6_goOn 39 = .ok (.aload_n 0, 1) := by decide +kernel
theorem dX6_goOn_40 : decode cX6_goOn 40 = .ok (.invokevirtual 80, 3) := by decide +kernel
theorem dX6_goOn_43 : decode cX6_goOn 43 = .ok (.istore_n 2, 1) := by decide +kernel
theorem dX6_goOn_44 : decode cX6_goOn 44 = .ok (.goto (-25), 3) := by decide +kernel
theorem dX6_goOn_47 : decode cX6_goOn 47 = .ok (.iload_n 1, 1) := by decide +kernel
theorem dX6_goOn_48 : decode cX6_goOn 48 = .ok (.ireturn, 1) := by decide +kernel
set_option maxRecDepth 20000 in
theorem ggX6_pass_X6_in : GoodIn wsX6_pass wsX6_in := goodIn_r _ [4] (by decide +kernel) (by decide +kernel)
set_option maxRecDepth 20000 in
theorem gX6_pass_X6_in : GoodIn wsX6_pass (va_wsS RX6 20 yX6_in wsX6_in) := goodIn_app (goodIn_of _ (by decide +kernel)) ggX6_pass_X6_in
set_option maxRecDepth 20000 in
theorem ggX6_pass_X6_goOn : GoodIn wsX6_pass wsX6_goOn := goodIn_r _ [8, 9, 10, 11, 12, 3, 13, 14, 15, 16, 17, 18, 19, 20, 21, 22, 23, 24, 25, 26, 27, 28, 29, 30, 31, 32, 33, 34, 35, 36, 37, 38, 39, 40, 41, 42, 43, 44, 45, 46, 47, 48, 49, 50, 51, 52, 53, 54, 55, 56, 57, 58, 59, 60, 61, 62, 63, 64, 65, 66, 67] (by decide +kernel) (by decide +kernel)
set_option maxRecDepth 20000 in
theorem gX6_pass_X6_goOn : GoodIn wsX6_pass (wsV RX6 87 RX6 yX6_goOn wsX6_goOn) := goodIn_app (goodIn_of _ (by decide +kernel)) ggX6_pass_X6_goOn
theorem dX6_pass_0 : decode cX6_pass 0 = .ok (.iload_n 1, 1) := by decide +kernel
theorem dX6_pass_1 : decode cX6_pass 1 = .ok (.iconst 1, 1) := by decide +kernel
theorem dX6_pass_2 : decode cX6_pass 2 = .ok (.bipush 100, 2) := by decide +kernel
theorem dX6_pass_4 : decode cX6_pass 4 = .ok (.invokestatic 20, 3) := by decide +kernel
theorem dX6_pass_7 : decode cX6_pass 7 = .ok (.ifCond .ne 6, 3) := by decide +kernel
theorem dX6_pass_10 : decode cX6_pass 10 = .ok (.bipush (-2), 2) := by decide +kernel
theorem dX6_pass_12 : decode cX6_pass 12 = .ok (.ireturn, 1) := by decide +kernel
theorem dX6_pass_13 : decode cX6_pass 13 = .ok (.iconst 0, 1) := by decide +kernel
theorem dX6_pass_14 : decode cX6_pass 14 = .ok (.istore_n 2, 1) := by decide +kernel
theorem dX6_pass_15 : decode cX6_pass 15 = .ok (.iconst 0, 1) := by decide +kernel
theorem dX6_pass_16 : decode cX6_pass 16 = .ok (.istore_n 3, 1) := by decide +kernel
theorem dX6_pass_17 : decode cX6_pass 17 = .ok (.iload_n 3, 1) := by decide +kernel
theorem dX6_pass_18 : decode cX6_pass 18 = .ok (.iload_n 1, 1) := by decide +kernel
theorem dX6_pass_19 : decode cX6_pass 19 = .ok (.if_icmp .ge 16, 3) := by decide +kernel
theorem dX6_pass_22 : decode cX6_pass 22 = .ok (.iload_n 2, 1) := by decide +kernel
theorem dX6_pass_23 : decode cX6_pass 23 = .ok (.aload_n 0, 1) := by decide +kernel
theorem dX6_pass_24 : decode cX6_pass 24 = .ok (.invokevirtual 87, 3) := by decide +kernel
theorem dX6_pass_27 : decode cX6_pass 27 = .ok (.iadd, 1) := by decide +kernel
theorem dX6_pass_28 : decode cX6_pass 28 = .ok (.istore_n 2, 1) := by decide +kernel
theorem dX6_pass_29 : decode cX6_pass 29 = .ok (.iinc 3 1, 3) := by decide +kernel
theorem dX6_pass_32 : decode cX6_pass 32 = .ok (.goto (-15), 3) := by decide +kernel
theorem dX6_pass_35 : decode cX6_pass 35 = .ok (.iload_n 2, 1) := by decide +kernel
theorem dX6_pass_36 : decode cX6_pass 36 = .ok (.ireturn, 1) := by decide +kernel
set_option maxRecDepth 20000 in
theorem ggX6_settle_X6_goOn : GoodIn wsX6_settle wsX6_goOn := goodIn_r _ [6, 1, 7, 8, 9, 5, 10, 11, 12, 13, 14, 15, 16, 17, 18, 19, 20, 21, 22, 23, 24, 25, 26, 27, 28, 29, 30, 31, 32, 33, 34, 35, 36, 37, 38, 39, 40, 41, 42, 43, 44, 45, 46, 47, 48, 49, 50, 51, 52, 53, 54, 55, 56, 57, 58, 59, 60, 61, 62, 63, 64] (by decide +kernel) (by decide +kernel)
set_option maxRecDepth 20000 in
theorem gX6_settle_X6_goOn : GoodIn wsX6_settle (wsV RX6 87 RX6 yX6_goOn wsX6_goOn) := goodIn_app (goodIn_of _ (by decide +kernel)) ggX6_settle_X6_goOn
theorem dX6_settle_0 : decode cX6_settle 0 = .ok (.iconst 0, 1) := by decide +kernel
theorem dX6_settle_1 : decode cX6_settle 1 = .ok (.istore_n 1, 1) := by decide +kernel
theorem dX6_settle_2 : decode cX6_settle 2 = .ok (.aload_n 0, 1) := by decide +kernel
theorem dX6_settle_3 : decode cX6_settle 3 = .ok (.getfield 7, 3) := by decide +kernel
theorem dX6_settle_6 : decode cX6_settle 6 = .ok (.sipush 6815, 3) := by decide +kernel
theorem dX6_settle_9 : decode cX6_settle 9 = .ok (.iaload, 1) := by decide +kernel
theorem dX6_settle_10 : decode cX6_settle 10 = .ok (.ifCond .le 14, 3) := by decide +kernel
theorem dX6_settle_13 : decode cX6_settle 13 = .ok (.aload_n 0, 1) := by decide +kernel
theorem dX6_settle_14 : decode cX6_settle 14 = .ok (.invokevirtual 87, 3) := by decide +kernel
theorem dX6_settle_17 : decode cX6_settle 17 = .ok (.pop, 1) := by decide +kernel
theorem dX6_settle_18 : decode cX6_settle 18 = .ok (.iinc 1 1, 3) := by decide +kernel
theorem dX6_settle_21 : decode cX6_settle 21 = .ok (.goto (-19), 3) := by decide +kernel
theorem dX6_settle_24 : decode cX6_settle 24 = .ok (.iload_n 1, 1) := by decide +kernel
theorem dX6_settle_25 : decode cX6_settle 25 = .ok (.ireturn, 1) := by decide +kernel
set_option maxRecDepth 20000 in
theorem ggX6_has_X6_isLamp : GoodIn wsX6_has wsX6_isLamp := goodIn_r _ [5, 6, 7, 4, 8] (by decide +kernel) (by decide +kernel)
set_option maxRecDepth 20000 in
theorem gX6_has_X6_isLamp : GoodIn wsX6_has (va_wsS RX6 24 yX6_isLamp wsX6_isLamp) := goodIn_app (goodIn_of _ (by decide +kernel)) ggX6_has_X6_isLamp
set_option maxRecDepth 20000 in
theorem ggX6_has_X6_in : GoodIn wsX6_has wsX6_in := goodIn_r _ [8] (by decide +kernel) (by decide +kernel)
set_option maxRecDepth 20000 in
theorem gX6_has_X6_in : GoodIn wsX6_has (va_wsS RX6 20 yX6_in wsX6_in) := goodIn_app (goodIn_of _ (by decide +kernel)) ggX6_has_X6_in
set_option maxRecDepth 20000 in
theorem ggX6_has_X6_isOf : GoodIn wsX6_has wsX6_isOf := goodIn_r _ [11] (by decide +kernel) (by decide +kernel)
set_option maxRecDepth 20000 in
theorem gX6_has_X6_isOf : GoodIn wsX6_has (va_wsS RX6 43 yX6_isOf wsX6_isOf) := goodIn_app (goodIn_of _ (by decide +kernel)) ggX6_has_X6_isOf
theorem dX6_has_0 : decode cX6_has 0 = .ok (.iload_n 1, 1) := by decide +kernel
theorem dX6_has_1 : decode cX6_has 1 = .ok (.invokestatic 24, 3) := by decide +kernel
theorem dX6_has_4 : decode cX6_has 4 = .ok (.ifCond .ne 5, 3) := by decide +kernel
theorem dX6_has_7 : decode cX6_has 7 = .ok (.iconst (-1), 1) := by decide +kernel
theorem dX6_has_8 : decode cX6_has 8 = .ok (.ireturn, 1) := by decide +kernel
theorem dX6_has_9 : decode cX6_has 9 = .ok (.iload_n 2, 1) := by decide +kernel
theorem dX6_has_10 : decode cX6_has 10 = .ok (.iconst 0, 1) := by decide +kernel
theorem dX6_has_11 : decode cX6_has 11 = .ok (.iconst 1, 1) := by decide +kernel
theorem dX6_has_12 : decode cX6_has 12 = .ok (.invokestatic 20, 3) := by decide +kernel
theorem dX6_has_15 : decode cX6_has 15 = .ok (.ifCond .ne 6, 3) := by decide +kernel
theorem dX6_has_18 : decode cX6_has 18 = .ok (.bipush (-2), 2) := by decide +kernel
theorem dX6_has_20 : decode cX6_has 20 = .ok (.ireturn, 1) := by decide +kernel
theorem dX6_has_21 : decode cX6_has 21 = .ok (.iload_n 2, 1) := by decide +kernel
theorem dX6_has_22 : decode cX6_has 22 = .ok (.ifCond .ne 14, 3) := by decide +kernel
theorem dX6_has_25 : decode cX6_has 25 = .ok (.aload_n 0, 1) := by decide +kernel
theorem dX6_has_26 : decode cX6_has 26 = .ok (.getfield 7, 3) := by decide +kernel
theorem dX6_has_29 : decode cX6_has 29 = .ok (.sipush 6813, 3) := by decide +kernel
theorem dX6_has_32 : decode cX6_has 32 = .ok (.iaload, 1) := by decide +kernel
theorem dX6_has_33 : decode cX6_has 33 = .ok (.goto 11, 3) := by decide +kernel
theorem dX6_has_36 : decode cX6_has 36 = .ok (.aload_n 0, 1) := by decide +kernel
theorem dX6_has_37 : decode cX6_has 37 = .ok (.getfield 7, 3) := by decide +kernel
theorem dX6_has_40 : decode cX6_has 40 = .ok (.sipush 6814, 3) := by decide +kernel
theorem dX6_has_43 : decode cX6_has 43 = .ok (.iaload, 1) := by decide +kernel
theorem dX6_has_44 : decode cX6_has 44 = .ok (.iload_n 1, 1) := by decide +kernel
theorem dX6_has_45 : decode cX6_has 45 = .ok (.invokestatic 43, 3) := by decide +kernel
theorem dX6_has_48 : decode cX6_has 48 = .ok (.ifCond .eq 7, 3) := by decide +kernel
theorem dX6_has_51 : decode cX6_has 51 = .ok (.iconst 1, 1) := by decide +kernel
theorem dX6_has_52 : decode cX6_has 52 = .ok (.goto 4, 3) := by decide +kernel
theorem dX6_has_55 : decode cX6_has 55 = .ok (.iconst 0, 1) := by decide +kernel
theorem dX6_has_56 : decode cX6_has 56 = .ok (.ireturn, 1) := by decide +kernel
set_option maxRecDepth 20000 in
theorem ggX6_lamp_X6_isLamp : GoodIn wsX6_lamp wsX6_isLamp := goodIn_r _ [5, 6, 7, 4, 8] (by decide +kernel) (by decide +kernel)
set_option maxRecDepth 20000 in
theorem gX6_lamp_X6_isLamp : GoodIn wsX6_lamp (va_wsS RX6 24 yX6_isLamp wsX6_isLamp) := goodIn_app (goodIn_of _ (by decide +kernel)) ggX6_lamp_X6_isLamp
set_option maxRecDepth 20000 in
theorem ggX6_lamp_X6_bits : GoodIn wsX6_lamp wsX6_bits := goodIn_r _ [11] (by decide +kernel) (by decide +kernel)
set_option maxRecDepth 20000 in
theorem gX6_lamp_X6_bits : GoodIn wsX6_lamp (va_wsS RX6 28 yX6_bits wsX6_bits) := goodIn_app (goodIn_of _ (by decide +kernel)) ggX6_lamp_X6_bits
theorem dX6_lamp_0 : decode cX6_lamp 0 = .ok (.iload_n 1, 1) := by decide +kernel
theorem dX6_lamp_1 : decode cX6_lamp 1 = .ok (.invokestatic 24, 3) := by decide +kernel
theorem dX6_lamp_4 : decode cX6_lamp 4 = .ok (.ifCond .ne 5, 3) := by decide +kernel
theorem dX6_lamp_7 : decode cX6_lamp 7 = .ok (.iconst (-1), 1) := by decide +kernel
theorem dX6_lamp_8 : decode cX6_lamp 8 = .ok (.ireturn, 1) := by decide +kernel
theorem dX6_lamp_9 : decode cX6_lamp 9 = .ok (.iload_n 2, 1) := by decide +kernel
theorem dX6_lamp_10 : decode cX6_lamp 10 = .ok (.tableswitch 202 0 12 #[66, 76, 86, 96, 106, 116, 126, 136, 146, 157, 168, 179, 190], 66) := by decide +kernel
theorem dX6_lamp_76 : decode cX6_lamp 76 = .ok (.aload_n 0, 1) := by decide +kernel
theorem dX6_lamp_77 : decode cX6_lamp 77 = .ok (.getfield 7, 3) := by decide +kernel
theorem dX6_lamp_80 : decode cX6_lamp 80 = .ok (.bipush 50, 2) := by decide +kernel
theorem dX6_lamp_82 : decode cX6_lamp 82 = .ok (.iload_n 1, 1) := by decide +kernel
theorem dX6_lamp_83 : decode cX6_lamp 83 = .ok (.iadd, 1) := by decide +kernel
theorem dX6_lamp_84 : decode cX6_lamp 84 = .ok (.iaload, 1) := by decide +kernel
theorem dX6_lamp_85 : decode cX6_lamp 85 = .ok (.ireturn, 1) := by decide +kernel
theorem dX6_lamp_86 : decode cX6_lamp 86 = .ok (.aload_n 0, 1) := by decide +kernel
theorem dX6_lamp_87 : decode cX6_lamp 87 = .ok (.getfield 7, 3) := by decide +kernel
theorem dX6_lamp_90 : decode cX6_lamp 90 = .ok (.bipush 60, 2) := by decide +kernel
theorem dX6_lamp_92 : decode cX6_lamp 92 = .ok (.iload_n 1, 1) := by decide +kernel
theorem dX6_lamp_93 : decode cX6_lamp 93 = .ok (.iadd, 1) := by decide +kernel
theorem dX6_lamp_94 : decode cX6_lamp 94 = .ok (.iaload, 1) := by decide +kernel
theorem dX6_lamp_95 : decode cX6_lamp 95 = .ok (.ireturn, 1) := by decide +kernel
theorem dX6_lamp_96 : decode cX6_lamp 96 = .ok (.aload_n 0, 1) := by decide +kernel
theorem dX6_lamp_97 : decode cX6_lamp 97 = .ok (.getfield 7, 3) := by decide +kernel
theorem dX6_lamp_100 : decode cX6_lamp 100 = .ok (.bipush 70, 2) := by decide +kernel
theorem dX6_lamp_102 : decode cX6_lamp 102 = .ok (.iload_n 1, 1) := by decide +kernel
theorem dX6_lamp_103 : decode cX6_lamp 103 = .ok (.iadd, 1) := by decide +kernel
theorem dX6_lamp_104 : decode cX6_lamp 104 = .ok (.iaload, 1) := by decide +kernel
theorem dX6_lamp_105 : decode cX6_lamp 105 = .ok (.ireturn, 1) := by decide +kernel
theorem dX6_lamp_106 : decode cX6_lamp 106 = .ok (.aload_n 0, 1) := by decide +kernel
theorem dX6_lamp_107 : decode cX6_lamp 107 = .ok (.getfield 7, 3) := by decide +kernel
theorem dX6_lamp_110 : decode cX6_lamp 110 = .ok (.bipush 80, 2) := by decide +kernel
theorem dX6_lamp_112 : decode cX6_lamp 112 = .ok (.iload_n 1, 1) := by decide +kernel
theorem dX6_lamp_113 : decode cX6_lamp 113 = .ok (.iadd, 1) := by decide +kernel
theorem dX6_lamp_114 : decode cX6_lamp 114 = .ok (.iaload, 1) := by decide +kernel
theorem dX6_lamp_115 : decode cX6_lamp 115 = .ok (.ireturn, 1) := by decide +kernel
theorem dX6_lamp_116 : decode cX6_lamp 116 = .ok (.aload_n 0, 1) := by decide +kernel
theorem dX6_lamp_117 : decode cX6_lamp 117 = .ok (.getfield 7, 3) := by decide +kernel
theorem dX6_lamp_120 : decode cX6_lamp 120 = .ok (.bipush 90, 2) := by decide +kernel
theorem dX6_lamp_122 : decode cX6_lamp 122 = .ok (.iload_n 1, 1) := by decide +kernel
theorem dX6_lamp_123 : decode cX6_lamp 123 = .ok (.iadd, 1) := by decide +kernel
theorem dX6_lamp_124 : decode cX6_lamp 124 = .ok (.iaload, 1) := by decide +kernel
theorem dX6_lamp_125 : decode cX6_lamp 125 = .ok (.ireturn, 1) := by decide +kernel
theorem dX6_lamp_126 : decode cX6_lamp 126 = .ok (.aload_n 0, 1) := by decide +kernel
theorem dX6_lamp_127 : decode cX6_lamp 127 = .ok (.getfield 7, 3) := by decide +kernel
theorem dX6_lamp_130 : decode cX6_lamp 130 = .ok (.bipush 100, 2) := by decide +kernel
theorem dX6_lamp_132 : decode cX6_lamp 132 = .ok (.iload_n 1, 1) := by decide +kernel
theorem dX6_lamp_133 : decode cX6_lamp 133 = .ok (.iadd, 1) := by decide +kernel
theorem dX6_lamp_134 : decode cX6_lamp 134 = .ok (.iaload, 1) := by decide +kernel
theorem dX6_lamp_135 : decode cX6_lamp 135 = .ok (.ireturn, 1) := by decide +kernel
theorem dX6_lamp_136 : decode cX6_lamp 136 = .ok (.aload_n 0, 1) := by decide +kernel
theorem dX6_lamp_137 : decode cX6_lamp 137 = .ok (.getfield 7, 3) := by decide +kernel
theorem dX6_lamp_140 : decode cX6_lamp 140 = .ok (.bipush 110, 2) := by decide +kernel
theorem dX6_lamp_142 : decode cX6_lamp 142 = .ok (.iload_n 1, 1) := by decide +kernel
theorem dX6_lamp_143 : decode cX6_lamp 143 = .ok (.iadd, 1) := by decide +kernel
theorem dX6_lamp_144 : decode cX6_lamp 144 = .ok (.iaload, 1) := by decide +kernel
theorem dX6_lamp_145 : decode cX6_lamp 145 = .ok (.ireturn, 1) := by decide +kernel
theorem dX6_lamp_146 : decode cX6_lamp 146 = .ok (.aload_n 0, 1) := by decide +kernel
theorem dX6_lamp_147 : decode cX6_lamp 147 = .ok (.getfield 7, 3) := by decide +kernel
theorem dX6_lamp_150 : decode cX6_lamp 150 = .ok (.bipush 120, 2) := by decide +kernel
theorem dX6_lamp_152 : decode cX6_lamp 152 = .ok (.iload_n 1, 1) := by decide +kernel
theorem dX6_lamp_153 : decode cX6_lamp 153 = .ok (.iadd, 1) := by decide +kernel
theorem dX6_lamp_154 : decode cX6_lamp 154 = .ok (.iaload, 1) := by decide +kernel
theorem dX6_lamp_155 : decode cX6_lamp 155 = .ok (.ireturn, 1) := by decide +kernel
theorem dX6_lamp_156 : decode cX6_lamp 156 = .ok (.aload_n 0, 1) := by decide +kernel
theorem dX6_lamp_157 : decode cX6_lamp 157 = .ok (.getfield 7, 3) := by decide +kernel
theorem dX6_lamp_160 : decode cX6_lamp 160 = .ok (.sipush 130, 3) := by decide +kernel
theorem dX6_lamp_163 : decode cX6_lamp 163 = .ok (.iload_n 1, 1) := by decide +kernel
theorem dX6_lamp_164 : decode cX6_lamp 164 = .ok (.iadd, 1) := by decide +kernel
theorem dX6_lamp_165 : decode cX6_lamp 165 = .ok (.iaload, 1) := by decide +kernel
theorem dX6_lamp_166 : decode cX6_lamp 166 = .ok (.ireturn, 1) := by decide +kernel
theorem dX6_lamp_167 : decode cX6_lamp 167 = .ok (.aload_n 0, 1) := by decide +kernel
theorem dX6_lamp_168 : decode cX6_lamp 168 = .ok (.getfield 7, 3) := by decide +kernel
theorem dX6_lamp_171 : decode cX6_lamp 171 = .ok (.sipush 140, 3) := by decide +kernel
theorem dX6_lamp_174 : decode cX6_lamp 174 = .ok (.iload_n 1, 1) := by decide +kernel
theorem dX6_lamp_175 : decode cX6_lamp 175 = .ok (.iadd, 1) := by decide +kernel
theorem dX6_lamp_176 : decode cX6_lamp 176 = .ok (.iaload, 1) := by decide +kernel
theorem dX6_lamp_177 : decode cX6_lamp 177 = .ok (.ireturn, 1) := by decide +kernel
theorem dX6_lamp_178 : decode cX6_lamp 178 = .ok (.aload_n 0, 1) := by decide +kernel
theorem dX6_lamp_179 : decode cX6_lamp 179 = .ok (.getfield 7, 3) := by decide +kernel
theorem dX6_lamp_182 : decode cX6_lamp 182 = .ok (.sipush 150, 3) := by decide +kernel
theorem dX6_lamp_185 : decode cX6_lamp 185 = .ok (.iload_n 1, 1) := by decide +kernel
theorem dX6_lamp_186 : decode cX6_lamp 186 = .ok (.iadd, 1) := by decide +kernel
theorem dX6_lamp_187 : decode cX6_lamp 187 = .ok (.iaload, 1) := by decide +kernel
theorem dX6_lamp_188 : decode cX6_lamp 188 = .ok (.ireturn, 1) := by decide +kernel
theorem dX6_lamp_189 : decode cX6_lamp 189 = .ok (.aload_n 0, 1) := by decide +kernel
theorem dX6_lamp_190 : decode cX6_lamp 190 = .ok (.getfield 7, 3) := by decide +kernel
theorem dX6_lamp_193 : decode cX6_lamp 193 = .ok (.sipush 160, 3) := by decide +kernel
theorem dX6_lamp_196 : decode cX6_lamp 196 = .ok (.iload_n 1, 1) := by decide +kernel
theorem dX6_lamp_197 : decode cX6_lamp 197 = .ok (.iadd, 1) := by decide +kernel
theorem dX6_lamp_198 : decode cX6_lamp 198 = .ok (.iaload, 1) := by decide +kernel
theorem dX6_lamp_199 : decode cX6_lamp 199 = .ok (.ireturn, 1) := by decide +kernel
theorem dX6_lamp_200 : decode cX6_lamp 200 = .ok (.aload_n 0, 1) := by decide +kernel
theorem dX6_lamp_201 : decode cX6_lamp 201 = .ok (.getfield 7, 3) := by decide +kernel
theorem dX6_lamp_204 : decode cX6_lamp 204 = .ok (.iconst 0, 1) := by decide +kernel
theorem dX6_lamp_205 : decode cX6_lamp 205 = .ok (.iload_n 1, 1) := by decide +kernel
theorem dX6_lamp_206 : decode cX6_lamp 206 = .ok (.iadd, 1) := by decide +kernel
theorem dX6_lamp_207 : decode cX6_lamp 207 = .ok (.iaload, 1) := by decide +kernel
theorem dX6_lamp_208 : decode cX6_lamp 208 = .ok (.invokestatic 28, 3) := by decide +kernel
theorem dX6_lamp_211 : decode cX6_lamp 211 = .ok (.ireturn, 1) := by decide +kernel
theorem dX6_lamp_212 : decode cX6_lamp 212 = .ok (.bipush (-2), 2) := by decide +kernel
theorem dX6_lamp_214 : decode cX6_lamp 214 = .ok (.ireturn, 1) := by decide +kernel
set_option maxRecDepth 20000 in
theorem ggX6_taken_X6_isLamp : GoodIn wsX6_taken wsX6_isLamp := goodIn_r _ [5, 6, 7, 4, 8] (by decide +kernel) (by decide +kernel)
set_option maxRecDepth 20000 in
theorem gX6_taken_X6_isLamp : GoodIn wsX6_taken (va_wsS RX6 24 yX6_isLamp wsX6_isLamp) := goodIn_app (goodIn_of _ (by decide +kernel)) ggX6_taken_X6_isLamp
theorem dX6_taken_0 : decode cX6_taken 0 = .ok (.iload_n 1, 1) := by decide +kernel
theorem dX6_taken_1 : decode cX6_taken 1 = .ok (.invokestatic 24, 3) := by decide +kernel
theorem dX6_taken_4 : decode cX6_taken 4 = .ok (.ifCond .eq 28, 3) := by decide +kernel
theorem dX6_taken_7 : decode cX6_taken 7 = .ok (.iload_n 2, 1) := by decide +kernel
theorem dX6_taken_8 : decode cX6_taken 8 = .ok (.invokestatic 24, 3) := by decide +kernel
theorem dX6_taken_11 : decode cX6_taken 11 = .ok (.ifCond .eq 21, 3) := by decide +kernel
theorem dX6_taken_14 : decode cX6_taken 14 = .ok (.aload_n 0, 1) := by decide +kernel
theorem dX6_taken_15 : decode cX6_taken 15 = .ok (.getfield 7, 3) := by decide +kernel
theorem dX6_taken_18 : decode cX6_taken 18 = .ok (.sipush 330, 3) := by decide +kernel
theorem dX6_taken_21 : decode cX6_taken 21 = .ok (.bipush 10, 2) := by decide +kernel
theorem dX6_taken_23 : decode cX6_taken 23 = .ok (.iload_n 1, 1) := by decide +kernel
theorem dX6_taken_24 : decode cX6_taken 24 = .ok (.imul, 1) := by decide +kernel
theorem dX6_taken_25 : decode cX6_taken 25 = .ok (.iadd, 1) := by decide +kernel
theorem dX6_taken_26 : decode cX6_taken 26 = .ok (.iload_n 2, 1) := by decide +kernel
theorem dX6_taken_27 : decode cX6_taken 27 = .ok (.iadd, 1) := by decide +kernel
theorem dX6_taken_28 : decode cX6_taken 28 = .ok (.iaload, 1) := by decide +kernel
theorem dX6_taken_29 : decode cX6_taken 29 = .ok (.goto 4, 3) := by decide +kernel
theorem dX6_taken_32 : decode cX6_taken 32 = .ok (.iconst (-1), 1) := by decide +kernel
theorem dX6_taken_33 : decode cX6_taken 33 = .ok (.ireturn, 1) := by decide +kernel
set_option maxRecDepth 20000 in
theorem ggX6_mind_X6_isLamp : GoodIn wsX6_mind wsX6_isLamp := goodIn_r _ [5, 6, 7, 4, 8] (by decide +kernel) (by decide +kernel)
set_option maxRecDepth 20000 in
theorem gX6_mind_X6_isLamp : GoodIn wsX6_mind (va_wsS RX6 24 yX6_isLamp wsX6_isLamp) := goodIn_app (goodIn_of _ (by decide +kernel)) ggX6_mind_X6_isLamp
set_option maxRecDepth 20000 in
theorem ggX6_mind_X6_in : GoodIn wsX6_mind wsX6_in := goodIn_r _ [8] (by decide +kernel) (by decide +kernel)
set_option maxRecDepth 20000 in
theorem gX6_mind_X6_in : GoodIn wsX6_mind (va_wsS RX6 20 yX6_in wsX6_in) := goodIn_app (goodIn_of _ (by decide +kernel)) ggX6_mind_X6_in
theorem dX6_mind_0 : decode cX6_mind 0 = .ok (.iload_n 1, 1) := by decide +kernel
theorem dX6_mind_1 : decode cX6_mind 1 = .ok (.invokestatic 24, 3) := by decide +kernel
theorem dX6_mind_4 : decode cX6_mind 4 = .ok (.ifCond .ne 5, 3) := by decide +kernel
theorem dX6_mind_7 : decode cX6_mind 7 = .ok (.iconst (-1), 1) := by decide +kernel
theorem dX6_mind_8 : decode cX6_mind 8 = .ok (.ireturn, 1) := by decide +kernel
theorem dX6_mind_9 : decode cX6_mind 9 = .ok (.iload_n 3, 1) := by decide +kernel
theorem dX6_mind_10 : decode cX6_mind 10 = .ok (.iconst 0, 1) := by decide +kernel
theorem dX6_mind_11 : decode cX6_mind 11 = .ok (.iconst 1, 1) := by decide +kernel
theorem dX6_mind_12 : decode cX6_mind 12 = .ok (.invokestatic 20, 3) := by decide +kernel
theorem dX6_mind_15 : decode cX6_mind 15 = .ok (.ifCond .ne 6, 3) := by decide +kernel
theorem dX6_mind_18 : decode cX6_mind 18 = .ok (.bipush (-2), 2) := by decide +kernel
theorem dX6_mind_20 : decode cX6_mind 20 = .ok (.ireturn, 1) := by decide +kernel
theorem dX6_mind_21 : decode cX6_mind 21 = .ok (.iload_n 2, 1) := by decide +kernel
theorem dX6_mind_22 : decode cX6_mind 22 = .ok (.iconst 0, 1) := by decide +kernel
theorem dX6_mind_23 : decode cX6_mind 23 = .ok (.aload_n 0, 1) := by decide +kernel
theorem dX6_mind_24 : decode cX6_mind 24 = .ok (.getfield 7, 3) := by decide +kernel
theorem dX6_mind_27 : decode cX6_mind 27 = .ok (.sipush 160, 3) := by decide +kernel
theorem dX6_mind_30 : decode cX6_mind 30 = .ok (.iload_n 1, 1) := by decide +kernel
theorem dX6_mind_31 : decode cX6_mind 31 = .ok (.iadd, 1) := by decide +kernel
theorem dX6_mind_32 : decode cX6_mind 32 = .ok (.iaload, 1) := by decide +kernel
theorem dX6_mind_33 : decode cX6_mind 33 = .ok (.iconst 1, 1) := by decide +kernel
theorem dX6_mind_34 : decode cX6_mind 34 = .ok (.isub, 1) := by decide +kernel
theorem dX6_mind_35 : decode cX6_mind 35 = .ok (.invokestatic 20, 3) := by decide +kernel
theorem dX6_mind_38 : decode cX6_mind 38 = .ok (.ifCond .eq 25, 3) := by decide +kernel
theorem dX6_mind_41 : decode cX6_mind 41 = .ok (.aload_n 0, 1) := by decide +kernel
theorem dX6_mind_42 : decode cX6_mind 42 = .ok (.getfield 7, 3) := by decide +kernel
theorem dX6_mind_45 : decode cX6_mind 45 = .ok (.sipush 170, 3) := by decide +kernel
theorem dX6_mind_48 : decode cX6_mind 48 = .ok (.bipush 16, 2) := by decide +kernel
theorem dX6_mind_50 : decode cX6_mind 50 = .ok (.iload_n 1, 1) := by decide +kernel
theorem dX6_mind_51 : decode cX6_mind 51 = .ok (.imul, 1) := by decide +kernel
theorem dX6_mind_52 : decode cX6_mind 52 = .ok (.iadd, 1) := by decide +kernel
theorem dX6_mind_53 : decode cX6_mind 53 = .ok (.iconst 2, 1) := by decide +kernel
theorem dX6_mind_54 : decode cX6_mind 54 = .ok (.iload_n 2, 1) := by decide +kernel
theorem dX6_mind_55 : decode cX6_mind 55 = .ok (.imul, 1) := by decide +kernel
theorem dX6_mind_56 : decode cX6_mind 56 = .ok (.iadd, 1) := by decide +kernel
theorem dX6_mind_57 : decode cX6_mind 57 = .ok (.iload_n 3, 1) := by decide +kernel
theorem dX6_mind_58 : decode cX6_mind 58 = .ok (.iadd, 1) := by decide +kernel
theorem dX6_mind_59 : decode cX6_mind 59 = .ok (.iaload, 1) := by decide +kernel
theorem dX6_mind_60 : decode cX6_mind 60 = .ok (.goto 5, 3) := by decide +kernel
theorem dX6_mind_63 : decode cX6_mind 63 = .ok (.bipush (-6), 2) := by decide +kernel
theorem dX6_mind_65 : decode cX6_mind 65 = .ok (.ireturn, 1) := by decide +kernel
set_option maxRecDepth 20000 in
theorem ggX6_air_X6_in : GoodIn wsX6_air wsX6_in := goodIn_r _ [5] (by decide +kernel) (by decide +kernel)
set_option maxRecDepth 20000 in
theorem gX6_air_X6_in : GoodIn wsX6_air (va_wsS RX6 20 yX6_in wsX6_in) := goodIn_app (goodIn_of _ (by decide +kernel)) ggX6_air_X6_in
theorem dX6_air_0 : decode cX6_air 0 = .ok (.iload_n 2, 1) := by decide +kernel
theorem dX6_air_1 : decode cX6_air 1 = .ok (.iconst 0, 1) := by decide +kernel
theorem dX6_air_2 : decode cX6_air 2 = .ok (.iconst 4, 1) := by decide +kernel
theorem dX6_air_3 : decode cX6_air 3 = .ok (.invokestatic 20, 3) := by decide +kernel
theorem dX6_air_6 : decode cX6_air 6 = .ok (.ifCond .ne 6, 3) := by decide +kernel
theorem dX6_air_9 : decode cX6_air 9 = .ok (.bipush (-2), 2) := by decide +kernel
theorem dX6_air_11 : decode cX6_air 11 = .ok (.ireturn, 1) := by decide +kernel
theorem dX6_air_12 : decode cX6_air 12 = .ok (.iload_n 1, 1) := by decide +kernel
theorem dX6_air_13 : decode cX6_air 13 = .ok (.iconst 0, 1) := by decide +kernel
theorem dX6_air_14 : decode cX6_air 14 = .ok (.aload_n 0, 1) := by decide +kernel
theorem dX6_air_15 : decode cX6_air 15 = .ok (.getfield 7, 3) := by decide +kernel
theorem dX6_air_18 : decode cX6_air 18 = .ok (.sipush 6815, 3) := by decide +kernel
theorem dX6_air_21 : decode cX6_air 21 = .ok (.iaload, 1) := by decide +kernel
theorem dX6_air_22 : decode cX6_air 22 = .ok (.iconst 1, 1) := by decide +kernel
theorem dX6_air_23 : decode cX6_air 23 = .ok (.isub, 1) := by decide +kernel
theorem dX6_air_24 : decode cX6_air 24 = .ok (.invokestatic 20, 3) := by decide +kernel
theorem dX6_air_27 : decode cX6_air 27 = .ok (.ifCond .eq 20, 3) := by decide +kernel
theorem dX6_air_30 : decode cX6_air 30 = .ok (.aload_n 0, 1) := by decide +kernel
theorem dX6_air_31 : decode cX6_air 31 = .ok (.getfield 7, 3) := by decide +kernel
theorem dX6_air_34 : decode cX6_air 34 = .ok (.sipush 490, 3) := by decide +kernel
theorem dX6_air_37 : decode cX6_air 37 = .ok (.iconst 5, 1) := by decide +kernel
theorem dX6_air_38 : decode cX6_air 38 = .ok (.iload_n 1, 1) := by decide +kernel
theorem dX6_air_39 : decode cX6_air 39 = .ok (.imul, 1) := by decide +kernel
theorem dX6_air_40 : decode cX6_air 40 = .ok (.iadd, 1) := by decide +kernel
theorem dX6_air_41 : decode cX6_air 41 = .ok (.iload_n 2, 1) := by decide +kernel
theorem dX6_air_42 : decode cX6_air 42 = .ok (.iadd, 1) := by decide +kernel
theorem dX6_air_43 : decode cX6_air 43 = .ok (.iaload, 1) := by decide +kernel
theorem dX6_air_44 : decode cX6_air 44 = .ok (.goto 5, 3) := by decide +kernel
theorem dX6_air_47 : decode cX6_air 47 = .ok (.bipush (-6), 2) := by decide +kernel
theorem dX6_air_49 : decode cX6_air 49 = .ok (.ireturn, 1) := by decide +kernel
set_option maxRecDepth 20000 in
theorem ggX6_image_X6_in : GoodIn wsX6_image wsX6_in := goodIn_r _ [7] (by decide +kernel) (by decide +kernel)
set_option maxRecDepth 20000 in
theorem gX6_image_X6_in : GoodIn wsX6_image (va_wsS RX6 20 yX6_in wsX6_in) := goodIn_app (goodIn_of _ (by decide +kernel)) ggX6_image_X6_in
theorem dX6_image_0 : decode cX6_image 0 = .ok (.iload_n 1, 1) := by decide +kernel
theorem dX6_image_1 : decode cX6_image 1 = .ok (.iconst 0, 1) := by decide +kernel
theorem dX6_image_2 : decode cX6_image 2 = .ok (.iconst 1, 1) := by decide +kernel
theorem dX6_image_3 : decode cX6_image 3 = .ok (.invokestatic 20, 3) := by decide +kernel
theorem dX6_image_6 : decode cX6_image 6 = .ok (.ifCond .ne 6, 3) := by decide +kernel
theorem dX6_image_9 : decode cX6_image 9 = .ok (.bipush (-2), 2) := by decide +kernel
theorem dX6_image_11 : decode cX6_image 11 = .ok (.ireturn, 1) := by decide +kernel
theorem dX6_image_12 : decode cX6_image 12 = .ok (.iconst 0, 1) := by decide +kernel
theorem dX6_image_13 : decode cX6_image 13 = .ok (.istore_n 2, 1) := by decide +kernel
theorem dX6_image_14 : decode cX6_image 14 = .ok (.iload_n 2, 1) := by decide +kernel
theorem dX6_image_15 : decode cX6_image 15 = .ok (.sipush 6819, 3) := by decide +kernel
theorem dX6_image_18 : decode cX6_image 18 = .ok (.if_icmp .ge 27, 3) := by decide +kernel
theorem dX6_image_21 : decode cX6_image 21 = .ok (.aload_n 0, 1) := by decide +kernel
theorem dX6_image_22 : decode cX6_image 22 = .ok (.getfield 13, 3) := by decide +kernel
theorem dX6_image_25 : decode cX6_image 25 = .ok (.sipush 6819, 3) := by decide +kernel
theorem dX6_image_28 : decode cX6_image 28 = .ok (.iload_n 1, 1) := by decide +kernel
theorem dX6_image_29 : decode cX6_image 29 = .ok (.imul, 1) := by decide +kernel
theorem dX6_image_30 : decode cX6_image 30 = .ok (.iload_n 2, 1) := by decide +kernel
theorem dX6_image_31 : decode cX6_image 31 = .ok (.iadd, 1) := by decide +kernel
theorem dX6_image_32 : decode cX6_image 32 = .ok (.aload_n 0, 1) := by decide +kernel
theorem dX6_image_33 : decode cX6_image 33 = .ok (.getfield 7, 3) := by decide +kernel
theorem dX6_image_36 : decode cX6_image 36 = .ok (.iload_n 2, 1) := by decide +kernel
theorem dX6_image_37 : decode cX6_image 37 = .ok (.iaload, 1) := by decide +kernel
theorem dX6_image_38 : decode cX6_image 38 = .ok (.iastore, 1) := by decide +kernel
theorem dX6_image_39 : decode cX6_image 39 = .ok (.iinc 2 1, 3) := by decide +kernel
theorem dX6_image_42 : decode cX6_image 42 = .ok (.goto (-28), 3) := by decide +kernel
theorem dX6_image_45 : decode cX6_image 45 = .ok (.aload_n 0, 1) := by decide +kernel
theorem dX6_image_46 : decode cX6_image 46 = .ok (.getfield 16, 3) := by decide +kernel
theorem dX6_image_49 : decode cX6_image 49 = .ok (.iload_n 1, 1) := by decide +kernel
theorem dX6_image_50 : decode cX6_image 50 = .ok (.iconst 1, 1) := by decide +kernel
theorem dX6_image_51 : decode cX6_image 51 = .ok (.bastore, 1) := by decide +kernel
theorem dX6_image_52 : decode cX6_image 52 = .ok (.iconst 1, 1) := by decide +kernel
theorem dX6_image_53 : decode cX6_image 53 = .ok (.ireturn, 1) := by decide +kernel
set_option maxRecDepth 20000 in
theorem ggX6_restore_X6_in : GoodIn wsX6_restore wsX6_in := goodIn_r _ [7] (by decide +kernel) (by decide +kernel)
set_option maxRecDepth 20000 in
theorem gX6_restore_X6_in : GoodIn wsX6_restore (va_wsS RX6 20 yX6_in wsX6_in) := goodIn_app (goodIn_of _ (by decide +kernel)) ggX6_restore_X6_in
theorem dX6_restore_0 : decode cX6_restore 0 = .ok (.iload_n 1, 1) := by decide +kernel
theorem dX6_restore_1 : decode cX6_restore 1 = .ok (.iconst 0, 1) := by decide +kernel
theorem dX6_restore_2 : decode cX6_restore 2 = .ok (.iconst 1, 1) := by decide +kernel
theorem dX6_restore_3 : decode cX6_restore 3 = .ok (.invokestatic 20, 3) := by decide +kernel
theorem dX6_restore_6 : decode cX6_restore 6 = .ok (.ifCond .ne 6, 3) := by decide +kernel
theorem dX6_restore_9 : decode cX6_restore 9 = .ok (.bipush (-2), 2) := by decide +kernel
theorem dX6_restore_11 : decode cX6_restore 11 = .ok (.ireturn, 1) := by decide +kernel
theorem dX6_restore_12 : decode cX6_restore 12 = .ok (.aload_n 0, 1) := by decide +kernel
theorem dX6_restore_13 : decode cX6_restore 13 = .ok (.getfield 16, 3) := by decide +kernel
theorem dX6_restore_16 : decode cX6_restore 16 = .ok (.iload_n 1, 1) := by decide +kernel
theorem dX6_restore_17 : decode cX6_restore 17 = .ok (.baload, 1) := by decide +kernel
theorem dX6_restore_18 : decode cX6_restore 18 = .ok (.ifCond .ne 6, 3) := by decide +kernel
theorem dX6_restore_21 : decode cX6_restore 21 = .ok (.bipush (-3), 2) := by decide +kernel
theorem dX6_restore_23 : decode cX6_restore 23 = .ok (.ireturn, 1) := by decide +kernel
theorem dX6_restore_24 : decode cX6_restore 24 = .ok (.iconst 0, 1) := by decide +kernel
theorem dX6_restore_25 : decode cX6_restore 25 = .ok (.istore_n 2, 1) := by decide +kernel
theorem dX6_restore_26 : decode cX6_restore 26 = .ok (.iload_n 2, 1) := by decide +kernel
theorem dX6_restore_27 : decode cX6_restore 27 = .ok (.sipush 6819, 3) := by decide +kernel
theorem dX6_restore_30 : decode cX6_restore 30 = .ok (.if_icmp .ge 27, 3) := by decide +kernel
theorem dX6_restore_33 : decode cX6_restore 33 = .ok (.aload_n 0, 1) := by decide +kernel
theorem dX6_restore_34 : decode cX6_restore 34 = .ok (.getfield 7, 3) := by decide +kernel
theorem dX6_restore_37 : decode cX6_restore 37 = .ok (.iload_n 2, 1) := by decide +kernel
theorem dX6_restore_38 : decode cX6_restore 38 = .ok (.aload_n 0, 1) := by decide +kernel
theorem dX6_restore_39 : decode cX6_restore 39 = .ok (.getfield 13, 3) := by decide +kernel
theorem dX6_restore_42 : decode cX6_restore 42 = .ok (.sipush 6819, 3) := by decide +kernel
theorem dX6_restore_45 : decode cX6_restore 45 = .ok (.iload_n 1, 1) := by decide +kernel
theorem dX6_restore_46 : decode cX6_restore 46 = .ok (.imul, 1) := by decide +kernel
theorem dX6_restore_47 : decode cX6_restore 47 = .ok (.iload_n 2, 1) := by decide +kernel
theorem dX6_restore_48 : decode cX6_restore 48 = .ok (.iadd, 1) := by decide +kernel
theorem dX6_restore_49 : decode cX6_restore 49 = .ok (.iaload, 1) := by decide +kernel
theorem dX6_restore_50 : decode cX6_restore 50 = .ok (.iastore, 1) := by decide +kernel
theorem dX6_restore_51 : decode cX6_restore 51 = .ok (.iinc 2 1, 3) := by decide +kernel
theorem dX6_restore_54 : decode cX6_restore 54 = .ok (.goto (-28), 3) := by decide +kernel
theorem dX6_restore_57 : decode cX6_restore 57 = .ok (.iconst 1, 1) := by decide +kernel
theorem dX6_restore_58 : decode cX6_restore 58 = .ok (.ireturn, 1) := by decide +kernel
theorem dX6_asleep_0 : decode cX6_asleep 0 = .ok (.iconst 0, 1) := by decide +kernel
theorem dX6_asleep_1 : decode cX6_asleep 1 = .ok (.istore_n 1, 1) := by decide +kernel
theorem dX6_asleep_2 : decode cX6_asleep 2 = .ok (.iconst 0, 1) := by decide +kernel
theorem dX6_asleep_3 : decode cX6_asleep 3 = .ok (.istore_n 2, 1) := by decide +kernel
theorem dX6_asleep_4 : decode cX6_asleep 4 = .ok (.iload_n 2, 1) := by decide +kernel
theorem dX6_asleep_5 : decode cX6_asleep 5 = .ok (.bipush 10, 2) := by decide +kernel
theorem dX6_asleep_7 : decode cX6_asleep 7 = .ok (.if_icmp .ge 21, 3) := by decide +kernel
theorem dX6_asleep_10 : decode cX6_asleep 10 = .ok (.iload_n 1, 1) := by decide +kernel
theorem dX6_asleep_11 : decode cX6_asleep 11 = .ok (.aload_n 0, 1) := by decide +kernel
theorem dX6_asleep_12 : decode cX6_asleep 12 = .ok (.getfield 7, 3) := by decide +kernel
theorem dX6_asleep_15 : decode cX6_asleep 15 = .ok (.bipush 60, 2) := by decide +kernel
theorem dX6_asleep_17 : decode cX6_asleep 17 = .ok (.iload_n 2, 1) := by decide +kernel
theorem dX6_asleep_18 : decode cX6_asleep 18 = .ok (.iadd, 1) := by decide +kernel
theorem dX6_asleep_19 : decode cX6_asleep 19 = .ok (.iaload, 1) := by decide +kernel
theorem dX6_asleep_20 : decode cX6_asleep 20 = .ok (.iadd, 1) := by decide +kernel
theorem dX6_asleep_21 : decode cX6_asleep 21 = .ok (.istore_n 1, 1) := by decide +kernel
theorem dX6_asleep_22 : decode cX6_asleep 22 = .ok (.iinc 2 1, 3) := by decide +kernel
theorem dX6_asleep_25 : decode cX6_asleep 25 = .ok (.goto (-21), 3) := by decide +kernel
theorem dX6_asleep_28 : decode cX6_asleep 28 = .ok (.iload_n 1, 1) := by decide +kernel
theorem dX6_asleep_29 : decode cX6_asleep 29 = .ok (.ireturn, 1) := by decide +kernel
theorem dX6_lights_0 : decode cX6_lights 0 = .ok (.iconst 0, 1) := by decide +kernel
theorem dX6_lights_1 : decode cX6_lights 1 = .ok (.istore_n 1, 1) := by decide +kernel
theorem dX6_lights_2 : decode cX6_lights 2 = .ok (.iconst 0, 1) := by decide +kernel
theorem dX6_lights_3 : decode cX6_lights 3 = .ok (.istore_n 2, 1) := by decide +kernel
theorem dX6_lights_4 : decode cX6_lights 4 = .ok (.iload_n 2, 1) := by decide +kernel
theorem dX6_lights_5 : decode cX6_lights 5 = .ok (.bipush 10, 2) := by decide +kernel
theorem dX6_lights_7 : decode cX6_lights 7 = .ok (.if_icmp .ge 21, 3) := by decide +kernel
theorem dX6_lights_10 : decode cX6_lights 10 = .ok (.iload_n 1, 1) := by decide +kernel
theorem dX6_lights_11 : decode cX6_lights 11 = .ok (.aload_n 0, 1) := by decide +kernel
theorem dX6_lights_12 : decode cX6_lights 12 = .ok (.getfield 7, 3) := by decide +kernel
theorem dX6_lights_15 : decode cX6_lights 15 = .ok (.bipush 50, 2) := by decide +kernel
theorem dX6_lights_17 : decode cX6_lights 17 = .ok (.iload_n 2, 1) := by decide +kernel
theorem dX6_lights_18 : decode cX6_lights 18 = .ok (.iadd, 1) := by decide +kernel
theorem dX6_lights_19 : decode cX6_lights 19 = .ok (.iaload, 1) := by decide +kernel
theorem dX6_lights_20 : decode cX6_lights 20 = .ok (.iadd, 1) := by decide +kernel
theorem dX6_lights_21 : decode cX6_lights 21 = .ok (.istore_n 1, 1) := by decide +kernel
theorem dX6_lights_22 : decode cX6_lights 22 = .ok (.iinc 2 1, 3) := by decide +kernel
theorem dX6_lights_25 : decode cX6_lights 25 = .ok (.goto (-21), 3) := by decide +kernel
theorem dX6_lights_28 : decode cX6_lights 28 = .ok (.iload_n 1, 1) := by decide +kernel
theorem dX6_lights_29 : decode cX6_lights 29 = .ok (.ireturn, 1) := by decide +kernel
set_option maxRecDepth 20000 in
theorem ggX6_count_X6_asleep : GoodIn wsX6_count wsX6_asleep := goodIn_r _ [7, 1, 12, 13, 14] (by decide +kernel) (by decide +kernel)
set_option maxRecDepth 20000 in
theorem gX6_count_X6_asleep : GoodIn wsX6_count (wsV RX6 90 RX6 yX6_asleep wsX6_asleep) := goodIn_app (goodIn_of _ (by decide +kernel)) ggX6_count_X6_asleep
set_option maxRecDepth 20000 in
theorem ggX6_count_X6_lights : GoodIn wsX6_count wsX6_lights := goodIn_r _ [11, 1, 12, 13, 14] (by decide +kernel) (by decide +kernel)
set_option maxRecDepth 20000 in
theorem gX6_count_X6_lights : GoodIn wsX6_count (wsV RX6 93 RX6 yX6_lights wsX6_lights) := goodIn_app (goodIn_of _ (by decide +kernel)) ggX6_count_X6_lights
theorem dX6_count_0 : decode cX6_count 0 = .ok (.iload_n 1, 1) := by decide +kernel
theorem dX6_count_1 : decode cX6_count 1 = .ok (.tableswitch 158 0 9 #[55, 64, 73, 82, 91, 96, 101, 110, 119, 128], 55) := by decide +kernel
theorem dX6_count_56 : decode cX6_count 56 = .ok (.aload_n 0, 1) := by decide +kernel
theorem dX6_count_57 : decode cX6_count 57 = .ok (.getfield 7, 3) := by decide +kernel
theorem dX6_count_60 : decode cX6_count 60 = .ok (.sipush 6810, 3) := by decide +kernel
theorem dX6_count_63 : decode cX6_count 63 = .ok (.iaload, 1) := by decide +kernel
theorem dX6_count_64 : decode cX6_count 64 = .ok (.ireturn, 1) := by decide +kernel
theorem dX6_count_65 : decode cX6_count 65 = .ok (.aload_n 0, 1) := by decide +kernel
theorem dX6_count_66 : decode cX6_count 66 = .ok (.getfield 7, 3) := by decide +kernel
theorem dX6_count_69 : decode cX6_count 69 = .ok (.sipush 6811, 3) := by decide +kernel
theorem dX6_count_72 : decode cX6_count 72 = .ok (.iaload, 1) := by decide +kernel
theorem dX6_count_73 : decode cX6_count 73 = .ok (.ireturn, 1) := by decide +kernel
theorem dX6_count_74 : decode cX6_count 74 = .ok (.aload_n 0, 1) := by decide +kernel
theorem dX6_count_75 : decode cX6_count 75 = .ok (.getfield 7, 3) := by decide +kernel
theorem dX6_count_78 : decode cX6_count 78 = .ok (.sipush 6812, 3) := by decide +kernel
