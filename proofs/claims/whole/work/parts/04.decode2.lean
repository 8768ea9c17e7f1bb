theorem dX4_knows_22 : decode cX4_knows 22 = .ok (.iload_n 1, 1) := by decide +kernel
theorem dX4_knows_23 : decode cX4_knows 23 = .ok (.invokestatic 67, 3) := by decide +kernel
theorem dX4_knows_26 : decode cX4_knows 26 = .ok (.ifCond .ne 24, 3) := by decide +kernel
theorem dX4_knows_29 : decode cX4_knows 29 = .ok (.iload_n 3, 1) := by decide +kernel
theorem dX4_knows_30 : decode cX4_knows 30 = .ok (.aload_n 0, 1) := by decide +kernel
theorem dX4_knows_31 : decode cX4_knows 31 = .ok (.getfield 35, 3) := by decide +kernel
theorem dX4_knows_34 : decode cX4_knows 34 = .ok (.iconst 1, 1) := by decide +kernel
theorem dX4_knows_35 : decode cX4_knows 35 = .ok (.iadd, 1) := by decide +kernel
theorem dX4_knows_36 : decode cX4_knows 36 = .ok (.if_icmp .ne 18, 3) := by decide +kernel
theorem dX4_knows_39 : decode cX4_knows 39 = .ok (.aload_n 0, 1) := by decide +kernel
theorem dX4_knows_40 : decode cX4_knows 40 = .ok (.getfield 44, 3) := by decide +kernel
theorem dX4_knows_43 : decode cX4_knows 43 = .ok (.iload_n 1, 1) := by decide +kernel
theorem dX4_knows_44 : decode cX4_knows 44 = .ok (.invokestatic 67, 3) := by decide +kernel
theorem dX4_knows_47 : decode cX4_knows 47 = .ok (.ifCond .eq 7, 3) := by decide +kernel
theorem dX4_knows_50 : decode cX4_knows 50 = .ok (.iconst 1, 1) := by decide +kernel
theorem dX4_knows_51 : decode cX4_knows 51 = .ok (.goto 4, 3) := by decide +kernel
theorem dX4_knows_54 : decode cX4_knows 54 = .ok (.iconst 0, 1) := by decide +kernel
theorem dX4_knows_55 : decode cX4_knows 55 = .ok (.ireturn, 1) := by decide +kernel
set_option maxRecDepth 20000 in
theorem ggX4_isMeant_X5_isIn : GoodIn wsX4_isMeant wsX5_isIn := goodIn_r _ [7] (by decide +kernel) (by decide +kernel)
set_option maxRecDepth 20000 in
theorem gX4_isMeant_X5_isIn_n67 : GoodIn wsX4_isMeant (wsX5_isIn) := ggX4_isMeant_X5_isIn
theorem dX4_isMeant_0 : decode cX4_isMeant 0 = .ok (.aload_n 0, 1) := by decide +kernel
theorem dX4_isMeant_1 : decode cX4_isMeant 1 = .ok (.getfield 20, 3) := by decide +kernel
theorem dX4_isMeant_4 : decode cX4_isMeant 4 = .ok (.getfield 78, 3) := by decide +kernel
theorem dX4_isMeant_7 : decode cX4_isMeant 7 = .ok (.iload_n 2, 1) := by decide +kernel
theorem dX4_isMeant_8 : decode cX4_isMeant 8 = .ok (.iaload, 1) := by decide +kernel
theorem dX4_isMeant_9 : decode cX4_isMeant 9 = .ok (.istore_n 3, 1) := by decide +kernel
theorem dX4_isMeant_10 : decode cX4_isMeant 10 = .ok (.iload_n 3, 1) := by decide +kernel
theorem dX4_isMeant_11 : decode cX4_isMeant 11 = .ok (.bipush 10, 2) := by decide +kernel
theorem dX4_isMeant_13 : decode cX4_isMeant 13 = .ok (.if_icmp .ge 16, 3) := by decide +kernel
theorem dX4_isMeant_16 : decode cX4_isMeant 16 = .ok (.iload_n 3, 1) := by decide +kernel
theorem dX4_isMeant_17 : decode cX4_isMeant 17 = .ok (.iload_n 1, 1) := by decide +kernel
theorem dX4_isMeant_18 : decode cX4_isMeant 18 = .ok (.if_icmp .ne 7, 3) := by decide +kernel
theorem dX4_isMeant_21 : decode cX4_isMeant 21 = .ok (.iconst 1, 1) := by decide +kernel
theorem dX4_isMeant_22 : decode cX4_isMeant 22 = .ok (.goto 25, 3) := by decide +kernel
theorem dX4_isMeant_25 : decode cX4_isMeant 25 = .ok (.iconst 0, 1) := by decide +kernel
theorem dX4_isMeant_26 : decode cX4_isMeant 26 = .ok (.goto 21, 3) := by decide +kernel
theorem dX4_isMeant_29 : decode cX4_isMeant 29 = .ok (.aload_n 0, 1) := by decide +kernel
theorem dX4_isMeant_30 : decode cX4_isMeant 30 = .ok (.getfield 11, 3) := by decide +kernel
theorem dX4_isMeant_33 : decode cX4_isMeant 33 = .ok (.iload_n 1, 1) := by decide +kernel
theorem dX4_isMeant_34 : decode cX4_isMeant 34 = .ok (.aaload, 1) := by decide +kernel
theorem dX4_isMeant_35 : decode cX4_isMeant 35 = .ok (.getfield 81, 3) := by decide +kernel
theorem dX4_isMeant_38 : decode cX4_isMeant 38 = .ok (.iconst 3, 1) := by decide +kernel
theorem dX4_isMeant_39 : decode cX4_isMeant 39 = .ok (.iaload, 1) := by decide +kernel
theorem dX4_isMeant_40 : decode cX4_isMeant 40 = .ok (.iload_n 3, 1) := by decide +kernel
theorem dX4_isMeant_41 : decode cX4_isMeant 41 = .ok (.bipush 10, 2) := by decide +kernel
theorem dX4_isMeant_43 : decode cX4_isMeant 43 = .ok (.isub, 1) := by decide +kernel
theorem dX4_isMeant_44 : decode cX4_isMeant 44 = .ok (.invokestatic 67, 3) := by decide +kernel
theorem dX4_isMeant_47 : decode cX4_isMeant 47 = .ok (.ireturn, 1) := by decide +kernel
set_option maxRecDepth 20000 in
theorem ggX4_passTick_X4_speakFromAir : GoodIn wsX4_passTick wsX4_speakFromAir := goodIn_r _ [9, 2, 10, 11, 12, 13, 14, 15, 16, 17, 18, 19, 20, 21, 22, 23, 24, 25, 26, 27, 28, 29, 8, 30, 31, 32, 33, 34, 35, 36, 37, 38, 39, 40, 41, 42, 43, 44, 45, 46, 47, 48, 49, 50, 51, 52, 53, 54, 55, 56, 57, 58, 59, 60, 61, 62, 63, 64, 65, 66, 67, 68, 69, 70, 71, 72, 73, 74, 75, 76, 77, 78, 79, 80, 81, 82, 83, 84, 85, 86, 87, 88, 89, 90, 91, 92, 93, 94, 95, 96, 97, 98, 99, 100, 101, 102, 103, 104, 105, 106, 1, 107, 108, 109, 110, 111, 112, 113, 114, 115, 116, 117, 118, 119, 120, 121, 122, 123, 124, 125, 126, 127, 128, 129, 130, 131, 132, 133, 134, 135, 136, 137, 138, 139, 140, 141, 142, 143, 144, 145, 146, 147, 148, 149, 150, 151] (by decide +kernel) (by decide +kernel)
set_option maxRecDepth 20000 in
theorem gX4_passTick_X4_speakFromAir : GoodIn wsX4_passTick (wsV RX4 89 RX4 yX4_speakFromAir wsX4_speakFromAir) := goodIn_app (goodIn_of _ (by decide +kernel)) ggX4_passTick_X4_speakFromAir
theorem dX4_passTick_0 : decode cX4_passTick 0 = .ok (.aload_n 0, 1) := by decide +kernel
theorem dX4_passTick_1 : decode cX4_passTick 1 = .ok (.dup, 1) := by decide +kernel
theorem dX4_passTick_2 : decode cX4_passTick 2 = .ok (.getfield 31, 3) := by decide +kernel
theorem dX4_passTick_5 : decode cX4_passTick 5 = .ok (.iconst 1, 1) := by decide +kernel
theorem dX4_passTick_6 : decode cX4_passTick 6 = .ok (.iadd, 1) := by decide +kernel
theorem dX4_passTick_7 : decode cX4_passTick 7 = .ok (.putfield 31, 3) := by decide +kernel
theorem dX4_passTick_10 : decode cX4_passTick 10 = .ok (.aload_n 0, 1) := by decide +kernel
theorem dX4_passTick_11 : decode cX4_passTick 11 = .ok (.getfield 27, 3) := by decide +kernel
theorem dX4_passTick_14 : decode cX4_passTick 14 = .ok (.getfield 84, 3) := by decide +kernel
theorem dX4_passTick_17 : decode cX4_passTick 17 = .ok (.istore_n 1, 1) := by decide +kernel
theorem dX4_passTick_18 : decode cX4_passTick 18 = .ok (.iconst 0, 1) := by decide +kernel
theorem dX4_passTick_19 : decode cX4_passTick 19 = .ok (.istore_n 2, 1) := by decide +kernel
theorem dX4_passTick_20 : decode cX4_passTick 20 = .ok (.iconst 0, 1) := by decide +kernel
theorem dX4_passTick_21 : decode cX4_passTick 21 = .ok (.istore_n 3, 1) := by decide +kernel
theorem dX4_passTick_22 : decode cX4_passTick 22 = .ok (.iload_n 3, 1) := by decide +kernel
theorem dX4_passTick_23 : decode cX4_passTick 23 = .ok (.iload_n 1, 1) := by decide +kernel
theorem dX4_passTick_24 : decode cX4_passTick 24 = .ok (.if_icmp .ge 47, 3) := by decide +kernel
theorem dX4_passTick_27 : decode cX4_passTick 27 = .ok (.iload_n 2, 1) := by decide +kernel
theorem dX4_passTick_28 : decode cX4_passTick 28 = .ok (.aload_n 0, 1) := by decide +kernel
theorem dX4_passTick_29 : decode cX4_passTick 29 = .ok (.getfield 27, 3) := by decide +kernel
theorem dX4_passTick_32 : decode cX4_passTick 32 = .ok (.getfield 84, 3) := by decide +kernel
theorem dX4_passTick_35 : decode cX4_passTick 35 = .ok (.if_icmp .ge 36, 3) := by decide +kernel
theorem dX4_passTick_38 : decode cX4_passTick 38 = .ok (.aload_n 0, 1) := by decide +kernel
theorem dX4_passTick_39 : decode cX4_passTick 39 = .ok (.getfield 27, 3) := by decide +kernel
theorem dX4_passTick_42 : decode cX4_passTick 42 = .ok (.getfield 87, 3) := by decide +kernel
theorem dX4_passTick_45 : decode cX4_passTick 45 = .ok (.iload_n 2, 1) := by decide +kernel
theorem dX4_passTick_46 : decode cX4_passTick 46 = .ok (.iaload, 1) := by decide +kernel
theorem dX4_passTick_47 : decode cX4_passTick 47 = .ok (.aload_n 0, 1) := by decide +kernel
theorem dX4_passTick_48 : decode cX4_passTick 48 = .ok (.getfield 31, 3) := by decide +kernel
theorem dX4_passTick_51 : decode cX4_passTick 51 = .ok (.if_icmp .ne 11, 3) := by decide +kernel
theorem dX4_passTick_54 : decode cX4_passTick 54 = .ok (.aload_n 0, 1) := by decide +kernel
theorem dX4_passTick_55 : decode cX4_passTick 55 = .ok (.iload_n 2, 1) := by decide +kernel
theorem dX4_passTick_56 : decode cX4_passTick 56 = .ok (.invokevirtual 89, 3) := by decide +kernel
theorem dX4_passTick_59 : decode cX4_passTick 59 = .ok (.goto 6, 3) := by decide +kernel
theorem dX4_passTick_62 : decode cX4_passTick 62 = .ok (.iinc 2 1, 3) := by decide +kernel
theorem dX4_passTick_65 : decode cX4_passTick 65 = .ok (.iinc 3 1, 3) := by decide +kernel
theorem dX4_passTick_68 : decode cX4_passTick 68 = .ok (.goto (-46), 3) := by decide +kernel
theorem dX4_passTick_71 : decode cX4_passTick 71 = .ok (.return_, 1) := by decide +kernel
set_option maxRecDepth 20000 in
theorem ggX4_speakFromAir_X0_dropAt : GoodIn wsX4_speakFromAir wsX0_dropAt := goodIn_r _ [9, 10, 11, 12, 13, 14, 15, 16, 17, 18, 121, 122, 123, 124, 125] (by decide +kernel) (by decide +kernel)
set_option maxRecDepth 20000 in
theorem gX4_speakFromAir_X0_dropAt : GoodIn wsX4_speakFromAir (wsV RX4 102 RX0 yX0_dropAt wsX0_dropAt) := goodIn_app (goodIn_of _ (by decide +kernel)) ggX4_speakFromAir_X0_dropAt
set_option maxRecDepth 20000 in
theorem ggX4_speakFromAir_X4_speak : GoodIn wsX4_speakFromAir wsX4_speak := goodIn_r _ [23, 24, 25, 26, 27, 28, 29, 30, 31, 32, 33, 34, 35, 36, 37, 22, 38, 39, 40, 41, 42, 43, 44, 45, 46, 47, 48, 49, 50, 51, 52, 53, 54, 55, 56, 57, 58, 59, 60, 61, 62, 63, 64, 65, 66, 67, 68, 69, 70, 71, 72, 73, 74, 75, 76, 77, 78, 79, 80, 81, 82, 83, 84, 85, 86, 87, 88, 89, 90, 91, 92, 93, 94, 95, 96, 97, 98, 1, 99, 100, 101, 102, 103, 8, 104, 10, 105, 106, 107, 108, 11, 16, 17, 18, 109, 110, 111, 112, 113, 114, 115, 116, 117, 118, 119, 120, 126, 127, 128, 129, 130, 131, 132, 133, 134, 135, 136, 137, 138, 139, 140, 141, 142, 143, 144, 145, 121, 122, 123, 124, 125] (by decide +kernel) (by decide +kernel)
set_option maxRecDepth 20000 in
theorem gX4_speakFromAir_X4_speak : GoodIn wsX4_speakFromAir (wsV RX4 105 RX4 yX4_speak wsX4_speak) := goodIn_app (goodIn_of _ (by decide +kernel)) ggX4_speakFromAir_X4_speak
theorem dX4_speakFromAir_0 : decode cX4_speakFromAir 0 = .ok (.aload_n 0, 1) := by decide +kernel
theorem dX4_speakFromAir_1 : decode cX4_speakFromAir 1 = .ok (.getfield 27, 3) := by decide +kernel
theorem dX4_speakFromAir_4 : decode cX4_speakFromAir 4 = .ok (.getfield 93, 3) := by decide +kernel
theorem dX4_speakFromAir_7 : decode cX4_speakFromAir 7 = .ok (.iload_n 1, 1) := by decide +kernel
theorem dX4_speakFromAir_8 : decode cX4_speakFromAir 8 = .ok (.iaload, 1) := by decide +kernel
theorem dX4_speakFromAir_9 : decode cX4_speakFromAir 9 = .ok (.istore_n 2, 1) := by decide +kernel
theorem dX4_speakFromAir_10 : decode cX4_speakFromAir 10 = .ok (.aload_n 0, 1) := by decide +kernel
theorem dX4_speakFromAir_11 : decode cX4_speakFromAir 11 = .ok (.getfield 27, 3) := by decide +kernel
theorem dX4_speakFromAir_14 : decode cX4_speakFromAir 14 = .ok (.getfield 96, 3) := by decide +kernel
theorem dX4_speakFromAir_17 : decode cX4_speakFromAir 17 = .ok (.iload_n 1, 1) := by decide +kernel
theorem dX4_speakFromAir_18 : decode cX4_speakFromAir 18 = .ok (.iaload, 1) := by decide +kernel
theorem dX4_speakFromAir_19 : decode cX4_speakFromAir 19 = .ok (.istore_n 3, 1) := by decide +kernel
theorem dX4_speakFromAir_20 : decode cX4_speakFromAir 20 = .ok (.aload_n 0, 1) := by decide +kernel
theorem dX4_speakFromAir_21 : decode cX4_speakFromAir 21 = .ok (.getfield 27, 3) := by decide +kernel
theorem dX4_speakFromAir_24 : decode cX4_speakFromAir 24 = .ok (.getfield 99, 3) := by decide +kernel
theorem dX4_speakFromAir_27 : decode cX4_speakFromAir 27 = .ok (.iload_n 1, 1) := by decide +kernel
theorem dX4_speakFromAir_28 : decode cX4_speakFromAir 28 = .ok (.iaload, 1) := by decide +kernel
theorem dX4_speakFromAir_29 : decode cX4_speakFromAir 29 = .ok (.istore 4, 2) := by decide +kernel
theorem dX4_speakFromAir_31 : decode cX4_speakFromAir 31 = .ok (.aload_n 0, 1) := by decide +kernel
theorem dX4_speakFromAir_32 : decode cX4_speakFromAir 32 = .ok (.getfield 27, 3) := by decide +kernel
theorem dX4_speakFromAir_35 : decode cX4_speakFromAir 35 = .ok (.iload_n 1, 1) := by decide +kernel
theorem dX4_speakFromAir_36 : decode cX4_speakFromAir 36 = .ok (.invokevirtual 102, 3) := by decide +kernel
theorem dX4_speakFromAir_39 : decode cX4_speakFromAir 39 = .ok (.aload_n 0, 1) := by decide +kernel
theorem dX4_speakFromAir_40 : decode cX4_speakFromAir 40 = .ok (.iload_n 2, 1) := by decide +kernel
theorem dX4_speakFromAir_41 : decode cX4_speakFromAir 41 = .ok (.iload_n 3, 1) := by decide +kernel
theorem dX4_speakFromAir_42 : decode cX4_speakFromAir 42 = .ok (.iload 4, 2) := by decide +kernel
theorem dX4_speakFromAir_44 : decode cX4_speakFromAir 44 = .ok (.invokevirtual 105, 3) := by decide +kernel
theorem dX4_speakFromAir_47 : decode cX4_speakFromAir 47 = .ok (.return_, 1) := by decide +kernel
set_option maxRecDepth 20000 in
theorem ggX4_speak_X5_changed : GoodIn wsX4_speak wsX5_changed := goodIn_r _ [9] (by decide +kernel) (by decide +kernel)
set_option maxRecDepth 20000 in
theorem gX4_speak_X5_changed_n119 : GoodIn wsX4_speak (wsX5_changed) := ggX4_speak_X5_changed
set_option maxRecDepth 20000 in
theorem ggX4_speak_X5_isIn : GoodIn wsX4_speak wsX5_isIn := goodIn_r _ [11] (by decide +kernel) (by decide +kernel)
set_option maxRecDepth 20000 in
theorem gX4_speak_X5_isIn_n67 : GoodIn wsX4_speak (wsX5_isIn) := ggX4_speak_X5_isIn
set_option maxRecDepth 20000 in
theorem ggX4_speak_X4_hear : GoodIn wsX4_speak wsX4_hear := goodIn_r _ [16, 1, 17, 18, 19, 20, 21, 22, 23, 24, 15, 25, 26, 27, 28, 29, 30, 10, 8, 11, 31, 32, 33, 34, 35, 36, 37, 38, 39, 40, 41, 42, 43, 44, 45, 46, 47, 48, 49, 50, 51, 52, 53, 54, 55, 56, 57, 58, 59, 60, 61, 62, 63, 64, 65, 66, 67, 68, 69, 70, 2, 71, 72, 73, 74, 75, 76, 77, 78, 79, 80, 81, 82, 83, 84, 85, 86, 87, 88, 89, 90, 91, 92, 93, 94, 95, 96, 97, 98, 99, 100, 101, 102, 103, 104, 105, 106, 107, 108, 109, 110, 111, 112, 113, 114, 115, 116, 117, 118, 119, 120, 121, 122, 123, 124, 125, 126, 127, 128, 129, 130] (by decide +kernel) (by decide +kernel)
set_option maxRecDepth 20000 in
theorem gX4_speak_X4_hear : GoodIn wsX4_speak (wsV RX4 123 RX4 yX4_hear wsX4_hear) := goodIn_app (goodIn_of _ (by decide +kernel)) ggX4_speak_X4_hear
theorem dX4_speak_0 : decode cX4_speak 0 = .ok (.iload_n 1, 1) := by decide +kernel
theorem dX4_speak_1 : decode cX4_speak 1 = .ok (.bipush 10, 2) := by decide +kernel
theorem dX4_speak_3 : decode cX4_speak 3 = .ok (.if_icmp .lt 7, 3) := by decide +kernel
theorem dX4_speak_6 : decode cX4_speak 6 = .ok (.iconst 1, 1) := by decide +kernel
theorem dX4_speak_7 : decode cX4_speak 7 = .ok (.goto 4, 3) := by decide +kernel
theorem dX4_speak_10 : decode cX4_speak 10 = .ok (.iconst 0, 1) := by decide +kernel
theorem dX4_speak_11 : decode cX4_speak 11 = .ok (.istore 4, 2) := by decide +kernel
theorem dX4_speak_13 : decode cX4_speak 13 = .ok (.iload 4, 2) := by decide +kernel
theorem dX4_speak_15 : decode cX4_speak 15 = .ok (.ifCond .eq 10, 3) := by decide +kernel
theorem dX4_speak_18 : decode cX4_speak 18 = .ok (.iload_n 1, 1) := by decide +kernel
theorem dX4_speak_19 : decode cX4_speak 19 = .ok (.bipush 10, 2) := by decide +kernel
theorem dX4_speak_21 : decode cX4_speak 21 = .ok (.isub, 1) := by decide +kernel
theorem dX4_speak_22 : decode cX4_speak 22 = .ok (.goto 4, 3) := by decide +kernel
theorem dX4_speak_25 : decode cX4_speak 25 = .ok (.iload_n 1, 1) := by decide +kernel
theorem dX4_speak_26 : decode cX4_speak 26 = .ok (.istore 5, 2) := by decide +kernel
theorem dX4_speak_28 : decode cX4_speak 28 = .ok (.aload_n 0, 1) := by decide +kernel
theorem dX4_speak_29 : decode cX4_speak 29 = .ok (.getfield 11, 3) := by decide +kernel
theorem dX4_speak_32 : decode cX4_speak 32 = .ok (.iload 5, 2) := by decide +kernel
theorem dX4_speak_34 : decode cX4_speak 34 = .ok (.aaload, 1) := by decide +kernel
theorem dX4_speak_35 : decode cX4_speak 35 = .ok (.astore 6, 2) := by decide +kernel
theorem dX4_speak_37 : decode cX4_speak 37 = .ok (.iload 4, 2) := by decide +kernel
theorem dX4_speak_39 : decode cX4_speak 39 = .ok (.ifCond .ne 22, 3) := by decide +kernel
theorem dX4_speak_42 : decode cX4_speak 42 = .ok (.aload 6, 2) := by decide +kernel
theorem dX4_speak_44 : decode cX4_speak 44 = .ok (.getfield 109, 3) := by decide +kernel
theorem dX4_speak_47 : decode cX4_speak 47 = .ok (.ifCond .eq 14, 3) := by decide +kernel
theorem dX4_speak_50 : decode cX4_speak 50 = .ok (.aload_n 0, 1) := by decide +kernel
theorem dX4_speak_51 : decode cX4_speak 51 = .ok (.dup, 1) := by decide +kernel
theorem dX4_speak_52 : decode cX4_speak 52 = .ok (.getfield 53, 3) := by decide +kernel
theorem dX4_speak_55 : decode cX4_speak 55 = .ok (.iconst 1, 1) := by decide +kernel
theorem dX4_speak_56 : decode cX4_speak 56 = .ok (.iadd, 1) := by decide +kernel
theorem dX4_speak_57 : decode cX4_speak 57 = .ok (.putfield 53, 3) := by decide +kernel
theorem dX4_speak_60 : decode cX4_speak 60 = .ok (.return_, 1) := by decide +kernel
theorem dX4_speak_61 : decode cX4_speak 61 = .ok (.aload_n 0, 1) := by decide +kernel
theorem dX4_speak_62 : decode cX4_speak 62 = .ok (.dup, 1) := by decide +kernel
theorem dX4_speak_63 : decode cX4_speak 63 = .ok (.getfield 47, 3) := by decide +kernel
theorem dX4_speak_66 : decode cX4_speak 66 = .ok (.iconst 1, 1) := by decide +kernel
theorem dX4_speak_67 : decode cX4_speak 67 = .ok (.iadd, 1) := by decide +kernel
theorem dX4_speak_68 : decode cX4_speak 68 = .ok (.putfield 47, 3) := by decide +kernel
theorem dX4_speak_71 : decode cX4_speak 71 = .ok (.iload 4, 2) := by decide +kernel
theorem dX4_speak_73 : decode cX4_speak 73 = .ok (.ifCond .ne 14, 3) := by decide +kernel
theorem dX4_speak_76 : decode cX4_speak 76 = .ok (.aload 6, 2) := by decide +kernel
theorem dX4_speak_78 : decode cX4_speak 78 = .ok (.dup, 1) := by decide +kernel
theorem dX4_speak_79 : decode cX4_speak 79 = .ok (.getfield 113, 3) := by decide +kernel
theorem dX4_speak_82 : decode cX4_speak 82 = .ok (.iconst 1, 1) := by decide +kernel
theorem dX4_speak_83 : decode cX4_speak 83 = .ok (.iadd, 1) := by decide +kernel
theorem dX4_speak_84 : decode cX4_speak 84 = .ok (.putfield 113, 3) := by decide +kernel
theorem dX4_speak_87 : decode cX4_speak 87 = .ok (.aload 6, 2) := by decide +kernel
theorem dX4_speak_89 : decode cX4_speak 89 = .ok (.getfield 116, 3) := by decide +kernel
theorem dX4_speak_92 : decode cX4_speak 92 = .ok (.iload 5, 2) := by decide +kernel
theorem dX4_speak_94 : decode cX4_speak 94 = .ok (.iload 4, 2) := by decide +kernel
theorem dX4_speak_96 : decode cX4_speak 96 = .ok (.invokestatic 119, 3) := by decide +kernel
theorem dX4_speak_99 : decode cX4_speak 99 = .ok (.istore 7, 2) := by decide +kernel
theorem dX4_speak_101 : decode cX4_speak 101 = .ok (.iconst 0, 1) := by decide +kernel
theorem dX4_speak_102 : decode cX4_speak 102 = .ok (.istore 8, 2) := by decide +kernel
theorem dX4_speak_104 : decode cX4_speak 104 = .ok (.iload 8, 2) := by decide +kernel
theorem dX4_speak_106 : decode cX4_speak 106 = .ok (.bipush 10, 2) := by decide +kernel
theorem dX4_speak_108 : decode cX4_speak 108 = .ok (.if_icmp .ge 40, 3) := by decide +kernel
theorem dX4_speak_111 : decode cX4_speak 111 = .ok (.iload 7, 2) := by decide +kernel
theorem dX4_speak_113 : decode cX4_speak 113 = .ok (.iload 8, 2) := by decide +kernel
theorem dX4_speak_115 : decode cX4_speak 115 = .ok (.invokestatic 67, 3) := by decide +kernel
theorem dX4_speak_118 : decode cX4_speak 118 = .ok (.ifCond .eq 24, 3) := by decide +kernel
theorem dX4_speak_121 : decode cX4_speak 121 = .ok (.aload_n 0, 1) := by decide +kernel
theorem dX4_speak_122 : decode cX4_speak 122 = .ok (.getfield 11, 3) := by decide +kernel
theorem dX4_speak_125 : decode cX4_speak 125 = .ok (.iload 8, 2) := by decide +kernel
theorem dX4_speak_127 : decode cX4_speak 127 = .ok (.aaload, 1) := by decide +kernel
theorem dX4_speak_128 : decode cX4_speak 128 = .ok (.getfield 109, 3) := by decide +kernel
theorem dX4_speak_131 : decode cX4_speak 131 = .ok (.ifCond .ne 11, 3) := by decide +kernel
theorem dX4_speak_134 : decode cX4_speak 134 = .ok (.aload_n 0, 1) := by decide +kernel
theorem dX4_speak_135 : decode cX4_speak 135 = .ok (.iload 8, 2) := by decide +kernel
theorem dX4_speak_137 : decode cX4_speak 137 = .ok (.iload_n 2, 1) := by decide +kernel
theorem dX4_speak_138 : decode cX4_speak 138 = .ok (.iload_n 3, 1) := by decide +kernel
theorem dX4_speak_139 : decode cX4_speak 139 = .ok (.invokevirtual 123, 3) := by decide +kernel
theorem dX4_speak_142 : decode cX4_speak 142 = .ok (.iinc 8 1, 3) := by decide +kernel
theorem dX4_speak_145 : decode cX4_speak 145 = .ok (.goto (-41), 3) := by decide +kernel
theorem dX4_speak_148 : decode cX4_speak 148 = .ok (.return_, 1) := by decide +kernel
set_option maxRecDepth 20000 in
theorem ggX4_hear_X4_knows : GoodIn wsX4_hear wsX4_knows := goodIn_r _ [11, 12, 13, 14, 15, 16, 17, 18, 19, 85, 86, 87, 88, 89, 90, 91, 92, 93, 94, 95, 111, 112, 113] (by decide +kernel) (by decide +kernel)
set_option maxRecDepth 20000 in
theorem gX4_hear_X4_knows : GoodIn wsX4_hear (wsV RX4 126 RX4 yX4_knows wsX4_knows) := goodIn_app (goodIn_of _ (by decide +kernel)) ggX4_hear_X4_knows
set_option maxRecDepth 20000 in
theorem ggX4_hear_X3_holds : GoodIn wsX4_hear wsX3_holds := goodIn_r _ [24, 25, 26, 114, 115] (by decide +kernel) (by decide +kernel)
set_option maxRecDepth 20000 in
theorem gX4_hear_X3_holds : GoodIn wsX4_hear (wsV RX4 136 RX3 yX3_holds wsX3_holds) := goodIn_app (goodIn_of _ (by decide +kernel)) ggX4_hear_X3_holds
set_option maxRecDepth 20000 in
theorem ggX4_hear_X3_add : GoodIn wsX4_hear wsX3_add := goodIn_r _ [30, 25, 26, 31, 32, 33, 23, 34, 114, 115] (by decide +kernel) (by decide +kernel)
set_option maxRecDepth 20000 in
theorem gX4_hear_X3_add : GoodIn wsX4_hear (wsV RX4 147 RX3 yX3_add wsX3_add) := goodIn_app (goodIn_of _ (by decide +kernel)) ggX4_hear_X3_add
set_option maxRecDepth 20000 in
theorem ggX4_hear_X2_sourceOf : GoodIn wsX4_hear wsX2_sourceOf := goodIn_r _ [38] (by decide +kernel) (by decide +kernel)
set_option maxRecDepth 20000 in
theorem gX4_hear_X2_sourceOf : GoodIn wsX4_hear (va_wsS RX4 151 yX2_sourceOf wsX2_sourceOf) := goodIn_app (goodIn_of _ (by decide +kernel)) ggX4_hear_X2_sourceOf
set_option maxRecDepth 20000 in
theorem ggX4_hear_X4_isMeant : GoodIn wsX4_hear wsX4_isMeant := goodIn_r _ [42, 12, 43, 1, 6, 17, 18, 19, 85, 86, 87, 88, 89, 90, 91, 92, 93, 94, 95, 111, 112, 113, 96, 97, 98, 99, 100, 101, 102, 103, 104, 105, 106, 107, 108, 109, 110] (by decide +kernel) (by decide +kernel)
set_option maxRecDepth 20000 in
theorem gX4_hear_X4_isMeant : GoodIn wsX4_hear (wsV RX4 155 RX4 yX4_isMeant wsX4_isMeant) := goodIn_app (goodIn_of _ (by decide +kernel)) ggX4_hear_X4_isMeant
set_option maxRecDepth 20000 in
theorem ggX4_hear_X4_take : GoodIn wsX4_hear wsX4_take := goodIn_r _ [47, 48, 49, 12, 50, 51, 52, 35, 36, 37, 38, 53, 54, 55, 96, 97, 98, 99, 100, 101, 102, 103, 104, 105, 106, 107, 108, 109, 110, 85, 86, 87, 88, 89, 90, 91, 92, 93, 94, 95, 111, 112, 113] (by decide +kernel) (by decide +kernel)
set_option maxRecDepth 20000 in
theorem gX4_hear_X4_take : GoodIn wsX4_hear (wsV RX4 158 RX4 yX4_take wsX4_take) := goodIn_app (goodIn_of _ (by decide +kernel)) ggX4_hear_X4_take
set_option maxRecDepth 20000 in
theorem ggX4_hear_X4_keepForSleepers : GoodIn wsX4_hear wsX4_keepForSleepers := goodIn_r _ [59, 1, 60, 61, 62, 39, 40, 41, 10, 42, 12, 43, 6, 17, 18, 19, 35, 36, 37, 38, 27, 28, 29, 23, 30, 25, 26, 31, 32, 33, 34, 85, 86, 87, 88, 89, 90, 91, 92, 93, 94, 95, 96, 97, 98, 99, 100, 101, 102, 103, 104, 105, 106, 107, 108, 109, 110, 111, 112, 113, 114, 115] (by decide +kernel) (by decide +kernel)
set_option maxRecDepth 20000 in
theorem gX4_hear_X4_keepForSleepers : GoodIn wsX4_hear (wsV RX4 162 RX4 yX4_keepForSleepers wsX4_keepForSleepers) := goodIn_app (goodIn_of _ (by decide +kernel)) ggX4_hear_X4_keepForSleepers
set_option maxRecDepth 20000 in
theorem ggX4_hear_X4_passOn : GoodIn wsX4_hear wsX4_passOn := goodIn_r _ [66, 67, 68, 69, 1, 6, 70, 71, 72, 73, 74, 75, 76, 77, 78, 79, 80, 81, 82, 83, 84, 85, 86, 87, 88, 89, 90, 91, 92, 93, 94, 95, 96, 97, 98, 99, 100, 101, 102, 103, 104, 105, 106, 107, 108, 109, 110, 116, 117, 118, 119, 120] (by decide +kernel) (by decide +kernel)
set_option maxRecDepth 20000 in
theorem gX4_hear_X4_passOn : GoodIn wsX4_hear (wsV RX4 165 RX4 yX4_passOn wsX4_passOn) := goodIn_app (goodIn_of _ (by decide +kernel)) ggX4_hear_X4_passOn
theorem dX4_hear_0 : decode cX4_hear 0 = .ok (.aload_n 0, 1) := by decide +kernel
theorem dX4_hear_1 : decode cX4_hear 1 = .ok (.getfield 11, 3) := by decide +kernel
theorem dX4_hear_4 : decode cX4_hear 4 = .ok (.iload_n 1, 1) := by decide +kernel
theorem dX4_hear_5 : decode cX4_hear 5 = .ok (.aaload, 1) := by decide +kernel
theorem dX4_hear_6 : decode cX4_hear 6 = .ok (.astore 4, 2) := by decide +kernel
theorem dX4_hear_8 : decode cX4_hear 8 = .ok (.aload_n 0, 1) := by decide +kernel
theorem dX4_hear_9 : decode cX4_hear 9 = .ok (.iload_n 1, 1) := by decide +kernel
theorem dX4_hear_10 : decode cX4_hear 10 = .ok (.iload_n 2, 1) := by decide +kernel
theorem dX4_hear_11 : decode cX4_hear 11 = .ok (.invokevirtual 126, 3) := by decide +kernel
theorem dX4_hear_14 : decode cX4_hear 14 = .ok (.ifCond .ne 15, 3) := by decide +kernel
theorem dX4_hear_17 : decode cX4_hear 17 = .ok (.aload 4, 2) := by decide +kernel
theorem dX4_hear_19 : decode cX4_hear 19 = .ok (.dup, 1) := by decide +kernel
theorem dX4_hear_20 : decode cX4_hear 20 = .ok (.getfield 129, 3) := by decide +kernel
theorem dX4_hear_23 : decode cX4_hear 23 = .ok (.iconst 1, 1) := by decide +kernel
theorem dX4_hear_24 : decode cX4_hear 24 = .ok (.iadd, 1) := by decide +kernel
theorem dX4_hear_25 : decode cX4_hear 25 = .ok (.putfield 129, 3) := by decide +kernel
theorem dX4_hear_28 : decode cX4_hear 28 = .ok (.return_, 1) := by decide +kernel
theorem dX4_hear_29 : decode cX4_hear 29 = .ok (.aload 4, 2) := by decide +kernel
theorem dX4_hear_31 : decode cX4_hear 31 = .ok (.getfield 132, 3) := by decide +kernel
theorem dX4_hear_34 : decode cX4_hear 34 = .ok (.iload_n 2, 1) := by decide +kernel
theorem dX4_hear_35 : decode cX4_hear 35 = .ok (.invokevirtual 136, 3) := by decide +kernel
theorem dX4_hear_38 : decode cX4_hear 38 = .ok (.ifCond .eq 15, 3) := by decide +kernel
theorem dX4_hear_41 : decode cX4_hear 41 = .ok (.aload 4, 2) := by decide +kernel
theorem dX4_hear_43 : decode cX4_hear 43 = .ok (.dup, 1) := by decide +kernel
theorem dX4_hear_44 : decode cX4_hear 44 = .ok (.getfield 141, 3) := by decide +kernel
theorem dX4_hear_47 : decode cX4_hear 47 = .ok (.iconst 1, 1) := by decide +kernel
theorem dX4_hear_48 : decode cX4_hear 48 = .ok (.iadd, 1) := by decide +kernel
theorem dX4_hear_49 : decode cX4_hear 49 = .ok (.putfield 141, 3) := by decide +kernel
theorem dX4_hear_52 : decode cX4_hear 52 = .ok (.return_, 1) := by decide +kernel
theorem dX4_hear_53 : decode cX4_hear 53 = .ok (.aload 4, 2) := by decide +kernel
theorem dX4_hear_55 : decode cX4_hear 55 = .ok (.dup, 1) := by decide +kernel
theorem dX4_hear_56 : decode cX4_hear 56 = .ok (.getfield 144, 3) := by decide +kernel
theorem dX4_hear_59 : decode cX4_hear 59 = .ok (.iconst 1, 1) := by decide +kernel
theorem dX4_hear_60 : decode cX4_hear 60 = .ok (.iadd, 1) := by decide +kernel
theorem dX4_hear_61 : decode cX4_hear 61 = .ok (.putfield 144, 3) := by decide +kernel
theorem dX4_hear_64 : decode cX4_hear 64 = .ok (.aload 4, 2) := by decide +kernel
theorem dX4_hear_66 : decode cX4_hear 66 = .ok (.getfield 132, 3) := by decide +kernel
theorem dX4_hear_69 : decode cX4_hear 69 = .ok (.iload_n 2, 1) := by decide +kernel
theorem dX4_hear_70 : decode cX4_hear 70 = .ok (.aload 4, 2) := by decide +kernel
theorem dX4_hear_72 : decode cX4_hear 72 = .ok (.getfield 81, 3) := by decide +kernel
theorem dX4_hear_75 : decode cX4_hear 75 = .ok (.iconst 2, 1) := by decide +kernel
theorem dX4_hear_76 : decode cX4_hear 76 = .ok (.iaload, 1) := by decide +kernel
theorem dX4_hear_77 : decode cX4_hear 77 = .ok (.invokevirtual 147, 3) := by decide +kernel
theorem dX4_hear_80 : decode cX4_hear 80 = .ok (.iload_n 2, 1) := by decide +kernel
theorem dX4_hear_81 : decode cX4_hear 81 = .ok (.invokestatic 151, 3) := by decide +kernel
theorem dX4_hear_84 : decode cX4_hear 84 = .ok (.iload_n 1, 1) := by decide +kernel
theorem dX4_hear_85 : decode cX4_hear 85 = .ok (.if_icmp .ne 4, 3) := by decide +kernel
theorem dX4_hear_88 : decode cX4_hear 88 = .ok (.return_, 1) := by decide +kernel
theorem dX4_hear_89 : decode cX4_hear 89 = .ok (.aload_n 0, 1) := by decide +kernel
theorem dX4_hear_90 : decode cX4_hear 90 = .ok (.iload_n 1, 1) := by decide +kernel
theorem dX4_hear_91 : decode cX4_hear 91 = .ok (.iload_n 2, 1) := by decide +kernel
theorem dX4_hear_92 : decode cX4_hear 92 = .ok (.invokevirtual 155, 3) := by decide +kernel
theorem dX4_hear_95 : decode cX4_hear 95 = .ok (.ifCond .eq 10, 3) := by decide +kernel
theorem dX4_hear_98 : decode cX4_hear 98 = .ok (.aload_n 0, 1) := by decide +kernel
theorem dX4_hear_99 : decode cX4_hear 99 = .ok (.aload 4, 2) := by decide +kernel
theorem dX4_hear_101 : decode cX4_hear 101 = .ok (.iload_n 2, 1) := by decide +kernel
theorem dX4_hear_102 : decode cX4_hear 102 = .ok (.invokevirtual 158, 3) := by decide +kernel
theorem dX4_hear_105 : decode cX4_hear 105 = .ok (.aload_n 0, 1) := by decide +kernel
theorem dX4_hear_106 : decode cX4_hear 106 = .ok (.iload_n 1, 1) := by decide +kernel
theorem dX4_hear_107 : decode cX4_hear 107 = .ok (.iload_n 2, 1) := by decide +kernel
theorem dX4_hear_108 : decode cX4_hear 108 = .ok (.invokevirtual 162, 3) := by decide +kernel
theorem dX4_hear_111 : decode cX4_hear 111 = .ok (.iload_n 3, 1) := by decide +kernel
theorem dX4_hear_112 : decode cX4_hear 112 = .ok (.iconst 1, 1) := by decide +kernel
theorem dX4_hear_113 : decode cX4_hear 113 = .ok (.if_icmp .le 23, 3) := by decide +kernel
theorem dX4_hear_116 : decode cX4_hear 116 = .ok (.aload 4, 2) := by decide +kernel
theorem dX4_hear_118 : decode cX4_hear 118 = .ok (.getfield 81, 3) := by decide +kernel
theorem dX4_hear_121 : decode cX4_hear 121 = .ok (.iconst 1, 1) := by decide +kernel
theorem dX4_hear_122 : decode cX4_hear 122 = .ok (.iaload, 1) := by decide +kernel
theorem dX4_hear_123 : decode cX4_hear 123 = .ok (.iconst 1, 1) := by decide +kernel
theorem dX4_hear_124 : decode cX4_hear 124 = .ok (.if_icmp .ne 12, 3) := by decide +kernel
theorem dX4_hear_127 : decode cX4_hear 127 = .ok (.aload_n 0, 1) := by decide +kernel
theorem dX4_hear_128 : decode cX4_hear 128 = .ok (.iload_n 1, 1) := by decide +kernel
theorem dX4_hear_129 : decode cX4_hear 129 = .ok (.iload_n 2, 1) := by decide +kernel
theorem dX4_hear_130 : decode cX4_hear 130 = .ok (.iload_n 3, 1) := by decide +kernel
theorem dX4_hear_131 : decode cX4_hear 131 = .ok (.iconst 1, 1) := by decide +kernel
theorem dX4_hear_132 : decode cX4_hear 132 = .ok (.isub, 1) := by decide +kernel
theorem dX4_hear_133 : decode cX4_hear 133 = .ok (.invokevirtual 165, 3) := by decide +kernel
theorem dX4_hear_136 : decode cX4_hear 136 = .ok (.return_, 1) := by decide +kernel
set_option maxRecDepth 20000 in
theorem ggX4_keepForSleepers_X4_isMeant : GoodIn wsX4_keepForSleepers wsX4_isMeant := goodIn_r _ [9, 10, 11, 1, 12, 13, 14, 15, 31, 32, 33, 34, 35, 36, 37, 38, 39, 40, 41, 57, 58, 59, 42, 43, 44, 45, 46, 47, 48, 49, 50, 51, 52, 53, 54, 55, 56] (by decide +kernel) (by decide +kernel)
set_option maxRecDepth 20000 in
theorem gX4_keepForSleepers_X4_isMeant : GoodIn wsX4_keepForSleepers (wsV RX4 155 RX4 yX4_isMeant wsX4_isMeant) := goodIn_app (goodIn_of _ (by decide +kernel)) ggX4_keepForSleepers_X4_isMeant
set_option maxRecDepth 20000 in
theorem ggX4_keepForSleepers_X2_sourceOf : GoodIn wsX4_keepForSleepers wsX2_sourceOf := goodIn_r _ [19] (by decide +kernel) (by decide +kernel)
set_option maxRecDepth 20000 in
theorem gX4_keepForSleepers_X2_sourceOf : GoodIn wsX4_keepForSleepers (va_wsS RX4 151 yX2_sourceOf wsX2_sourceOf) := goodIn_app (goodIn_of _ (by decide +kernel)) ggX4_keepForSleepers_X2_sourceOf
set_option maxRecDepth 20000 in
theorem ggX4_keepForSleepers_X3_add : GoodIn wsX4_keepForSleepers wsX3_add := goodIn_r _ [24, 25, 26, 27, 28, 29, 23, 30, 60, 61] (by decide +kernel) (by decide +kernel)
set_option maxRecDepth 20000 in
theorem gX4_keepForSleepers_X3_add : GoodIn wsX4_keepForSleepers (wsV RX4 147 RX3 yX3_add wsX3_add) := goodIn_app (goodIn_of _ (by decide +kernel)) ggX4_keepForSleepers_X3_add
theorem dX4_keepForSleepers_0 : decode cX4_keepForSleepers 0 = .ok (.iconst 0, 1) := by decide +kernel
theorem dX4_keepForSleepers_1 : decode cX4_keepForSleepers 1 = .ok (.istore_n 3, 1) := by decide +kernel
theorem dX4_keepForSleepers_2 : decode cX4_keepForSleepers 2 = .ok (.iload_n 3, 1) := by decide +kernel
theorem dX4_keepForSleepers_3 : decode cX4_keepForSleepers 3 = .ok (.bipush 10, 2) := by decide +kernel
theorem dX4_keepForSleepers_5 : decode cX4_keepForSleepers 5 = .ok (.if_icmp .ge 61, 3) := by decide +kernel
theorem dX4_keepForSleepers_8 : decode cX4_keepForSleepers 8 = .ok (.aload_n 0, 1) := by decide +kernel
theorem dX4_keepForSleepers_9 : decode cX4_keepForSleepers 9 = .ok (.getfield 11, 3) := by decide +kernel
theorem dX4_keepForSleepers_12 : decode cX4_keepForSleepers 12 = .ok (.iload_n 3, 1) := by decide +kernel
theorem dX4_keepForSleepers_13 : decode cX4_keepForSleepers 13 = .ok (.aaload, 1) := by decide +kernel
theorem dX4_keepForSleepers_14 : decode cX4_keepForSleepers 14 = .ok (.astore 4, 2) := by decide +kernel
theorem dX4_keepForSleepers_16 : decode cX4_keepForSleepers 16 = .ok (.aload 4, 2) := by decide +kernel
theorem dX4_keepForSleepers_18 : decode cX4_keepForSleepers 18 = .ok (.getfield 109, 3) := by decide +kernel
theorem dX4_keepForSleepers_21 : decode cX4_keepForSleepers 21 = .ok (.ifCond .eq 39, 3) := by decide +kernel
theorem dX4_keepForSleepers_24 : decode cX4_keepForSleepers 24 = .ok (.aload 4, 2) := by decide +kernel
theorem dX4_keepForSleepers_26 : decode cX4_keepForSleepers 26 = .ok (.getfield 168, 3) := by decide +kernel
theorem dX4_keepForSleepers_29 : decode cX4_keepForSleepers 29 = .ok (.iload_n 1, 1) := by decide +kernel
theorem dX4_keepForSleepers_30 : decode cX4_keepForSleepers 30 = .ok (.if_icmp .ne 30, 3) := by decide +kernel
theorem dX4_keepForSleepers_33 : decode cX4_keepForSleepers 33 = .ok (.aload_n 0, 1) := by decide +kernel
theorem dX4_keepForSleepers_34 : decode cX4_keepForSleepers 34 = .ok (.iload_n 3, 1) := by decide +kernel
theorem dX4_keepForSleepers_35 : decode cX4_keepForSleepers 35 = .ok (.iload_n 2, 1) := by decide +kernel
theorem dX4_keepForSleepers_36 : decode cX4_keepForSleepers 36 = .ok (.invokevirtual 155, 3) := by decide +kernel
theorem dX4_keepForSleepers_39 : decode cX4_keepForSleepers 39 = .ok (.ifCond .eq 21, 3) := by decide +kernel
theorem dX4_keepForSleepers_42 : decode cX4_keepForSleepers 42 = .ok (.iload_n 2, 1) := by decide +kernel
theorem dX4_keepForSleepers_43 : decode cX4_keepForSleepers 43 = .ok (.invokestatic 151, 3) := by decide +kernel
theorem dX4_keepForSleepers_46 : decode cX4_keepForSleepers 46 = .ok (.iload_n 3, 1) := by decide +kernel
theorem dX4_keepForSleepers_47 : decode cX4_keepForSleepers 47 = .ok (.if_icmp .eq 13, 3) := by decide +kernel
theorem dX4_keepForSleepers_50 : decode cX4_keepForSleepers 50 = .ok (.aload 4, 2) := by decide +kernel
theorem dX4_keepForSleepers_52 : decode cX4_keepForSleepers 52 = .ok (.getfield 171, 3) := by decide +kernel
theorem dX4_keepForSleepers_55 : decode cX4_keepForSleepers 55 = .ok (.iload_n 2, 1) := by decide +kernel
theorem dX4_keepForSleepers_56 : decode cX4_keepForSleepers 56 = .ok (.iconst 3, 1) := by decide +kernel
theorem dX4_keepForSleepers_57 : decode cX4_keepForSleepers 57 = .ok (.invokevirtual 147, 3) := by decide +kernel
theorem dX4_keepForSleepers_60 : decode cX4_keepForSleepers 60 = .ok (.iinc 3 1, 3) := by decide +kernel
theorem dX4_keepForSleepers_63 : decode cX4_keepForSleepers 63 = .ok (.goto (-61), 3) := by decide +kernel
theorem dX4_keepForSleepers_66 : decode cX4_keepForSleepers 66 = .ok (.return_, 1) := by decide +kernel
set_option maxRecDepth 20000 in
theorem ggX4_passOn_X0_isFull : GoodIn wsX4_passOn wsX0_isFull := goodIn_r _ [10, 11, 47, 48, 49, 50, 51] (by decide +kernel) (by decide +kernel)
set_option maxRecDepth 20000 in
theorem gX4_passOn_X0_isFull : GoodIn wsX4_passOn (wsV RX4 174 RX0 yX0_isFull wsX0_isFull) := goodIn_app (goodIn_of _ (by decide +kernel)) ggX4_passOn_X0_isFull
set_option maxRecDepth 20000 in
theorem ggX4_passOn_X0_add : GoodIn wsX4_passOn wsX0_add := goodIn_r _ [15, 16, 11, 17, 18, 19, 20, 7, 8, 9, 10, 47, 48, 49, 50, 51] (by decide +kernel) (by decide +kernel)
set_option maxRecDepth 20000 in
theorem gX4_passOn_X0_add : GoodIn wsX4_passOn (wsV RX4 178 RX0 yX0_add wsX0_add) := goodIn_app (goodIn_of _ (by decide +kernel)) ggX4_passOn_X0_add
theorem dX4_passOn_0 : decode cX4_passOn 0 = .ok (.aload_n 0, 1) := by decide +kernel
theorem dX4_passOn_1 : decode cX4_passOn 1 = .ok (.getfield 27, 3) := by decide +kernel
theorem dX4_passOn_4 : decode cX4_passOn 4 = .ok (.invokevirtual 174, 3) := by decide +kernel
theorem dX4_passOn_7 : decode cX4_passOn 7 = .ok (.ifCond .eq 14, 3) := by decide +kernel
theorem dX4_passOn_10 : decode cX4_passOn 10 = .ok (.aload_n 0, 1) := by decide +kernel
theorem dX4_passOn_11 : decode cX4_passOn 11 = .ok (.dup, 1) := by decide +kernel
theorem dX4_passOn_12 : decode cX4_passOn 12 = .ok (.getfield 50, 3) := by decide +kernel
theorem dX4_passOn_15 : decode cX4_passOn 15 = .ok (.iconst 1, 1) := by decide +kernel
theorem dX4_passOn_16 : decode cX4_passOn 16 = .ok (.iadd, 1) := by decide +kernel
theorem dX4_passOn_17 : decode cX4_passOn 17 = .ok (.putfield 50, 3) := by decide +kernel
theorem dX4_passOn_20 : decode cX4_passOn 20 = .ok (.return_, 1) := by decide +kernel
theorem dX4_passOn_21 : decode cX4_passOn 21 = .ok (.aload_n 0, 1) := by decide +kernel
theorem dX4_passOn_22 : decode cX4_passOn 22 = .ok (.getfield 27, 3) := by decide +kernel
theorem dX4_passOn_25 : decode cX4_passOn 25 = .ok (.iload_n 1, 1) := by decide +kernel
theorem dX4_passOn_26 : decode cX4_passOn 26 = .ok (.aload_n 0, 1) := by decide +kernel
theorem dX4_passOn_27 : decode cX4_passOn 27 = .ok (.getfield 31, 3) := by decide +kernel
theorem dX4_passOn_30 : decode cX4_passOn 30 = .ok (.aload_n 0, 1) := by decide +kernel
theorem dX4_passOn_31 : decode cX4_passOn 31 = .ok (.getfield 11, 3) := by decide +kernel
theorem dX4_passOn_34 : decode cX4_passOn 34 = .ok (.iload_n 1, 1) := by decide +kernel
theorem dX4_passOn_35 : decode cX4_passOn 35 = .ok (.aaload, 1) := by decide +kernel
theorem dX4_passOn_36 : decode cX4_passOn 36 = .ok (.getfield 81, 3) := by decide +kernel
theorem dX4_passOn_39 : decode cX4_passOn 39 = .ok (.iconst 0, 1) := by decide +kernel
theorem dX4_passOn_40 : decode cX4_passOn 40 = .ok (.iaload, 1) := by decide +kernel
theorem dX4_passOn_41 : decode cX4_passOn 41 = .ok (.iadd, 1) := by decide +kernel
theorem dX4_passOn_42 : decode cX4_passOn 42 = .ok (.iload_n 2, 1) := by decide +kernel
theorem dX4_passOn_43 : decode cX4_passOn 43 = .ok (.iload_n 3, 1) := by decide +kernel
theorem dX4_passOn_44 : decode cX4_passOn 44 = .ok (.invokevirtual 178, 3) := by decide +kernel
theorem dX4_passOn_47 : decode cX4_passOn 47 = .ok (.return_, 1) := by decide +kernel
set_option maxRecDepth 20000 in
theorem ggX4_take_X2_sourceOf : GoodIn wsX4_take wsX2_sourceOf := goodIn_r _ [10] (by decide +kernel) (by decide +kernel)
set_option maxRecDepth 20000 in
theorem gX4_take_X2_sourceOf : GoodIn wsX4_take (va_wsS RX4 151 yX2_sourceOf wsX2_sourceOf) := goodIn_app (goodIn_of _ (by decide +kernel)) ggX4_take_X2_sourceOf
set_option maxRecDepth 20000 in
theorem ggX4_take_X2_numberOf : GoodIn wsX4_take wsX2_numberOf := goodIn_r _ [13] (by decide +kernel) (by decide +kernel)
set_option maxRecDepth 20000 in
theorem gX4_take_X2_numberOf : GoodIn wsX4_take (va_wsS RX4 181 yX2_numberOf wsX2_numberOf) := goodIn_app (goodIn_of _ (by decide +kernel)) ggX4_take_X2_numberOf
theorem dX4_take_0 : decode cX4_take 0 = .ok (.iload_n 2, 1) := by decide +kernel
theorem dX4_take_1 : decode cX4_take 1 = .ok (.invokestatic 151, 3) := by decide +kernel
theorem dX4_take_4 : decode cX4_take 4 = .ok (.istore_n 3, 1) := by decide +kernel
theorem dX4_take_5 : decode cX4_take 5 = .ok (.iload_n 2, 1) := by decide +kernel
theorem dX4_take_6 : decode cX4_take 6 = .ok (.invokestatic 181, 3) := by decide +kernel
theorem dX4_take_9 : decode cX4_take 9 = .ok (.istore 4, 2) := by decide +kernel
theorem dX4_take_11 : decode cX4_take 11 = .ok (.iload 4, 2) := by decide +kernel
theorem dX4_take_13 : decode cX4_take 13 = .ok (.aload_n 1, 1) := by decide +kernel
theorem dX4_take_14 : decode cX4_take 14 = .ok (.getfield 184, 3) := by decide +kernel
theorem dX4_take_17 : decode cX4_take 17 = .ok (.iload_n 3, 1) := by decide +kernel
theorem dX4_take_18 : decode cX4_take 18 = .ok (.iaload, 1) := by decide +kernel
theorem dX4_take_19 : decode cX4_take 19 = .ok (.if_icmp .gt 14, 3) := by decide +kernel
theorem dX4_take_22 : decode cX4_take 22 = .ok (.aload_n 1, 1) := by decide +kernel
theorem dX4_take_23 : decode cX4_take 23 = .ok (.dup, 1) := by decide +kernel
theorem dX4_take_24 : decode cX4_take 24 = .ok (.getfield 187, 3) := by decide +kernel
theorem dX4_take_27 : decode cX4_take 27 = .ok (.iconst 1, 1) := by decide +kernel
theorem dX4_take_28 : decode cX4_take 28 = .ok (.iadd, 1) := by decide +kernel
theorem dX4_take_29 : decode cX4_take 29 = .ok (.putfield 187, 3) := by decide +kernel
theorem dX4_take_32 : decode cX4_take 32 = .ok (.return_, 1) := by decide +kernel
theorem dX4_take_33 : decode cX4_take 33 = .ok (.aload_n 1, 1) := by decide +kernel
theorem dX4_take_34 : decode cX4_take 34 = .ok (.getfield 184, 3) := by decide +kernel
theorem dX4_take_37 : decode cX4_take 37 = .ok (.iload_n 3, 1) := by decide +kernel
theorem dX4_take_38 : decode cX4_take 38 = .ok (.iload 4, 2) := by decide +kernel
theorem dX4_take_40 : decode cX4_take 40 = .ok (.iastore, 1) := by decide +kernel
theorem dX4_take_41 : decode cX4_take 41 = .ok (.aload_n 1, 1) := by decide +kernel
theorem dX4_take_42 : decode cX4_take 42 = .ok (.aload_n 0, 1) := by decide +kernel
theorem dX4_take_43 : decode cX4_take 43 = .ok (.getfield 20, 3) := by decide +kernel
theorem dX4_take_46 : decode cX4_take 46 = .ok (.getfield 190, 3) := by decide +kernel
theorem dX4_take_49 : decode cX4_take 49 = .ok (.iload_n 2, 1) := by decide +kernel
theorem dX4_take_50 : decode cX4_take 50 = .ok (.iaload, 1) := by decide +kernel
theorem dX4_take_51 : decode cX4_take 51 = .ok (.putfield 193, 3) := by decide +kernel
theorem dX4_take_54 : decode cX4_take 54 = .ok (.aload_n 1, 1) := by decide +kernel
theorem dX4_take_55 : decode cX4_take 55 = .ok (.dup, 1) := by decide +kernel
theorem dX4_take_56 : decode cX4_take 56 = .ok (.getfield 196, 3) := by decide +kernel
theorem dX4_take_59 : decode cX4_take 59 = .ok (.iconst 1, 1) := by decide +kernel
theorem dX4_take_60 : decode cX4_take 60 = .ok (.iadd, 1) := by decide +kernel
theorem dX4_take_61 : decode cX4_take 61 = .ok (.putfield 196, 3) := by decide +kernel
theorem dX4_take_64 : decode cX4_take 64 = .ok (.return_, 1) := by decide +kernel
set_option maxRecDepth 20000 in
theorem ggX4_wake_X4_knows : GoodIn wsX4_wake wsX4_knows := goodIn_r _ [12, 13, 14, 15, 16, 17, 18, 19, 20, 43, 44, 45, 46, 47, 48, 49, 50, 51, 52, 53, 71, 72, 73] (by decide +kernel) (by decide +kernel)
set_option maxRecDepth 20000 in
theorem gX4_wake_X4_knows : GoodIn wsX4_wake (wsV RX4 126 RX4 yX4_knows wsX4_knows) := goodIn_app (goodIn_of _ (by decide +kernel)) ggX4_wake_X4_knows
set_option maxRecDepth 20000 in
theorem ggX4_wake_X4_take : GoodIn wsX4_wake wsX4_take := goodIn_r _ [24, 25, 26, 13, 27, 28, 2, 29, 30, 31, 32, 33, 34, 35, 54, 55, 56, 57, 58, 59, 60, 61, 62, 63, 64, 65, 66, 67, 68, 43, 44, 45, 46, 47, 48, 49, 50, 51, 52, 53, 71, 72, 73] (by decide +kernel) (by decide +kernel)
set_option maxRecDepth 20000 in
theorem gX4_wake_X4_take : GoodIn wsX4_wake (wsV RX4 158 RX4 yX4_take wsX4_take) := goodIn_app (goodIn_of _ (by decide +kernel)) ggX4_wake_X4_take
set_option maxRecDepth 20000 in
theorem ggX4_wake_X3_dropOldest : GoodIn wsX4_wake wsX3_dropOldest := goodIn_r _ [40, 41, 42, 69, 70] (by decide +kernel) (by decide +kernel)
set_option maxRecDepth 20000 in
theorem gX4_wake_X3_dropOldest : GoodIn wsX4_wake (wsV RX4 202 RX3 yX3_dropOldest wsX3_dropOldest) := goodIn_app (goodIn_of _ (by decide +kernel)) ggX4_wake_X3_dropOldest
theorem dX4_wake_0 : decode cX4_wake 0 = .ok (.aload_n 0, 1) := by decide +kernel
theorem dX4_wake_1 : decode cX4_wake 1 = .ok (.getfield 11, 3) := by decide +kernel
theorem dX4_wake_4 : decode cX4_wake 4 = .ok (.iload_n 1, 1) := by decide +kernel
theorem dX4_wake_5 : decode cX4_wake 5 = .ok (.aaload, 1) := by decide +kernel
theorem dX4_wake_6 : decode cX4_wake 6 = .ok (.astore_n 2, 1) := by decide +kernel
theorem dX4_wake_7 : decode cX4_wake 7 = .ok (.aload_n 2, 1) := by decide +kernel
theorem dX4_wake_8 : decode cX4_wake 8 = .ok (.getfield 196, 3) := by decide +kernel
theorem dX4_wake_11 : decode cX4_wake 11 = .ok (.istore_n 3, 1) := by decide +kernel
theorem dX4_wake_12 : decode cX4_wake 12 = .ok (.aload_n 2, 1) := by decide +kernel
theorem dX4_wake_13 : decode cX4_wake 13 = .ok (.iconst 0, 1) := by decide +kernel
theorem dX4_wake_14 : decode cX4_wake 14 = .ok (.putfield 109, 3) := by decide +kernel
theorem dX4_wake_17 : decode cX4_wake 17 = .ok (.iconst 0, 1) := by decide +kernel
theorem dX4_wake_18 : decode cX4_wake 18 = .ok (.istore 4, 2) := by decide +kernel
theorem dX4_wake_20 : decode cX4_wake 20 = .ok (.iload 4, 2) := by decide +kernel
theorem dX4_wake_22 : decode cX4_wake 22 = .ok (.aload_n 2, 1) := by decide +kernel
theorem dX4_wake_23 : decode cX4_wake 23 = .ok (.getfield 171, 3) := by decide +kernel
theorem dX4_wake_26 : decode cX4_wake 26 = .ok (.getfield 199, 3) := by decide +kernel
theorem dX4_wake_29 : decode cX4_wake 29 = .ok (.if_icmp .ge 51, 3) := by decide +kernel
theorem dX4_wake_32 : decode cX4_wake 32 = .ok (.aload_n 2, 1) := by decide +kernel
theorem dX4_wake_33 : decode cX4_wake 33 = .ok (.getfield 171, 3) := by decide +kernel
theorem dX4_wake_36 : decode cX4_wake 36 = .ok (.getfield 200, 3) := by decide +kernel
theorem dX4_wake_39 : decode cX4_wake 39 = .ok (.iload 4, 2) := by decide +kernel
theorem dX4_wake_41 : decode cX4_wake 41 = .ok (.iaload, 1) := by decide +kernel
theorem dX4_wake_42 : decode cX4_wake 42 = .ok (.istore 5, 2) := by decide +kernel
theorem dX4_wake_44 : decode cX4_wake 44 = .ok (.aload_n 0, 1) := by decide +kernel
theorem dX4_wake_45 : decode cX4_wake 45 = .ok (.iload_n 1, 1) := by decide +kernel
theorem dX4_wake_46 : decode cX4_wake 46 = .ok (.iload 5, 2) := by decide +kernel
theorem dX4_wake_48 : decode cX4_wake 48 = .ok (.invokevirtual 126, 3) := by decide +kernel
theorem dX4_wake_51 : decode cX4_wake 51 = .ok (.ifCond .eq 13, 3) := by decide +kernel
theorem dX4_wake_54 : decode cX4_wake 54 = .ok (.aload_n 0, 1) := by decide +kernel
theorem dX4_wake_55 : decode cX4_wake 55 = .ok (.aload_n 2, 1) := by decide +kernel
theorem dX4_wake_56 : decode cX4_wake 56 = .ok (.iload 5, 2) := by decide +kernel
theorem dX4_wake_58 : decode cX4_wake 58 = .ok (.invokevirtual 158, 3) := by decide +kernel
theorem dX4_wake_61 : decode cX4_wake 61 = .ok (.goto 13, 3) := by decide +kernel
theorem dX4_wake_64 : decode cX4_wake 64 = .ok (.aload_n 2, 1) := by decide +kernel
theorem dX4_wake_65 : decode cX4_wake 65 = .ok (.dup, 1) := by decide +kernel
theorem dX4_wake_66 : decode cX4_wake 66 = .ok (.getfield 129, 3) := by decide +kernel
theorem dX4_wake_69 : decode cX4_wake 69 = .ok (.iconst 1, 1) := by decide +kernel
theorem dX4_wake_70 : decode cX4_wake 70 = .ok (.iadd, 1) := by decide +kernel
theorem dX4_wake_71 : decode cX4_wake 71 = .ok (.putfield 129, 3) := by decide +kernel
theorem dX4_wake_74 : decode cX4_wake 74 = .ok (.iinc 4 1, 3) := by decide +kernel
theorem dX4_wake_77 : decode cX4_wake 77 = .ok (.goto (-57), 3) := by decide +kernel
theorem dX4_wake_80 : decode cX4_wake 80 = .ok (.aload_n 2, 1) := by decide +kernel
theorem dX4_wake_81 : decode cX4_wake 81 = .ok (.getfield 171, 3) := by decide +kernel
theorem dX4_wake_84 : decode cX4_wake 84 = .ok (.iconst 0, 1) := by decide +kernel
theorem dX4_wake_85 : decode cX4_wake 85 = .ok (.invokevirtual 202, 3) := by decide +kernel
theorem dX4_wake_88 : decode cX4_wake 88 = .ok (.aload_n 2, 1) := by decide +kernel
theorem dX4_wake_89 : decode cX4_wake 89 = .ok (.getfield 196, 3) := by decide +kernel
theorem dX4_wake_92 : decode cX4_wake 92 = .ok (.iload_n 3, 1) := by decide +kernel
theorem dX4_wake_93 : decode cX4_wake 93 = .ok (.isub, 1) := by decide +kernel
theorem dX4_wake_94 : decode cX4_wake 94 = .ok (.ireturn, 1) := by decide +kernel
set_option maxRecDepth 20000 in
theorem ggX4_sleepers_X5_asNumber : GoodIn wsX4_sleepers wsX5_asNumber := goodIn_r _ [5] (by decide +kernel) (by decide +kernel)
set_option maxRecDepth 20000 in
theorem gX4_sleepers_X5_asNumber_n205 : GoodIn wsX4_sleepers (wsX5_asNumber) := ggX4_sleepers_X5_asNumber
theorem dX4_sleepers_0 : decode cX4_sleepers 0 = .ok (.iconst 0, 1) := by decide +kernel
theorem dX4_sleepers_1 : decode cX4_sleepers 1 = .ok (.istore_n 1, 1) := by decide +kernel
theorem dX4_sleepers_2 : decode cX4_sleepers 2 = .ok (.iconst 0, 1) := by decide +kernel
theorem dX4_sleepers_3 : decode cX4_sleepers 3 = .ok (.istore_n 2, 1) := by decide +kernel
theorem dX4_sleepers_4 : decode cX4_sleepers 4 = .ok (.iload_n 2, 1) := by decide +kernel
theorem dX4_sleepers_5 : decode cX4_sleepers 5 = .ok (.bipush 10, 2) := by decide +kernel
theorem dX4_sleepers_7 : decode cX4_sleepers 7 = .ok (.if_icmp .ge 24, 3) := by decide +kernel
theorem dX4_sleepers_10 : decode cX4_sleepers 10 = .ok (.iload_n 1, 1) := by decide +kernel
theorem dX4_sleepers_11 : decode cX4_sleepers 11 = .ok (.aload_n 0, 1) := by decide +kernel
theorem dX4_sleepers_12 : decode cX4_sleepers 12 = .ok (.getfield 11, 3) := by decide +kernel
theorem dX4_sleepers_15 : decode cX4_sleepers 15 = .ok (.iload_n 2, 1) := by decide +kernel
theorem dX4_sleepers_16 : decode cX4_sleepers 16 = .ok (.aaload, 1) := by decide +kernel
theorem dX4_sleepers_17 : decode cX4_sleepers 17 = .ok (.getfield 109, 3) := by decide +kernel
theorem dX4_sleepers_20 : decode cX4_sleepers 20 = .ok (.invokestatic 205, 3) := by decide +kernel
theorem dX4_sleepers_23 : decode cX4_sleepers 23 = .ok (.iadd, 1) := by decide +kernel
theorem dX4_sleepers_24 : decode cX4_sleepers 24 = .ok (.istore_n 1, 1) := by decide +kernel
theorem dX4_sleepers_25 : decode cX4_sleepers 25 = .ok (.iinc 2 1, 3) := by decide +kernel
theorem dX4_sleepers_28 : decode cX4_sleepers 28 = .ok (.goto (-24), 3) := by decide +kernel
theorem dX4_sleepers_31 : decode cX4_sleepers 31 = .ok (.iload_n 1, 1) := by decide +kernel
theorem dX4_sleepers_32 : decode cX4_sleepers 32 = .ok (.ireturn, 1) := by decide +kernel
theorem dX4_allLights_0 : decode cX4_allLights 0 = .ok (.iconst 0, 1) := by decide +kernel
theorem dX4_allLights_1 : decode cX4_allLights 1 = .ok (.istore_n 1, 1) := by decide +kernel
theorem dX4_allLights_2 : decode cX4_allLights 2 = .ok (.iconst 0, 1) := by decide +kernel
theorem dX4_allLights_3 : decode cX4_allLights 3 = .ok (.istore_n 2, 1) := by decide +kernel
theorem dX4_allLights_4 : decode cX4_allLights 4 = .ok (.iload_n 2, 1) := by decide +kernel
theorem dX4_allLights_5 : decode cX4_allLights 5 = .ok (.bipush 10, 2) := by decide +kernel
theorem dX4_allLights_7 : decode cX4_allLights 7 = .ok (.if_icmp .ge 21, 3) := by decide +kernel
theorem dX4_allLights_10 : decode cX4_allLights 10 = .ok (.iload_n 1, 1) := by decide +kernel
theorem dX4_allLights_11 : decode cX4_allLights 11 = .ok (.aload_n 0, 1) := by decide +kernel
theorem dX4_allLights_12 : decode cX4_allLights 12 = .ok (.getfield 11, 3) := by decide +kernel
theorem dX4_allLights_15 : decode cX4_allLights 15 = .ok (.iload_n 2, 1) := by decide +kernel
theorem dX4_allLights_16 : decode cX4_allLights 16 = .ok (.aaload, 1) := by decide +kernel
theorem dX4_allLights_17 : decode cX4_allLights 17 = .ok (.getfield 193, 3) := by decide +kernel
theorem dX4_allLights_20 : decode cX4_allLights 20 = .ok (.iadd, 1) := by decide +kernel
theorem dX4_allLights_21 : decode cX4_allLights 21 = .ok (.istore_n 1, 1) := by decide +kernel
theorem dX4_allLights_22 : decode cX4_allLights 22 = .ok (.iinc 2 1, 3) := by decide +kernel
theorem dX4_allLights_25 : decode cX4_allLights 25 = .ok (.goto (-21), 3) := by decide +kernel
theorem dX4_allLights_28 : decode cX4_allLights 28 = .ok (.iload_n 1, 1) := by decide +kernel
theorem dX4_allLights_29 : decode cX4_allLights 29 = .ok (.ireturn, 1) := by decide +kernel
set_option maxRecDepth 20000 in
theorem ggX5_init_X4_init : GoodIn wsX5_init wsX4_init := goodIn_r _ [11, 12, 2, 3, 13, 14, 15, 16, 17, 18, 19, 20, 21, 22, 23, 24, 25, 26, 27, 28, 29, 30, 31, 32, 33, 34, 35, 36, 37, 38, 39, 40, 41, 42, 43, 44, 45, 46, 47, 48, 49, 50, 51, 52, 53, 54, 55, 56, 57, 58, 59, 60, 61, 62, 63, 64, 65, 66, 67, 68, 69, 70, 71, 72, 73, 74, 75, 76, 77, 78, 79, 80, 81, 82, 83, 84, 85, 86, 87, 88, 89, 90, 91, 92, 93, 94, 95, 98, 99, 100, 101, 102, 103, 104, 105, 106, 107, 108, 109, 110, 111, 112, 113, 114, 115, 116, 117, 118, 119, 120, 121, 122] (by decide +kernel) (by decide +kernel)
set_option maxRecDepth 20000 in
theorem gX5_init_X4_init : GoodIn wsX5_init (wsX4_init) := ggX5_init_X4_init
theorem dX5_init_0 : decode cX5_init 0 = .ok (.aload_n 0, 1) := by decide +kernel
theorem dX5_init_1 : decode cX5_init 1 = .ok (.invokespecial 1, 3) := by decide +kernel
theorem dX5_init_4 : decode cX5_init 4 = .ok (.aload_n 0, 1) := by decide +kernel
theorem dX5_init_5 : decode cX5_init 5 = .ok (.new 7, 3) := by decide +kernel
theorem dX5_init_8 : decode cX5_init 8 = .ok (.dup, 1) := by decide +kernel
theorem dX5_init_9 : decode cX5_init 9 = .ok (.invokespecial 9, 3) := by decide +kernel
theorem dX5_init_12 : decode cX5_init 12 = .ok (.putfield 10, 3) := by decide +kernel
theorem dX5_init_15 : decode cX5_init 15 = .ok (.aload_n 0, 1) := by decide +kernel
theorem dX5_init_16 : decode cX5_init 16 = .ok (.iconst 2, 1) := by decide +kernel
theorem dX5_init_17 : decode cX5_init 17 = .ok (.anewarray 7, 3) := by decide +kernel
theorem dX5_init_20 : decode cX5_init 20 = .ok (.putfield 16, 3) := by decide +kernel
theorem dX5_init_23 : decode cX5_init 23 = .ok (.return_, 1) := by decide +kernel
set_option maxRecDepth 20000 in
theorem ggX5_link_X5_isLamp : GoodIn wsX5_link wsX5_isLamp := goodIn_r _ [7, 8, 9, 6, 10] (by decide +kernel) (by decide +kernel)
set_option maxRecDepth 20000 in
theorem gX5_link_X5_isLamp : GoodIn wsX5_link (va_wsS RX5 20 yX5_isLamp wsX5_isLamp) := goodIn_app (goodIn_of _ (by decide +kernel)) ggX5_link_X5_isLamp
set_option maxRecDepth 20000 in
theorem ggX5_link_X5_isBetween : GoodIn wsX5_link wsX5_isBetween := goodIn_r _ [10] (by decide +kernel) (by decide +kernel)
set_option maxRecDepth 20000 in
theorem gX5_link_X5_isBetween : GoodIn wsX5_link (va_wsS RX5 24 yX5_isBetween wsX5_isBetween) := goodIn_app (goodIn_of _ (by decide +kernel)) ggX5_link_X5_isBetween
set_option maxRecDepth 20000 in
theorem ggX5_link_X5_changed : GoodIn wsX5_link wsX5_changed := goodIn_r _ [13] (by decide +kernel) (by decide +kernel)
set_option maxRecDepth 20000 in
theorem gX5_link_X5_changed : GoodIn wsX5_link (va_wsS RX5 38 yX5_changed wsX5_changed) := goodIn_app (goodIn_of _ (by decide +kernel)) ggX5_link_X5_changed
set_option maxRecDepth 20000 in
theorem ggX5_link_J6_bitCount_0f7a4 : GoodIn wsX5_link wsJ6_bitCount_0f7a4 := goodIn_r _ [17, 18, 19, 20] (by decide +kernel) (by decide +kernel)
set_option maxRecDepth 20000 in
theorem gX5_link_J6_bitCount_0f7a4 : GoodIn wsX5_link (va_wsS RX5 42 yJ6_bitCount_0f7a4 wsJ6_bitCount_0f7a4) := goodIn_app (goodIn_of _ (by decide +kernel)) ggX5_link_J6_bitCount_0f7a4
theorem dX5_link_0 : decode cX5_link 0 = .ok (.iload_n 1, 1) := by decide +kernel
theorem dX5_link_1 : decode cX5_link 1 = .ok (.invokestatic 20, 3) := by decide +kernel
theorem dX5_link_4 : decode cX5_link 4 = .ok (.ifCond .eq 10, 3) := by decide +kernel
theorem dX5_link_7 : decode cX5_link 7 = .ok (.iload_n 2, 1) := by decide +kernel
theorem dX5_link_8 : decode cX5_link 8 = .ok (.invokestatic 20, 3) := by decide +kernel
theorem dX5_link_11 : decode cX5_link 11 = .ok (.ifCond .ne 5, 3) := by decide +kernel
theorem dX5_link_14 : decode cX5_link 14 = .ok (.iconst (-1), 1) := by decide +kernel
theorem dX5_link_15 : decode cX5_link 15 = .ok (.ireturn, 1) := by decide +kernel
theorem dX5_link_16 : decode cX5_link 16 = .ok (.iload_n 1, 1) := by decide +kernel
theorem dX5_link_17 : decode cX5_link 17 = .ok (.iload_n 2, 1) := by decide +kernel
theorem dX5_link_18 : decode cX5_link 18 = .ok (.if_icmp .eq 12, 3) := by decide +kernel
theorem dX5_link_21 : decode cX5_link 21 = .ok (.iload_n 3, 1) := by decide +kernel
theorem dX5_link_22 : decode cX5_link 22 = .ok (.iconst 0, 1) := by decide +kernel
theorem dX5_link_23 : decode cX5_link 23 = .ok (.iconst 1, 1) := by decide +kernel
theorem dX5_link_24 : decode cX5_link 24 = .ok (.invokestatic 24, 3) := by decide +kernel
theorem dX5_link_27 : decode cX5_link 27 = .ok (.ifCond .ne 6, 3) := by decide +kernel
theorem dX5_link_30 : decode cX5_link 30 = .ok (.bipush (-2), 2) := by decide +kernel
theorem dX5_link_32 : decode cX5_link 32 = .ok (.ireturn, 1) := by decide +kernel
theorem dX5_link_33 : decode cX5_link 33 = .ok (.aload_n 0, 1) := by decide +kernel
theorem dX5_link_34 : decode cX5_link 34 = .ok (.getfield 10, 3) := by decide +kernel
theorem dX5_link_37 : decode cX5_link 37 = .ok (.getfield 28, 3) := by decide +kernel
theorem dX5_link_40 : decode cX5_link 40 = .ok (.iload_n 1, 1) := by decide +kernel
theorem dX5_link_41 : decode cX5_link 41 = .ok (.aaload, 1) := by decide +kernel
theorem dX5_link_42 : decode cX5_link 42 = .ok (.astore 4, 2) := by decide +kernel
theorem dX5_link_44 : decode cX5_link 44 = .ok (.aload_n 0, 1) := by decide +kernel
theorem dX5_link_45 : decode cX5_link 45 = .ok (.getfield 10, 3) := by decide +kernel
theorem dX5_link_48 : decode cX5_link 48 = .ok (.getfield 28, 3) := by decide +kernel
theorem dX5_link_51 : decode cX5_link 51 = .ok (.iload_n 2, 1) := by decide +kernel
theorem dX5_link_52 : decode cX5_link 52 = .ok (.aaload, 1) := by decide +kernel
theorem dX5_link_53 : decode cX5_link 53 = .ok (.astore 5, 2) := by decide +kernel
theorem dX5_link_55 : decode cX5_link 55 = .ok (.aload 4, 2) := by decide +kernel
theorem dX5_link_57 : decode cX5_link 57 = .ok (.aload 4, 2) := by decide +kernel
theorem dX5_link_59 : decode cX5_link 59 = .ok (.getfield 32, 3) := by decide +kernel
theorem dX5_link_62 : decode cX5_link 62 = .ok (.iload_n 2, 1) := by decide +kernel
theorem dX5_link_63 : decode cX5_link 63 = .ok (.iload_n 3, 1) := by decide +kernel
theorem dX5_link_64 : decode cX5_link 64 = .ok (.iconst 1, 1) := by decide +kernel
theorem dX5_link_65 : decode cX5_link 65 = .ok (.if_icmp .ne 7, 3) := by decide +kernel
theorem dX5_link_68 : decode cX5_link 68 = .ok (.iconst 1, 1) := by decide +kernel
theorem dX5_link_69 : decode cX5_link 69 = .ok (.goto 4, 3) := by decide +kernel
theorem dX5_link_72 : decode cX5_link 72 = .ok (.iconst 0, 1) := by decide +kernel
theorem dX5_link_73 : decode cX5_link 73 = .ok (.invokestatic 38, 3) := by decide +kernel
theorem dX5_link_76 : decode cX5_link 76 = .ok (.putfield 32, 3) := by decide +kernel
theorem dX5_link_79 : decode cX5_link 79 = .ok (.aload 5, 2) := by decide +kernel
theorem dX5_link_81 : decode cX5_link 81 = .ok (.aload 5, 2) := by decide +kernel
theorem dX5_link_83 : decode cX5_link 83 = .ok (.getfield 32, 3) := by decide +kernel
theorem dX5_link_86 : decode cX5_link 86 = .ok (.iload_n 1, 1) := by decide +kernel
theorem dX5_link_87 : decode cX5_link 87 = .ok (.iload_n 3, 1) := by decide +kernel
theorem dX5_link_88 : decode cX5_link 88 = .ok (.iconst 1, 1) := by decide +kernel
theorem dX5_link_89 : decode cX5_link 89 = .ok (.if_icmp .ne 7, 3) := by decide +kernel
theorem dX5_link_92 : decode cX5_link 92 = .ok (.iconst 1, 1) := by decide +kernel
theorem dX5_link_93 : decode cX5_link 93 = .ok (.goto 4, 3) := by decide +kernel
theorem dX5_link_96 : decode cX5_link 96 = .ok (.iconst 0, 1) := by decide +kernel
theorem dX5_link_97 : decode cX5_link 97 = .ok (.invokestatic 38, 3) := by decide +kernel
theorem dX5_link_100 : decode cX5_link 100 = .ok (.putfield 32, 3) := by decide +kernel
theorem dX5_link_103 : decode cX5_link 103 = .ok (.aload 4, 2) := by decide +kernel
theorem dX5_link_105 : decode cX5_link 105 = .ok (.getfield 32, 3) := by decide +kernel
theorem dX5_link_108 : decode cX5_link 108 = .ok (.invokestatic 42, 3) := by decide +kernel
theorem dX5_link_111 : decode cX5_link 111 = .ok (.ireturn, 1) := by decide +kernel
set_option maxRecDepth 20000 in
theorem ggX5_set_X5_isLamp : GoodIn wsX5_set wsX5_isLamp := goodIn_r _ [10, 11, 12, 9, 13] (by decide +kernel) (by decide +kernel)
set_option maxRecDepth 20000 in
theorem gX5_set_X5_isLamp : GoodIn wsX5_set (va_wsS RX5 20 yX5_isLamp wsX5_isLamp) := goodIn_app (goodIn_of _ (by decide +kernel)) ggX5_set_X5_isLamp
set_option maxRecDepth 20000 in
theorem ggX5_set_X5_isBetween : GoodIn wsX5_set wsX5_isBetween := goodIn_r _ [13] (by decide +kernel) (by decide +kernel)
set_option maxRecDepth 20000 in
theorem gX5_set_X5_isBetween : GoodIn wsX5_set (va_wsS RX5 24 yX5_isBetween wsX5_isBetween) := goodIn_app (goodIn_of _ (by decide +kernel)) ggX5_set_X5_isBetween
set_option maxRecDepth 20000 in
theorem ggX5_set_X3_dropOldest : GoodIn wsX5_set wsX3_dropOldest := goodIn_r _ [18, 19, 20, 49, 50] (by decide +kernel) (by decide +kernel)
set_option maxRecDepth 20000 in
theorem gX5_set_X3_dropOldest : GoodIn wsX5_set (wsV RX5 62 RX3 yX3_dropOldest wsX3_dropOldest) := goodIn_app (goodIn_of _ (by decide +kernel)) ggX5_set_X3_dropOldest
theorem dX5_set_0 : decode cX5_set 0 = .ok (.iload_n 1, 1) := by decide +kernel
theorem dX5_set_1 : decode cX5_set 1 = .ok (.invokestatic 20, 3) := by decide +kernel
theorem dX5_set_4 : decode cX5_set 4 = .ok (.ifCond .ne 5, 3) := by decide +kernel
theorem dX5_set_7 : decode cX5_set 7 = .ok (.iconst (-1), 1) := by decide +kernel
theorem dX5_set_8 : decode cX5_set 8 = .ok (.ireturn, 1) := by decide +kernel
theorem dX5_set_9 : decode cX5_set 9 = .ok (.iload_n 2, 1) := by decide +kernel
theorem dX5_set_10 : decode cX5_set 10 = .ok (.iconst 0, 1) := by decide +kernel
theorem dX5_set_11 : decode cX5_set 11 = .ok (.iconst 3, 1) := by decide +kernel
theorem dX5_set_12 : decode cX5_set 12 = .ok (.invokestatic 24, 3) := by decide +kernel
theorem dX5_set_15 : decode cX5_set 15 = .ok (.ifCond .eq 20, 3) := by decide +kernel
theorem dX5_set_18 : decode cX5_set 18 = .ok (.iload_n 3, 1) := by decide +kernel
theorem dX5_set_19 : decode cX5_set 19 = .ok (.getstatic 48, 3) := by decide +kernel
theorem dX5_set_22 : decode cX5_set 22 = .ok (.iload_n 2, 1) := by decide +kernel
theorem dX5_set_23 : decode cX5_set 23 = .ok (.iaload, 1) := by decide +kernel
theorem dX5_set_24 : decode cX5_set 24 = .ok (.getstatic 52, 3) := by decide +kernel
theorem dX5_set_27 : decode cX5_set 27 = .ok (.iload_n 2, 1) := by decide +kernel
theorem dX5_set_28 : decode cX5_set 28 = .ok (.iaload, 1) := by decide +kernel
theorem dX5_set_29 : decode cX5_set 29 = .ok (.invokestatic 24, 3) := by decide +kernel
theorem dX5_set_32 : decode cX5_set 32 = .ok (.ifCond .ne 6, 3) := by decide +kernel
theorem dX5_set_35 : decode cX5_set 35 = .ok (.bipush (-2), 2) := by decide +kernel
theorem dX5_set_37 : decode cX5_set 37 = .ok (.ireturn, 1) := by decide +kernel
theorem dX5_set_38 : decode cX5_set 38 = .ok (.aload_n 0, 1) := by decide +kernel
theorem dX5_set_39 : decode cX5_set 39 = .ok (.getfield 10, 3) := by decide +kernel
theorem dX5_set_42 : decode cX5_set 42 = .ok (.getfield 28, 3) := by decide +kernel
theorem dX5_set_45 : decode cX5_set 45 = .ok (.iload_n 1, 1) := by decide +kernel
theorem dX5_set_46 : decode cX5_set 46 = .ok (.aaload, 1) := by decide +kernel
theorem dX5_set_47 : decode cX5_set 47 = .ok (.astore 4, 2) := by decide +kernel
theorem dX5_set_49 : decode cX5_set 49 = .ok (.aload 4, 2) := by decide +kernel
theorem dX5_set_51 : decode cX5_set 51 = .ok (.getfield 55, 3) := by decide +kernel
theorem dX5_set_54 : decode cX5_set 54 = .ok (.iload_n 2, 1) := by decide +kernel
theorem dX5_set_55 : decode cX5_set 55 = .ok (.iaload, 1) := by decide +kernel
theorem dX5_set_56 : decode cX5_set 56 = .ok (.istore 5, 2) := by decide +kernel
theorem dX5_set_58 : decode cX5_set 58 = .ok (.aload 4, 2) := by decide +kernel
theorem dX5_set_60 : decode cX5_set 60 = .ok (.getfield 55, 3) := by decide +kernel
theorem dX5_set_63 : decode cX5_set 63 = .ok (.iload_n 2, 1) := by decide +kernel
theorem dX5_set_64 : decode cX5_set 64 = .ok (.iload_n 3, 1) := by decide +kernel
theorem dX5_set_65 : decode cX5_set 65 = .ok (.iastore, 1) := by decide +kernel
theorem dX5_set_66 : decode cX5_set 66 = .ok (.aload 4, 2) := by decide +kernel
theorem dX5_set_68 : decode cX5_set 68 = .ok (.getfield 58, 3) := by decide +kernel
theorem dX5_set_71 : decode cX5_set 71 = .ok (.aload 4, 2) := by decide +kernel
theorem dX5_set_73 : decode cX5_set 73 = .ok (.getfield 55, 3) := by decide +kernel
theorem dX5_set_76 : decode cX5_set 76 = .ok (.iconst 2, 1) := by decide +kernel
theorem dX5_set_77 : decode cX5_set 77 = .ok (.iaload, 1) := by decide +kernel
theorem dX5_set_78 : decode cX5_set 78 = .ok (.invokevirtual 62, 3) := by decide +kernel
theorem dX5_set_81 : decode cX5_set 81 = .ok (.iload 5, 2) := by decide +kernel
theorem dX5_set_83 : decode cX5_set 83 = .ok (.ireturn, 1) := by decide +kernel
set_option maxRecDepth 20000 in
theorem ggX5_friend_X5_isLamp : GoodIn wsX5_friend wsX5_isLamp := goodIn_r _ [9, 10, 11, 8, 12] (by decide +kernel) (by decide +kernel)
set_option maxRecDepth 20000 in
theorem gX5_friend_X5_isLamp : GoodIn wsX5_friend (va_wsS RX5 20 yX5_isLamp wsX5_isLamp) := goodIn_app (goodIn_of _ (by decide +kernel)) ggX5_friend_X5_isLamp
set_option maxRecDepth 20000 in
theorem ggX5_friend_X3_dropOldest : GoodIn wsX5_friend wsX3_dropOldest := goodIn_r _ [17, 18, 19, 48, 49] (by decide +kernel) (by decide +kernel)
set_option maxRecDepth 20000 in
theorem gX5_friend_X3_dropOldest : GoodIn wsX5_friend (wsV RX5 62 RX3 yX3_dropOldest wsX3_dropOldest) := goodIn_app (goodIn_of _ (by decide +kernel)) ggX5_friend_X3_dropOldest
theorem dX5_friend_0 : decode cX5_friend 0 = .ok (.iload_n 1, 1) := by decide +kernel
theorem dX5_friend_1 : decode cX5_friend 1 = .ok (.invokestatic 20, 3) := by decide +kernel
theorem dX5_friend_4 : decode cX5_friend 4 = .ok (.ifCond .ne 5, 3) := by decide +kernel
theorem dX5_friend_7 : decode cX5_friend 7 = .ok (.iconst (-1), 1) := by decide +kernel
theorem dX5_friend_8 : decode cX5_friend 8 = .ok (.ireturn, 1) := by decide +kernel
theorem dX5_friend_9 : decode cX5_friend 9 = .ok (.iload_n 2, 1) := by decide +kernel
theorem dX5_friend_10 : decode cX5_friend 10 = .ok (.bipush (-6), 2) := by decide +kernel
theorem dX5_friend_12 : decode cX5_friend 12 = .ok (.if_icmp .eq 10, 3) := by decide +kernel
theorem dX5_friend_15 : decode cX5_friend 15 = .ok (.iload_n 2, 1) := by decide +kernel
theorem dX5_friend_16 : decode cX5_friend 16 = .ok (.invokestatic 20, 3) := by decide +kernel
theorem dX5_friend_19 : decode cX5_friend 19 = .ok (.ifCond .eq 8, 3) := by decide +kernel
theorem dX5_friend_22 : decode cX5_friend 22 = .ok (.iload_n 2, 1) := by decide +kernel
theorem dX5_friend_23 : decode cX5_friend 23 = .ok (.iload_n 1, 1) := by decide +kernel
theorem dX5_friend_24 : decode cX5_friend 24 = .ok (.if_icmp .ne 6, 3) := by decide +kernel
theorem dX5_friend_27 : decode cX5_friend 27 = .ok (.bipush (-2), 2) := by decide +kernel
theorem dX5_friend_29 : decode cX5_friend 29 = .ok (.ireturn, 1) := by decide +kernel
theorem dX5_friend_30 : decode cX5_friend 30 = .ok (.aload_n 0, 1) := by decide +kernel
theorem dX5_friend_31 : decode cX5_friend 31 = .ok (.getfield 10, 3) := by decide +kernel
theorem dX5_friend_34 : decode cX5_friend 34 = .ok (.getfield 28, 3) := by decide +kernel
theorem dX5_friend_37 : decode cX5_friend 37 = .ok (.iload_n 1, 1) := by decide +kernel
theorem dX5_friend_38 : decode cX5_friend 38 = .ok (.aaload, 1) := by decide +kernel
theorem dX5_friend_39 : decode cX5_friend 39 = .ok (.astore_n 3, 1) := by decide +kernel
theorem dX5_friend_40 : decode cX5_friend 40 = .ok (.aload_n 3, 1) := by decide +kernel
theorem dX5_friend_41 : decode cX5_friend 41 = .ok (.getfield 68, 3) := by decide +kernel
theorem dX5_friend_44 : decode cX5_friend 44 = .ok (.ifCond .eq 6, 3) := by decide +kernel
theorem dX5_friend_47 : decode cX5_friend 47 = .ok (.bipush (-3), 2) := by decide +kernel
theorem dX5_friend_49 : decode cX5_friend 49 = .ok (.ireturn, 1) := by decide +kernel
theorem dX5_friend_50 : decode cX5_friend 50 = .ok (.aload_n 3, 1) := by decide +kernel
theorem dX5_friend_51 : decode cX5_friend 51 = .ok (.getfield 72, 3) := by decide +kernel
theorem dX5_friend_54 : decode cX5_friend 54 = .ok (.istore 4, 2) := by decide +kernel
theorem dX5_friend_56 : decode cX5_friend 56 = .ok (.aload_n 3, 1) := by decide +kernel
theorem dX5_friend_57 : decode cX5_friend 57 = .ok (.iload_n 2, 1) := by decide +kernel
theorem dX5_friend_58 : decode cX5_friend 58 = .ok (.putfield 72, 3) := by decide +kernel
theorem dX5_friend_61 : decode cX5_friend 61 = .ok (.aload_n 3, 1) := by decide +kernel
theorem dX5_friend_62 : decode cX5_friend 62 = .ok (.getfield 75, 3) := by decide +kernel
theorem dX5_friend_65 : decode cX5_friend 65 = .ok (.iconst 0, 1) := by decide +kernel
theorem dX5_friend_66 : decode cX5_friend 66 = .ok (.invokevirtual 62, 3) := by decide +kernel
theorem dX5_friend_69 : decode cX5_friend 69 = .ok (.iload 4, 2) := by decide +kernel
theorem dX5_friend_71 : decode cX5_friend 71 = .ok (.ireturn, 1) := by decide +kernel
set_option maxRecDepth 20000 in
theorem ggX5_sleep_X5_isLamp : GoodIn wsX5_sleep wsX5_isLamp := goodIn_r _ [8, 9, 10, 7, 11] (by decide +kernel) (by decide +kernel)
set_option maxRecDepth 20000 in
theorem gX5_sleep_X5_isLamp : GoodIn wsX5_sleep (va_wsS RX5 20 yX5_isLamp wsX5_isLamp) := goodIn_app (goodIn_of _ (by decide +kernel)) ggX5_sleep_X5_isLamp
set_option maxRecDepth 20000 in
theorem ggX5_sleep_X5_isBetween : GoodIn wsX5_sleep wsX5_isBetween := goodIn_r _ [11] (by decide +kernel) (by decide +kernel)
set_option maxRecDepth 20000 in
theorem gX5_sleep_X5_isBetween : GoodIn wsX5_sleep (va_wsS RX5 24 yX5_isBetween wsX5_isBetween) := goodIn_app (goodIn_of _ (by decide +kernel)) ggX5_sleep_X5_isBetween
set_option maxRecDepth 20000 in
theorem ggX5_sleep_X4_wake : GoodIn wsX5_sleep wsX4_wake := goodIn_r _ [16, 17, 18, 19, 20, 21, 22, 23, 24, 25, 26, 15, 27, 28, 29, 30, 31, 32, 33, 7, 34, 35, 36, 37, 38, 39, 40, 41, 42, 43, 44, 45, 46, 47, 48, 49, 50, 51, 52, 53, 54, 55, 56, 59, 60, 61, 62, 63, 64, 65, 66, 67, 68, 69, 70, 71, 72, 73, 74, 75, 76, 77, 78, 79, 80, 81, 82, 83, 84, 85, 86, 87, 88, 89] (by decide +kernel) (by decide +kernel)
set_option maxRecDepth 20000 in
theorem gX5_sleep_X4_wake : GoodIn wsX5_sleep (wsV RX5 78 RX4 yX4_wake wsX4_wake) := goodIn_app (goodIn_of _ (by decide +kernel)) ggX5_sleep_X4_wake
theorem dX5_sleep_0 : decode cX5_sleep 0 = .ok (.iload_n 1, 1) := by decide +kernel
theorem dX5_sleep_1 : decode cX5_sleep 1 = .ok (.invokestatic 20, 3) := by decide +kernel
theorem dX5_sleep_4 : decode cX5_sleep 4 = .ok (.ifCond .ne 5, 3) := by decide +kernel
theorem dX5_sleep_7 : decode cX5_sleep 7 = .ok (.iconst (-1), 1) := by decide +kernel
theorem dX5_sleep_8 : decode cX5_sleep 8 = .ok (.ireturn, 1) := by decide +kernel
theorem dX5_sleep_9 : decode cX5_sleep 9 = .ok (.iload_n 2, 1) := by decide +kernel
theorem dX5_sleep_10 : decode cX5_sleep 10 = .ok (.iconst 0, 1) := by decide +kernel
theorem dX5_sleep_11 : decode cX5_sleep 11 = .ok (.iconst 1, 1) := by decide +kernel
theorem dX5_sleep_12 : decode cX5_sleep 12 = .ok (.invokestatic 24, 3) := by decide +kernel
theorem dX5_sleep_15 : decode cX5_sleep 15 = .ok (.ifCond .ne 6, 3) := by decide +kernel
theorem dX5_sleep_18 : decode cX5_sleep 18 = .ok (.bipush (-2), 2) := by decide +kernel
theorem dX5_sleep_20 : decode cX5_sleep 20 = .ok (.ireturn, 1) := by decide +kernel
