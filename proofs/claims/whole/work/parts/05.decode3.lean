theorem dX5_sleep_21 : decode cX5_sleep 21 = .ok (.aload_n 0, 1) := by decide +kernel
theorem dX5_sleep_22 : decode cX5_sleep 22 = .ok (.getfield 10, 3) := by decide +kernel
theorem dX5_sleep_25 : decode cX5_sleep 25 = .ok (.getfield 28, 3) := by decide +kernel
theorem dX5_sleep_28 : decode cX5_sleep 28 = .ok (.iload_n 1, 1) := by decide +kernel
theorem dX5_sleep_29 : decode cX5_sleep 29 = .ok (.aaload, 1) := by decide +kernel
theorem dX5_sleep_30 : decode cX5_sleep 30 = .ok (.astore_n 3, 1) := by decide +kernel
theorem dX5_sleep_31 : decode cX5_sleep 31 = .ok (.iload_n 2, 1) := by decide +kernel
theorem dX5_sleep_32 : decode cX5_sleep 32 = .ok (.iconst 1, 1) := by decide +kernel
theorem dX5_sleep_33 : decode cX5_sleep 33 = .ok (.if_icmp .ne 15, 3) := by decide +kernel
theorem dX5_sleep_36 : decode cX5_sleep 36 = .ok (.aload_n 3, 1) := by decide +kernel
theorem dX5_sleep_37 : decode cX5_sleep 37 = .ok (.getfield 72, 3) := by decide +kernel
theorem dX5_sleep_40 : decode cX5_sleep 40 = .ok (.bipush (-6), 2) := by decide +kernel
theorem dX5_sleep_42 : decode cX5_sleep 42 = .ok (.if_icmp .ne 6, 3) := by decide +kernel
theorem dX5_sleep_45 : decode cX5_sleep 45 = .ok (.bipush (-5), 2) := by decide +kernel
theorem dX5_sleep_47 : decode cX5_sleep 47 = .ok (.ireturn, 1) := by decide +kernel
theorem dX5_sleep_48 : decode cX5_sleep 48 = .ok (.iload_n 2, 1) := by decide +kernel
theorem dX5_sleep_49 : decode cX5_sleep 49 = .ok (.ifCond .ne 19, 3) := by decide +kernel
theorem dX5_sleep_52 : decode cX5_sleep 52 = .ok (.aload_n 3, 1) := by decide +kernel
theorem dX5_sleep_53 : decode cX5_sleep 53 = .ok (.getfield 68, 3) := by decide +kernel
theorem dX5_sleep_56 : decode cX5_sleep 56 = .ok (.ifCond .eq 12, 3) := by decide +kernel
theorem dX5_sleep_59 : decode cX5_sleep 59 = .ok (.aload_n 0, 1) := by decide +kernel
theorem dX5_sleep_60 : decode cX5_sleep 60 = .ok (.getfield 10, 3) := by decide +kernel
theorem dX5_sleep_63 : decode cX5_sleep 63 = .ok (.iload_n 1, 1) := by decide +kernel
theorem dX5_sleep_64 : decode cX5_sleep 64 = .ok (.invokevirtual 78, 3) := by decide +kernel
theorem dX5_sleep_67 : decode cX5_sleep 67 = .ok (.ireturn, 1) := by decide +kernel
theorem dX5_sleep_68 : decode cX5_sleep 68 = .ok (.aload_n 3, 1) := by decide +kernel
theorem dX5_sleep_69 : decode cX5_sleep 69 = .ok (.iload_n 2, 1) := by decide +kernel
theorem dX5_sleep_70 : decode cX5_sleep 70 = .ok (.iconst 1, 1) := by decide +kernel
theorem dX5_sleep_71 : decode cX5_sleep 71 = .ok (.if_icmp .ne 7, 3) := by decide +kernel
theorem dX5_sleep_74 : decode cX5_sleep 74 = .ok (.iconst 1, 1) := by decide +kernel
theorem dX5_sleep_75 : decode cX5_sleep 75 = .ok (.goto 4, 3) := by decide +kernel
theorem dX5_sleep_78 : decode cX5_sleep 78 = .ok (.iconst 0, 1) := by decide +kernel
theorem dX5_sleep_79 : decode cX5_sleep 79 = .ok (.putfield 68, 3) := by decide +kernel
theorem dX5_sleep_82 : decode cX5_sleep 82 = .ok (.iconst 0, 1) := by decide +kernel
theorem dX5_sleep_83 : decode cX5_sleep 83 = .ok (.ireturn, 1) := by decide +kernel
set_option maxRecDepth 20000 in
theorem ggX5_phase_X4_nextPhase : GoodIn wsX5_phase wsX4_nextPhase := goodIn_r _ [7, 8, 9, 10, 11, 14, 15, 16, 17, 18, 19, 20, 21, 22, 23, 24] (by decide +kernel) (by decide +kernel)
set_option maxRecDepth 20000 in
theorem gX5_phase_X4_nextPhase : GoodIn wsX5_phase (wsV RX5 81 RX4 yX4_nextPhase wsX4_nextPhase) := goodIn_app (goodIn_of _ (by decide +kernel)) ggX5_phase_X4_nextPhase
theorem dX5_phase_0 : decode cX5_phase 0 = .ok (.aload_n 0, 1) := by decide +kernel
theorem dX5_phase_1 : decode cX5_phase 1 = .ok (.getfield 10, 3) := by decide +kernel
theorem dX5_phase_4 : decode cX5_phase 4 = .ok (.invokevirtual 81, 3) := by decide +kernel
theorem dX5_phase_7 : decode cX5_phase 7 = .ok (.aload_n 0, 1) := by decide +kernel
theorem dX5_phase_8 : decode cX5_phase 8 = .ok (.getfield 10, 3) := by decide +kernel
theorem dX5_phase_11 : decode cX5_phase 11 = .ok (.getfield 84, 3) := by decide +kernel
theorem dX5_phase_14 : decode cX5_phase 14 = .ok (.ireturn, 1) := by decide +kernel
set_option maxRecDepth 20000 in
theorem ggX5_give_X5_isLamp : GoodIn wsX5_give wsX5_isLamp := goodIn_r _ [7, 8, 9, 6, 10] (by decide +kernel) (by decide +kernel)
set_option maxRecDepth 20000 in
theorem gX5_give_X5_isLamp : GoodIn wsX5_give (va_wsS RX5 20 yX5_isLamp wsX5_isLamp) := goodIn_app (goodIn_of _ (by decide +kernel)) ggX5_give_X5_isLamp
set_option maxRecDepth 20000 in
theorem ggX5_give_X5_changed : GoodIn wsX5_give wsX5_changed := goodIn_r _ [13] (by decide +kernel) (by decide +kernel)
set_option maxRecDepth 20000 in
theorem gX5_give_X5_changed : GoodIn wsX5_give (va_wsS RX5 38 yX5_changed wsX5_changed) := goodIn_app (goodIn_of _ (by decide +kernel)) ggX5_give_X5_changed
set_option maxRecDepth 20000 in
theorem ggX5_give_J6_bitCount_0f7a4 : GoodIn wsX5_give wsJ6_bitCount_0f7a4 := goodIn_r _ [17, 18, 19, 20] (by decide +kernel) (by decide +kernel)
set_option maxRecDepth 20000 in
theorem gX5_give_J6_bitCount_0f7a4 : GoodIn wsX5_give (va_wsS RX5 42 yJ6_bitCount_0f7a4 wsJ6_bitCount_0f7a4) := goodIn_app (goodIn_of _ (by decide +kernel)) ggX5_give_J6_bitCount_0f7a4
theorem dX5_give_0 : decode cX5_give 0 = .ok (.iload_n 1, 1) := by decide +kernel
theorem dX5_give_1 : decode cX5_give 1 = .ok (.invokestatic 20, 3) := by decide +kernel
theorem dX5_give_4 : decode cX5_give 4 = .ok (.ifCond .ne 5, 3) := by decide +kernel
theorem dX5_give_7 : decode cX5_give 7 = .ok (.iconst (-1), 1) := by decide +kernel
theorem dX5_give_8 : decode cX5_give 8 = .ok (.ireturn, 1) := by decide +kernel
theorem dX5_give_9 : decode cX5_give 9 = .ok (.aload_n 0, 1) := by decide +kernel
theorem dX5_give_10 : decode cX5_give 10 = .ok (.getfield 10, 3) := by decide +kernel
theorem dX5_give_13 : decode cX5_give 13 = .ok (.getfield 84, 3) := by decide +kernel
theorem dX5_give_16 : decode cX5_give 16 = .ok (.ifCond .ne 6, 3) := by decide +kernel
theorem dX5_give_19 : decode cX5_give 19 = .ok (.bipush (-3), 2) := by decide +kernel
theorem dX5_give_21 : decode cX5_give 21 = .ok (.ireturn, 1) := by decide +kernel
theorem dX5_give_22 : decode cX5_give 22 = .ok (.aload_n 0, 1) := by decide +kernel
theorem dX5_give_23 : decode cX5_give 23 = .ok (.getfield 10, 3) := by decide +kernel
theorem dX5_give_26 : decode cX5_give 26 = .ok (.aload_n 0, 1) := by decide +kernel
theorem dX5_give_27 : decode cX5_give 27 = .ok (.getfield 10, 3) := by decide +kernel
theorem dX5_give_30 : decode cX5_give 30 = .ok (.getfield 87, 3) := by decide +kernel
theorem dX5_give_33 : decode cX5_give 33 = .ok (.iload_n 1, 1) := by decide +kernel
theorem dX5_give_34 : decode cX5_give 34 = .ok (.iconst 1, 1) := by decide +kernel
theorem dX5_give_35 : decode cX5_give 35 = .ok (.invokestatic 38, 3) := by decide +kernel
theorem dX5_give_38 : decode cX5_give 38 = .ok (.putfield 87, 3) := by decide +kernel
theorem dX5_give_41 : decode cX5_give 41 = .ok (.aload_n 0, 1) := by decide +kernel
theorem dX5_give_42 : decode cX5_give 42 = .ok (.getfield 10, 3) := by decide +kernel
theorem dX5_give_45 : decode cX5_give 45 = .ok (.getfield 87, 3) := by decide +kernel
theorem dX5_give_48 : decode cX5_give 48 = .ok (.invokestatic 42, 3) := by decide +kernel
theorem dX5_give_51 : decode cX5_give 51 = .ok (.ireturn, 1) := by decide +kernel
set_option maxRecDepth 20000 in
theorem ggX5_has_X5_isLamp : GoodIn wsX5_has wsX5_isLamp := goodIn_r _ [7, 8, 9, 6, 10] (by decide +kernel) (by decide +kernel)
set_option maxRecDepth 20000 in
theorem gX5_has_X5_isLamp : GoodIn wsX5_has (va_wsS RX5 20 yX5_isLamp wsX5_isLamp) := goodIn_app (goodIn_of _ (by decide +kernel)) ggX5_has_X5_isLamp
set_option maxRecDepth 20000 in
theorem ggX5_has_X5_isBetween : GoodIn wsX5_has wsX5_isBetween := goodIn_r _ [10] (by decide +kernel) (by decide +kernel)
set_option maxRecDepth 20000 in
theorem gX5_has_X5_isBetween : GoodIn wsX5_has (va_wsS RX5 24 yX5_isBetween wsX5_isBetween) := goodIn_app (goodIn_of _ (by decide +kernel)) ggX5_has_X5_isBetween
set_option maxRecDepth 20000 in
theorem ggX5_has_X5_isIn : GoodIn wsX5_has wsX5_isIn := goodIn_r _ [13] (by decide +kernel) (by decide +kernel)
set_option maxRecDepth 20000 in
theorem gX5_has_X5_isIn : GoodIn wsX5_has (va_wsS RX5 93 yX5_isIn wsX5_isIn) := goodIn_app (goodIn_of _ (by decide +kernel)) ggX5_has_X5_isIn
set_option maxRecDepth 20000 in
theorem ggX5_has_X5_asNumber : GoodIn wsX5_has wsX5_asNumber := goodIn_r _ [16] (by decide +kernel) (by decide +kernel)
set_option maxRecDepth 20000 in
theorem gX5_has_X5_asNumber : GoodIn wsX5_has (va_wsS RX5 97 yX5_asNumber wsX5_asNumber) := goodIn_app (goodIn_of _ (by decide +kernel)) ggX5_has_X5_asNumber
theorem dX5_has_0 : decode cX5_has 0 = .ok (.iload_n 1, 1) := by decide +kernel
theorem dX5_has_1 : decode cX5_has 1 = .ok (.invokestatic 20, 3) := by decide +kernel
theorem dX5_has_4 : decode cX5_has 4 = .ok (.ifCond .ne 5, 3) := by decide +kernel
theorem dX5_has_7 : decode cX5_has 7 = .ok (.iconst (-1), 1) := by decide +kernel
theorem dX5_has_8 : decode cX5_has 8 = .ok (.ireturn, 1) := by decide +kernel
theorem dX5_has_9 : decode cX5_has 9 = .ok (.iload_n 2, 1) := by decide +kernel
theorem dX5_has_10 : decode cX5_has 10 = .ok (.iconst 0, 1) := by decide +kernel
theorem dX5_has_11 : decode cX5_has 11 = .ok (.iconst 1, 1) := by decide +kernel
theorem dX5_has_12 : decode cX5_has 12 = .ok (.invokestatic 24, 3) := by decide +kernel
theorem dX5_has_15 : decode cX5_has 15 = .ok (.ifCond .ne 6, 3) := by decide +kernel
theorem dX5_has_18 : decode cX5_has 18 = .ok (.bipush (-2), 2) := by decide +kernel
theorem dX5_has_20 : decode cX5_has 20 = .ok (.ireturn, 1) := by decide +kernel
theorem dX5_has_21 : decode cX5_has 21 = .ok (.iload_n 2, 1) := by decide +kernel
theorem dX5_has_22 : decode cX5_has 22 = .ok (.ifCond .ne 13, 3) := by decide +kernel
theorem dX5_has_25 : decode cX5_has 25 = .ok (.aload_n 0, 1) := by decide +kernel
theorem dX5_has_26 : decode cX5_has 26 = .ok (.getfield 10, 3) := by decide +kernel
theorem dX5_has_29 : decode cX5_has 29 = .ok (.getfield 90, 3) := by decide +kernel
theorem dX5_has_32 : decode cX5_has 32 = .ok (.goto 10, 3) := by decide +kernel
theorem dX5_has_35 : decode cX5_has 35 = .ok (.aload_n 0, 1) := by decide +kernel
theorem dX5_has_36 : decode cX5_has 36 = .ok (.getfield 10, 3) := by decide +kernel
theorem dX5_has_39 : decode cX5_has 39 = .ok (.getfield 87, 3) := by decide +kernel
theorem dX5_has_42 : decode cX5_has 42 = .ok (.iload_n 1, 1) := by decide +kernel
theorem dX5_has_43 : decode cX5_has 43 = .ok (.invokestatic 93, 3) := by decide +kernel
theorem dX5_has_46 : decode cX5_has 46 = .ok (.invokestatic 97, 3) := by decide +kernel
theorem dX5_has_49 : decode cX5_has 49 = .ok (.ireturn, 1) := by decide +kernel
set_option maxRecDepth 20000 in
theorem ggX5_tell_X5_isLamp : GoodIn wsX5_tell wsX5_isLamp := goodIn_r _ [13, 14, 15, 12, 16] (by decide +kernel) (by decide +kernel)
set_option maxRecDepth 20000 in
theorem gX5_tell_X5_isLamp : GoodIn wsX5_tell (va_wsS RX5 20 yX5_isLamp wsX5_isLamp) := goodIn_app (goodIn_of _ (by decide +kernel)) ggX5_tell_X5_isLamp
set_option maxRecDepth 20000 in
theorem ggX5_tell_X5_isBetween : GoodIn wsX5_tell wsX5_isBetween := goodIn_r _ [16] (by decide +kernel) (by decide +kernel)
set_option maxRecDepth 20000 in
theorem gX5_tell_X5_isBetween : GoodIn wsX5_tell (va_wsS RX5 24 yX5_isBetween wsX5_isBetween) := goodIn_app (goodIn_of _ (by decide +kernel)) ggX5_tell_X5_isBetween
set_option maxRecDepth 20000 in
theorem ggX5_tell_X4_canTell : GoodIn wsX5_tell wsX4_canTell := goodIn_r _ [21, 22, 23, 24, 25, 20, 26, 27, 28, 29, 12, 30, 75, 76, 77, 78, 79, 80, 81, 82, 83, 84, 85] (by decide +kernel) (by decide +kernel)
set_option maxRecDepth 20000 in
theorem gX5_tell_X4_canTell : GoodIn wsX5_tell (wsV RX5 101 RX4 yX4_canTell wsX4_canTell) := goodIn_app (goodIn_of _ (by decide +kernel)) ggX5_tell_X4_canTell
set_option maxRecDepth 20000 in
theorem ggX5_tell_X0_isFull : GoodIn wsX5_tell wsX0_isFull := goodIn_r _ [35, 36, 101, 102, 103, 104, 105] (by decide +kernel) (by decide +kernel)
set_option maxRecDepth 20000 in
theorem gX5_tell_X0_isFull : GoodIn wsX5_tell (wsV RX5 108 RX0 yX0_isFull wsX0_isFull) := goodIn_app (goodIn_of _ (by decide +kernel)) ggX5_tell_X0_isFull
set_option maxRecDepth 20000 in
theorem ggX5_tell_X2_place : GoodIn wsX5_tell wsX2_place := goodIn_r _ [40] (by decide +kernel) (by decide +kernel)
set_option maxRecDepth 20000 in
theorem gX5_tell_X2_place : GoodIn wsX5_tell (va_wsS RX5 117 yX2_place wsX2_place) := goodIn_app (goodIn_of _ (by decide +kernel)) ggX5_tell_X2_place
set_option maxRecDepth 20000 in
theorem ggX5_tell_X4_keyToTell : GoodIn wsX5_tell wsX4_keyToTell := goodIn_r _ [44, 45, 23, 24, 25, 20, 26, 27, 28, 29, 12, 30, 75, 76, 77, 78, 79, 80, 81, 82, 83, 84, 85] (by decide +kernel) (by decide +kernel)
set_option maxRecDepth 20000 in
theorem gX5_tell_X4_keyToTell : GoodIn wsX5_tell (wsV RX5 127 RX4 yX4_keyToTell wsX4_keyToTell) := goodIn_app (goodIn_of _ (by decide +kernel)) ggX5_tell_X4_keyToTell
set_option maxRecDepth 20000 in
theorem ggX5_tell_X2_write : GoodIn wsX5_tell wsX2_write := goodIn_r _ [49, 50, 51, 52, 106, 107, 108] (by decide +kernel) (by decide +kernel)
set_option maxRecDepth 20000 in
theorem gX5_tell_X2_write : GoodIn wsX5_tell (wsV RX5 130 RX2 yX2_write wsX2_write) := goodIn_app (goodIn_of _ (by decide +kernel)) ggX5_tell_X2_write
set_option maxRecDepth 20000 in
theorem ggX5_tell_X3_add : GoodIn wsX5_tell wsX3_add := goodIn_r _ [57, 58, 59, 60, 61, 62, 56, 63, 109, 110] (by decide +kernel) (by decide +kernel)
set_option maxRecDepth 20000 in
theorem gX5_tell_X3_add : GoodIn wsX5_tell (wsV RX5 134 RX3 yX3_add wsX3_add) := goodIn_app (goodIn_of _ (by decide +kernel)) ggX5_tell_X3_add
set_option maxRecDepth 20000 in
theorem ggX5_tell_X0_add : GoodIn wsX5_tell wsX0_add := goodIn_r _ [67, 68, 36, 69, 70, 71, 72, 32, 33, 34, 35, 101, 102, 103, 104, 105] (by decide +kernel) (by decide +kernel)
set_option maxRecDepth 20000 in
theorem gX5_tell_X0_add : GoodIn wsX5_tell (wsV RX5 141 RX0 yX0_add wsX0_add) := goodIn_app (goodIn_of _ (by decide +kernel)) ggX5_tell_X0_add
theorem dX5_tell_0 : decode cX5_tell 0 = .ok (.iload_n 1, 1) := by decide +kernel
theorem dX5_tell_1 : decode cX5_tell 1 = .ok (.invokestatic 20, 3) := by decide +kernel
theorem dX5_tell_4 : decode cX5_tell 4 = .ok (.ifCond .ne 5, 3) := by decide +kernel
theorem dX5_tell_7 : decode cX5_tell 7 = .ok (.iconst (-1), 1) := by decide +kernel
theorem dX5_tell_8 : decode cX5_tell 8 = .ok (.ireturn, 1) := by decide +kernel
theorem dX5_tell_9 : decode cX5_tell 9 = .ok (.iload_n 2, 1) := by decide +kernel
theorem dX5_tell_10 : decode cX5_tell 10 = .ok (.iconst 0, 1) := by decide +kernel
theorem dX5_tell_11 : decode cX5_tell 11 = .ok (.bipush 13, 2) := by decide +kernel
theorem dX5_tell_13 : decode cX5_tell 13 = .ok (.invokestatic 24, 3) := by decide +kernel
theorem dX5_tell_16 : decode cX5_tell 16 = .ok (.ifCond .eq 24, 3) := by decide +kernel
theorem dX5_tell_19 : decode cX5_tell 19 = .ok (.iload_n 3, 1) := by decide +kernel
theorem dX5_tell_20 : decode cX5_tell 20 = .ok (.iconst 0, 1) := by decide +kernel
theorem dX5_tell_21 : decode cX5_tell 21 = .ok (.bipush 99, 2) := by decide +kernel
theorem dX5_tell_23 : decode cX5_tell 23 = .ok (.invokestatic 24, 3) := by decide +kernel
theorem dX5_tell_26 : decode cX5_tell 26 = .ok (.ifCond .eq 14, 3) := by decide +kernel
theorem dX5_tell_29 : decode cX5_tell 29 = .ok (.iload 4, 2) := by decide +kernel
theorem dX5_tell_31 : decode cX5_tell 31 = .ok (.iconst 1, 1) := by decide +kernel
theorem dX5_tell_32 : decode cX5_tell 32 = .ok (.bipush 7, 2) := by decide +kernel
theorem dX5_tell_34 : decode cX5_tell 34 = .ok (.invokestatic 24, 3) := by decide +kernel
theorem dX5_tell_37 : decode cX5_tell 37 = .ok (.ifCond .ne 6, 3) := by decide +kernel
theorem dX5_tell_40 : decode cX5_tell 40 = .ok (.bipush (-2), 2) := by decide +kernel
theorem dX5_tell_42 : decode cX5_tell 42 = .ok (.ireturn, 1) := by decide +kernel
theorem dX5_tell_43 : decode cX5_tell 43 = .ok (.aload_n 0, 1) := by decide +kernel
theorem dX5_tell_44 : decode cX5_tell 44 = .ok (.getfield 10, 3) := by decide +kernel
theorem dX5_tell_47 : decode cX5_tell 47 = .ok (.getfield 28, 3) := by decide +kernel
theorem dX5_tell_50 : decode cX5_tell 50 = .ok (.iload_n 1, 1) := by decide +kernel
theorem dX5_tell_51 : decode cX5_tell 51 = .ok (.aaload, 1) := by decide +kernel
theorem dX5_tell_52 : decode cX5_tell 52 = .ok (.astore 5, 2) := by decide +kernel
theorem dX5_tell_54 : decode cX5_tell 54 = .ok (.aload 5, 2) := by decide +kernel
theorem dX5_tell_56 : decode cX5_tell 56 = .ok (.getfield 68, 3) := by decide +kernel
theorem dX5_tell_59 : decode cX5_tell 59 = .ok (.ifCond .eq 6, 3) := by decide +kernel
theorem dX5_tell_62 : decode cX5_tell 62 = .ok (.bipush (-3), 2) := by decide +kernel
theorem dX5_tell_64 : decode cX5_tell 64 = .ok (.ireturn, 1) := by decide +kernel
theorem dX5_tell_65 : decode cX5_tell 65 = .ok (.aload_n 0, 1) := by decide +kernel
theorem dX5_tell_66 : decode cX5_tell 66 = .ok (.getfield 10, 3) := by decide +kernel
theorem dX5_tell_69 : decode cX5_tell 69 = .ok (.iload_n 1, 1) := by decide +kernel
theorem dX5_tell_70 : decode cX5_tell 70 = .ok (.invokevirtual 101, 3) := by decide +kernel
theorem dX5_tell_73 : decode cX5_tell 73 = .ok (.ifCond .ne 6, 3) := by decide +kernel
theorem dX5_tell_76 : decode cX5_tell 76 = .ok (.bipush (-5), 2) := by decide +kernel
theorem dX5_tell_78 : decode cX5_tell 78 = .ok (.ireturn, 1) := by decide +kernel
theorem dX5_tell_79 : decode cX5_tell 79 = .ok (.aload_n 0, 1) := by decide +kernel
theorem dX5_tell_80 : decode cX5_tell 80 = .ok (.getfield 10, 3) := by decide +kernel
theorem dX5_tell_83 : decode cX5_tell 83 = .ok (.getfield 104, 3) := by decide +kernel
theorem dX5_tell_86 : decode cX5_tell 86 = .ok (.invokevirtual 108, 3) := by decide +kernel
theorem dX5_tell_89 : decode cX5_tell 89 = .ok (.ifCond .ne 14, 3) := by decide +kernel
theorem dX5_tell_92 : decode cX5_tell 92 = .ok (.aload 5, 2) := by decide +kernel
theorem dX5_tell_94 : decode cX5_tell 94 = .ok (.getfield 114, 3) := by decide +kernel
theorem dX5_tell_97 : decode cX5_tell 97 = .ok (.sipush 200, 3) := by decide +kernel
theorem dX5_tell_100 : decode cX5_tell 100 = .ok (.if_icmp .lt 6, 3) := by decide +kernel
theorem dX5_tell_103 : decode cX5_tell 103 = .ok (.bipush (-4), 2) := by decide +kernel
theorem dX5_tell_105 : decode cX5_tell 105 = .ok (.ireturn, 1) := by decide +kernel
theorem dX5_tell_106 : decode cX5_tell 106 = .ok (.aload 5, 2) := by decide +kernel
theorem dX5_tell_108 : decode cX5_tell 108 = .ok (.dup, 1) := by decide +kernel
theorem dX5_tell_109 : decode cX5_tell 109 = .ok (.getfield 114, 3) := by decide +kernel
theorem dX5_tell_112 : decode cX5_tell 112 = .ok (.iconst 1, 1) := by decide +kernel
theorem dX5_tell_113 : decode cX5_tell 113 = .ok (.iadd, 1) := by decide +kernel
theorem dX5_tell_114 : decode cX5_tell 114 = .ok (.putfield 114, 3) := by decide +kernel
theorem dX5_tell_117 : decode cX5_tell 117 = .ok (.iload_n 1, 1) := by decide +kernel
theorem dX5_tell_118 : decode cX5_tell 118 = .ok (.aload 5, 2) := by decide +kernel
theorem dX5_tell_120 : decode cX5_tell 120 = .ok (.getfield 114, 3) := by decide +kernel
theorem dX5_tell_123 : decode cX5_tell 123 = .ok (.invokestatic 117, 3) := by decide +kernel
theorem dX5_tell_126 : decode cX5_tell 126 = .ok (.istore 6, 2) := by decide +kernel
theorem dX5_tell_128 : decode cX5_tell 128 = .ok (.aload_n 0, 1) := by decide +kernel
theorem dX5_tell_129 : decode cX5_tell 129 = .ok (.getfield 10, 3) := by decide +kernel
theorem dX5_tell_132 : decode cX5_tell 132 = .ok (.getfield 123, 3) := by decide +kernel
theorem dX5_tell_135 : decode cX5_tell 135 = .ok (.iload 6, 2) := by decide +kernel
theorem dX5_tell_137 : decode cX5_tell 137 = .ok (.aload_n 0, 1) := by decide +kernel
theorem dX5_tell_138 : decode cX5_tell 138 = .ok (.getfield 10, 3) := by decide +kernel
theorem dX5_tell_141 : decode cX5_tell 141 = .ok (.iload_n 1, 1) := by decide +kernel
theorem dX5_tell_142 : decode cX5_tell 142 = .ok (.invokevirtual 127, 3) := by decide +kernel
theorem dX5_tell_145 : decode cX5_tell 145 = .ok (.iload_n 2, 1) := by decide +kernel
theorem dX5_tell_146 : decode cX5_tell 146 = .ok (.iload_n 3, 1) := by decide +kernel
theorem dX5_tell_147 : decode cX5_tell 147 = .ok (.invokevirtual 130, 3) := by decide +kernel
theorem dX5_tell_150 : decode cX5_tell 150 = .ok (.aload 5, 2) := by decide +kernel
theorem dX5_tell_152 : decode cX5_tell 152 = .ok (.getfield 58, 3) := by decide +kernel
theorem dX5_tell_155 : decode cX5_tell 155 = .ok (.iload 6, 2) := by decide +kernel
theorem dX5_tell_157 : decode cX5_tell 157 = .ok (.aload 5, 2) := by decide +kernel
theorem dX5_tell_159 : decode cX5_tell 159 = .ok (.getfield 55, 3) := by decide +kernel
theorem dX5_tell_162 : decode cX5_tell 162 = .ok (.iconst 2, 1) := by decide +kernel
theorem dX5_tell_163 : decode cX5_tell 163 = .ok (.iaload, 1) := by decide +kernel
theorem dX5_tell_164 : decode cX5_tell 164 = .ok (.invokevirtual 134, 3) := by decide +kernel
theorem dX5_tell_167 : decode cX5_tell 167 = .ok (.aload_n 0, 1) := by decide +kernel
theorem dX5_tell_168 : decode cX5_tell 168 = .ok (.getfield 10, 3) := by decide +kernel
theorem dX5_tell_171 : decode cX5_tell 171 = .ok (.getfield 104, 3) := by decide +kernel
theorem dX5_tell_174 : decode cX5_tell 174 = .ok (.iload_n 1, 1) := by decide +kernel
theorem dX5_tell_175 : decode cX5_tell 175 = .ok (.aload_n 0, 1) := by decide +kernel
theorem dX5_tell_176 : decode cX5_tell 176 = .ok (.getfield 10, 3) := by decide +kernel
theorem dX5_tell_179 : decode cX5_tell 179 = .ok (.getfield 138, 3) := by decide +kernel
theorem dX5_tell_182 : decode cX5_tell 182 = .ok (.iconst 1, 1) := by decide +kernel
theorem dX5_tell_183 : decode cX5_tell 183 = .ok (.iadd, 1) := by decide +kernel
theorem dX5_tell_184 : decode cX5_tell 184 = .ok (.iload 6, 2) := by decide +kernel
theorem dX5_tell_186 : decode cX5_tell 186 = .ok (.iload 4, 2) := by decide +kernel
theorem dX5_tell_188 : decode cX5_tell 188 = .ok (.invokevirtual 141, 3) := by decide +kernel
theorem dX5_tell_191 : decode cX5_tell 191 = .ok (.aload 5, 2) := by decide +kernel
theorem dX5_tell_193 : decode cX5_tell 193 = .ok (.getfield 114, 3) := by decide +kernel
theorem dX5_tell_196 : decode cX5_tell 196 = .ok (.ireturn, 1) := by decide +kernel
set_option maxRecDepth 20000 in
theorem ggX5_replay_X5_isLamp : GoodIn wsX5_replay wsX5_isLamp := goodIn_r _ [10, 11, 12, 9, 13] (by decide +kernel) (by decide +kernel)
set_option maxRecDepth 20000 in
theorem gX5_replay_X5_isLamp : GoodIn wsX5_replay (va_wsS RX5 20 yX5_isLamp wsX5_isLamp) := goodIn_app (goodIn_of _ (by decide +kernel)) ggX5_replay_X5_isLamp
set_option maxRecDepth 20000 in
theorem ggX5_replay_X5_isBetween : GoodIn wsX5_replay wsX5_isBetween := goodIn_r _ [13] (by decide +kernel) (by decide +kernel)
set_option maxRecDepth 20000 in
theorem gX5_replay_X5_isBetween : GoodIn wsX5_replay (va_wsS RX5 24 yX5_isBetween wsX5_isBetween) := goodIn_app (goodIn_of _ (by decide +kernel)) ggX5_replay_X5_isBetween
set_option maxRecDepth 20000 in
theorem ggX5_replay_X0_isFull : GoodIn wsX5_replay wsX0_isFull := goodIn_r _ [18, 19, 61, 62, 63, 64, 65] (by decide +kernel) (by decide +kernel)
set_option maxRecDepth 20000 in
theorem gX5_replay_X0_isFull : GoodIn wsX5_replay (wsV RX5 108 RX0 yX0_isFull wsX0_isFull) := goodIn_app (goodIn_of _ (by decide +kernel)) ggX5_replay_X0_isFull
set_option maxRecDepth 20000 in
theorem ggX5_replay_X2_place : GoodIn wsX5_replay wsX2_place := goodIn_r _ [23] (by decide +kernel) (by decide +kernel)
set_option maxRecDepth 20000 in
theorem gX5_replay_X2_place : GoodIn wsX5_replay (va_wsS RX5 117 yX2_place wsX2_place) := goodIn_app (goodIn_of _ (by decide +kernel)) ggX5_replay_X2_place
set_option maxRecDepth 20000 in
theorem ggX5_replay_X0_add : GoodIn wsX5_replay wsX0_add := goodIn_r _ [27, 28, 19, 29, 30, 31, 32, 15, 16, 17, 18, 61, 62, 63, 64, 65] (by decide +kernel) (by decide +kernel)
set_option maxRecDepth 20000 in
theorem gX5_replay_X0_add : GoodIn wsX5_replay (wsV RX5 141 RX0 yX0_add wsX0_add) := goodIn_app (goodIn_of _ (by decide +kernel)) ggX5_replay_X0_add
theorem dX5_replay_0 : decode cX5_replay 0 = .ok (.iload_n 1, 1) := by decide +kernel
theorem dX5_replay_1 : decode cX5_replay 1 = .ok (.invokestatic 20, 3) := by decide +kernel
theorem dX5_replay_4 : decode cX5_replay 4 = .ok (.ifCond .eq 10, 3) := by decide +kernel
theorem dX5_replay_7 : decode cX5_replay 7 = .ok (.iload_n 2, 1) := by decide +kernel
theorem dX5_replay_8 : decode cX5_replay 8 = .ok (.invokestatic 20, 3) := by decide +kernel
theorem dX5_replay_11 : decode cX5_replay 11 = .ok (.ifCond .ne 5, 3) := by decide +kernel
theorem dX5_replay_14 : decode cX5_replay 14 = .ok (.iconst (-1), 1) := by decide +kernel
theorem dX5_replay_15 : decode cX5_replay 15 = .ok (.ireturn, 1) := by decide +kernel
theorem dX5_replay_16 : decode cX5_replay 16 = .ok (.iload_n 3, 1) := by decide +kernel
theorem dX5_replay_17 : decode cX5_replay 17 = .ok (.iconst 1, 1) := by decide +kernel
theorem dX5_replay_18 : decode cX5_replay 18 = .ok (.aload_n 0, 1) := by decide +kernel
theorem dX5_replay_19 : decode cX5_replay 19 = .ok (.getfield 10, 3) := by decide +kernel
theorem dX5_replay_22 : decode cX5_replay 22 = .ok (.getfield 28, 3) := by decide +kernel
theorem dX5_replay_25 : decode cX5_replay 25 = .ok (.iload_n 2, 1) := by decide +kernel
theorem dX5_replay_26 : decode cX5_replay 26 = .ok (.aaload, 1) := by decide +kernel
theorem dX5_replay_27 : decode cX5_replay 27 = .ok (.getfield 114, 3) := by decide +kernel
theorem dX5_replay_30 : decode cX5_replay 30 = .ok (.invokestatic 24, 3) := by decide +kernel
theorem dX5_replay_33 : decode cX5_replay 33 = .ok (.ifCond .ne 6, 3) := by decide +kernel
theorem dX5_replay_36 : decode cX5_replay 36 = .ok (.bipush (-2), 2) := by decide +kernel
theorem dX5_replay_38 : decode cX5_replay 38 = .ok (.ireturn, 1) := by decide +kernel
theorem dX5_replay_39 : decode cX5_replay 39 = .ok (.aload_n 0, 1) := by decide +kernel
theorem dX5_replay_40 : decode cX5_replay 40 = .ok (.getfield 10, 3) := by decide +kernel
theorem dX5_replay_43 : decode cX5_replay 43 = .ok (.getfield 104, 3) := by decide +kernel
theorem dX5_replay_46 : decode cX5_replay 46 = .ok (.invokevirtual 108, 3) := by decide +kernel
theorem dX5_replay_49 : decode cX5_replay 49 = .ok (.ifCond .eq 6, 3) := by decide +kernel
theorem dX5_replay_52 : decode cX5_replay 52 = .ok (.bipush (-4), 2) := by decide +kernel
theorem dX5_replay_54 : decode cX5_replay 54 = .ok (.ireturn, 1) := by decide +kernel
theorem dX5_replay_55 : decode cX5_replay 55 = .ok (.aload_n 0, 1) := by decide +kernel
theorem dX5_replay_56 : decode cX5_replay 56 = .ok (.getfield 10, 3) := by decide +kernel
theorem dX5_replay_59 : decode cX5_replay 59 = .ok (.getfield 104, 3) := by decide +kernel
theorem dX5_replay_62 : decode cX5_replay 62 = .ok (.bipush 10, 2) := by decide +kernel
theorem dX5_replay_64 : decode cX5_replay 64 = .ok (.iload_n 1, 1) := by decide +kernel
theorem dX5_replay_65 : decode cX5_replay 65 = .ok (.iadd, 1) := by decide +kernel
theorem dX5_replay_66 : decode cX5_replay 66 = .ok (.aload_n 0, 1) := by decide +kernel
theorem dX5_replay_67 : decode cX5_replay 67 = .ok (.getfield 10, 3) := by decide +kernel
theorem dX5_replay_70 : decode cX5_replay 70 = .ok (.getfield 138, 3) := by decide +kernel
theorem dX5_replay_73 : decode cX5_replay 73 = .ok (.iconst 1, 1) := by decide +kernel
theorem dX5_replay_74 : decode cX5_replay 74 = .ok (.iadd, 1) := by decide +kernel
theorem dX5_replay_75 : decode cX5_replay 75 = .ok (.iload_n 2, 1) := by decide +kernel
theorem dX5_replay_76 : decode cX5_replay 76 = .ok (.iload_n 3, 1) := by decide +kernel
theorem dX5_replay_77 : decode cX5_replay 77 = .ok (.invokestatic 117, 3) := by decide +kernel
theorem dX5_replay_80 : decode cX5_replay 80 = .ok (.bipush 7, 2) := by decide +kernel
theorem dX5_replay_82 : decode cX5_replay 82 = .ok (.invokevirtual 141, 3) := by decide +kernel
theorem dX5_replay_85 : decode cX5_replay 85 = .ok (.aload_n 0, 1) := by decide +kernel
theorem dX5_replay_86 : decode cX5_replay 86 = .ok (.getfield 10, 3) := by decide +kernel
theorem dX5_replay_89 : decode cX5_replay 89 = .ok (.getfield 104, 3) := by decide +kernel
theorem dX5_replay_92 : decode cX5_replay 92 = .ok (.getfield 143, 3) := by decide +kernel
theorem dX5_replay_95 : decode cX5_replay 95 = .ok (.ireturn, 1) := by decide +kernel
set_option maxRecDepth 20000 in
theorem ggX5_pass_X5_isBetween : GoodIn wsX5_pass wsX5_isBetween := goodIn_r _ [6] (by decide +kernel) (by decide +kernel)
set_option maxRecDepth 20000 in
theorem gX5_pass_X5_isBetween : GoodIn wsX5_pass (va_wsS RX5 24 yX5_isBetween wsX5_isBetween) := goodIn_app (goodIn_of _ (by decide +kernel)) ggX5_pass_X5_isBetween
set_option maxRecDepth 20000 in
theorem ggX5_pass_X4_passTick : GoodIn wsX5_pass wsX4_passTick := goodIn_r _ [11, 12, 13, 14, 15, 16, 17, 18, 10, 19, 20, 21, 22, 23, 24, 25, 26, 27, 28, 29, 30, 31, 32, 33, 34, 35, 36, 37, 38, 39, 40, 41, 42, 43, 44, 45, 46, 47, 5, 48, 49, 50, 51, 52, 53, 54, 55, 56, 57, 58, 59, 60, 61, 62, 63, 64, 65, 66, 67, 68, 69, 70, 71, 72, 73, 74, 75, 76, 77, 78, 79, 80, 81, 82, 83, 84, 85, 86, 87, 88, 89, 90, 91, 92, 93, 94, 95, 96, 97, 98, 99, 100, 101, 102, 103, 104, 105, 106, 107, 108, 109, 110, 111, 112, 113, 114, 115, 116, 117, 118, 119, 120, 121, 122, 123, 124, 127, 128, 129, 130, 131, 132, 133, 134, 135, 136, 137, 138, 139, 140, 141, 142, 143, 144, 145, 146, 147, 148, 149, 150, 151, 152, 153, 154, 155, 156, 157, 158, 159, 160, 161, 162] (by decide +kernel) (by decide +kernel)
set_option maxRecDepth 20000 in
theorem gX5_pass_X4_passTick : GoodIn wsX5_pass (wsV RX5 149 RX4 yX4_passTick wsX4_passTick) := goodIn_app (goodIn_of _ (by decide +kernel)) ggX5_pass_X4_passTick
theorem dX5_pass_0 : decode cX5_pass 0 = .ok (.iload_n 1, 1) := by decide +kernel
theorem dX5_pass_1 : decode cX5_pass 1 = .ok (.iconst 1, 1) := by decide +kernel
theorem dX5_pass_2 : decode cX5_pass 2 = .ok (.bipush 100, 2) := by decide +kernel
theorem dX5_pass_4 : decode cX5_pass 4 = .ok (.invokestatic 24, 3) := by decide +kernel
theorem dX5_pass_7 : decode cX5_pass 7 = .ok (.ifCond .ne 6, 3) := by decide +kernel
theorem dX5_pass_10 : decode cX5_pass 10 = .ok (.bipush (-2), 2) := by decide +kernel
theorem dX5_pass_12 : decode cX5_pass 12 = .ok (.ireturn, 1) := by decide +kernel
theorem dX5_pass_13 : decode cX5_pass 13 = .ok (.aload_n 0, 1) := by decide +kernel
theorem dX5_pass_14 : decode cX5_pass 14 = .ok (.getfield 10, 3) := by decide +kernel
theorem dX5_pass_17 : decode cX5_pass 17 = .ok (.getfield 146, 3) := by decide +kernel
theorem dX5_pass_20 : decode cX5_pass 20 = .ok (.istore_n 2, 1) := by decide +kernel
theorem dX5_pass_21 : decode cX5_pass 21 = .ok (.iconst 0, 1) := by decide +kernel
theorem dX5_pass_22 : decode cX5_pass 22 = .ok (.istore_n 3, 1) := by decide +kernel
theorem dX5_pass_23 : decode cX5_pass 23 = .ok (.iload_n 3, 1) := by decide +kernel
theorem dX5_pass_24 : decode cX5_pass 24 = .ok (.iload_n 1, 1) := by decide +kernel
theorem dX5_pass_25 : decode cX5_pass 25 = .ok (.if_icmp .ge 16, 3) := by decide +kernel
theorem dX5_pass_28 : decode cX5_pass 28 = .ok (.aload_n 0, 1) := by decide +kernel
theorem dX5_pass_29 : decode cX5_pass 29 = .ok (.getfield 10, 3) := by decide +kernel
theorem dX5_pass_32 : decode cX5_pass 32 = .ok (.invokevirtual 149, 3) := by decide +kernel
theorem dX5_pass_35 : decode cX5_pass 35 = .ok (.iinc 3 1, 3) := by decide +kernel
theorem dX5_pass_38 : decode cX5_pass 38 = .ok (.goto (-15), 3) := by decide +kernel
theorem dX5_pass_41 : decode cX5_pass 41 = .ok (.aload_n 0, 1) := by decide +kernel
theorem dX5_pass_42 : decode cX5_pass 42 = .ok (.getfield 10, 3) := by decide +kernel
theorem dX5_pass_45 : decode cX5_pass 45 = .ok (.getfield 146, 3) := by decide +kernel
theorem dX5_pass_48 : decode cX5_pass 48 = .ok (.iload_n 2, 1) := by decide +kernel
theorem dX5_pass_49 : decode cX5_pass 49 = .ok (.isub, 1) := by decide +kernel
theorem dX5_pass_50 : decode cX5_pass 50 = .ok (.ireturn, 1) := by decide +kernel
set_option maxRecDepth 20000 in
theorem ggX5_settle_X4_passTick : GoodIn wsX5_settle wsX4_passTick := goodIn_r _ [8, 9, 10, 11, 12, 13, 14, 15, 7, 16, 17, 18, 19, 20, 21, 22, 23, 24, 25, 26, 27, 28, 29, 30, 31, 32, 33, 34, 35, 36, 37, 38, 39, 40, 41, 42, 43, 44, 45, 46, 47, 48, 49, 50, 51, 52, 53, 54, 55, 56, 57, 58, 59, 60, 61, 62, 63, 64, 65, 66, 67, 68, 69, 70, 71, 72, 73, 74, 75, 76, 77, 78, 79, 80, 81, 82, 83, 84, 85, 86, 87, 88, 89, 90, 91, 92, 93, 94, 95, 96, 97, 98, 99, 100, 101, 102, 103, 104, 105, 106, 107, 108, 109, 110, 111, 112, 113, 114, 115, 116, 117, 118, 119, 120, 121, 122, 125, 126, 127, 128, 129, 130, 131, 132, 133, 134, 135, 136, 137, 138, 139, 140, 141, 142, 143, 144, 145, 146, 147, 148, 149, 150, 151, 152, 153, 154, 155, 156, 157, 158, 159, 160] (by decide +kernel) (by decide +kernel)
set_option maxRecDepth 20000 in
theorem gX5_settle_X4_passTick : GoodIn wsX5_settle (wsV RX5 149 RX4 yX4_passTick wsX4_passTick) := goodIn_app (goodIn_of _ (by decide +kernel)) ggX5_settle_X4_passTick
theorem dX5_settle_0 : decode cX5_settle 0 = .ok (.iconst 0, 1) := by decide +kernel
theorem dX5_settle_1 : decode cX5_settle 1 = .ok (.istore_n 1, 1) := by decide +kernel
theorem dX5_settle_2 : decode cX5_settle 2 = .ok (.iload_n 1, 1) := by decide +kernel
theorem dX5_settle_3 : decode cX5_settle 3 = .ok (.sipush 1000, 3) := by decide +kernel
theorem dX5_settle_6 : decode cX5_settle 6 = .ok (.if_icmp .ge 29, 3) := by decide +kernel
theorem dX5_settle_9 : decode cX5_settle 9 = .ok (.aload_n 0, 1) := by decide +kernel
theorem dX5_settle_10 : decode cX5_settle 10 = .ok (.getfield 10, 3) := by decide +kernel
theorem dX5_settle_13 : decode cX5_settle 13 = .ok (.getfield 104, 3) := by decide +kernel
theorem dX5_settle_16 : decode cX5_settle 16 = .ok (.getfield 143, 3) := by decide +kernel
theorem dX5_settle_19 : decode cX5_settle 19 = .ok (.ifCond .le 16, 3) := by decide +kernel
theorem dX5_settle_22 : decode cX5_settle 22 = .ok (.aload_n 0, 1) := by decide +kernel
theorem dX5_settle_23 : decode cX5_settle 23 = .ok (.getfield 10, 3) := by decide +kernel
theorem dX5_settle_26 : decode cX5_settle 26 = .ok (.invokevirtual 149, 3) := by decide +kernel
theorem dX5_settle_29 : decode cX5_settle 29 = .ok (.iinc 1 1, 3) := by decide +kernel
theorem dX5_settle_32 : decode cX5_settle 32 = .ok (.goto (-30), 3) := by decide +kernel
theorem dX5_settle_35 : decode cX5_settle 35 = .ok (.iload_n 1, 1) := by decide +kernel
theorem dX5_settle_36 : decode cX5_settle 36 = .ok (.ireturn, 1) := by decide +kernel
set_option maxRecDepth 20000 in
theorem ggX5_lamp_X5_isLamp : GoodIn wsX5_lamp wsX5_isLamp := goodIn_r _ [20, 21, 22, 19, 23] (by decide +kernel) (by decide +kernel)
set_option maxRecDepth 20000 in
theorem gX5_lamp_X5_isLamp : GoodIn wsX5_lamp (va_wsS RX5 20 yX5_isLamp wsX5_isLamp) := goodIn_app (goodIn_of _ (by decide +kernel)) ggX5_lamp_X5_isLamp
set_option maxRecDepth 20000 in
theorem ggX5_lamp_X5_asNumber : GoodIn wsX5_lamp wsX5_asNumber := goodIn_r _ [26] (by decide +kernel) (by decide +kernel)
set_option maxRecDepth 20000 in
theorem gX5_lamp_X5_asNumber : GoodIn wsX5_lamp (va_wsS RX5 97 yX5_asNumber wsX5_asNumber) := goodIn_app (goodIn_of _ (by decide +kernel)) ggX5_lamp_X5_asNumber
set_option maxRecDepth 20000 in
theorem ggX5_lamp_J6_bitCount_0f7a4 : GoodIn wsX5_lamp wsJ6_bitCount_0f7a4 := goodIn_r _ [30, 31, 32, 33] (by decide +kernel) (by decide +kernel)
set_option maxRecDepth 20000 in
theorem gX5_lamp_J6_bitCount_0f7a4 : GoodIn wsX5_lamp (va_wsS RX5 42 yJ6_bitCount_0f7a4 wsJ6_bitCount_0f7a4) := goodIn_app (goodIn_of _ (by decide +kernel)) ggX5_lamp_J6_bitCount_0f7a4
theorem dX5_lamp_0 : decode cX5_lamp 0 = .ok (.iload_n 1, 1) := by decide +kernel
theorem dX5_lamp_1 : decode cX5_lamp 1 = .ok (.invokestatic 20, 3) := by decide +kernel
theorem dX5_lamp_4 : decode cX5_lamp 4 = .ok (.ifCond .ne 5, 3) := by decide +kernel
theorem dX5_lamp_7 : decode cX5_lamp 7 = .ok (.iconst (-1), 1) := by decide +kernel
theorem dX5_lamp_8 : decode cX5_lamp 8 = .ok (.ireturn, 1) := by decide +kernel
theorem dX5_lamp_9 : decode cX5_lamp 9 = .ok (.aload_n 0, 1) := by decide +kernel
theorem dX5_lamp_10 : decode cX5_lamp 10 = .ok (.getfield 10, 3) := by decide +kernel
theorem dX5_lamp_13 : decode cX5_lamp 13 = .ok (.getfield 28, 3) := by decide +kernel
theorem dX5_lamp_16 : decode cX5_lamp 16 = .ok (.iload_n 1, 1) := by decide +kernel
theorem dX5_lamp_17 : decode cX5_lamp 17 = .ok (.aaload, 1) := by decide +kernel
theorem dX5_lamp_18 : decode cX5_lamp 18 = .ok (.astore_n 3, 1) := by decide +kernel
theorem dX5_lamp_19 : decode cX5_lamp 19 = .ok (.iload_n 2, 1) := by decide +kernel
theorem dX5_lamp_20 : decode cX5_lamp 20 = .ok (.tableswitch 145 0 12 #[68, 73, 81, 86, 91, 96, 101, 106, 111, 116, 121, 129, 137], 68) := by decide +kernel
theorem dX5_lamp_88 : decode cX5_lamp 88 = .ok (.aload_n 3, 1) := by decide +kernel
theorem dX5_lamp_89 : decode cX5_lamp 89 = .ok (.getfield 152, 3) := by decide +kernel
theorem dX5_lamp_92 : decode cX5_lamp 92 = .ok (.ireturn, 1) := by decide +kernel
theorem dX5_lamp_93 : decode cX5_lamp 93 = .ok (.aload_n 3, 1) := by decide +kernel
theorem dX5_lamp_94 : decode cX5_lamp 94 = .ok (.getfield 68, 3) := by decide +kernel
theorem dX5_lamp_97 : decode cX5_lamp 97 = .ok (.invokestatic 97, 3) := by decide +kernel
theorem dX5_lamp_100 : decode cX5_lamp 100 = .ok (.ireturn, 1) := by decide +kernel
theorem dX5_lamp_101 : decode cX5_lamp 101 = .ok (.aload_n 3, 1) := by decide +kernel
theorem dX5_lamp_102 : decode cX5_lamp 102 = .ok (.getfield 72, 3) := by decide +kernel
theorem dX5_lamp_105 : decode cX5_lamp 105 = .ok (.ireturn, 1) := by decide +kernel
theorem dX5_lamp_106 : decode cX5_lamp 106 = .ok (.aload_n 3, 1) := by decide +kernel
theorem dX5_lamp_107 : decode cX5_lamp 107 = .ok (.getfield 114, 3) := by decide +kernel
theorem dX5_lamp_110 : decode cX5_lamp 110 = .ok (.ireturn, 1) := by decide +kernel
theorem dX5_lamp_111 : decode cX5_lamp 111 = .ok (.aload_n 3, 1) := by decide +kernel
theorem dX5_lamp_112 : decode cX5_lamp 112 = .ok (.getfield 155, 3) := by decide +kernel
theorem dX5_lamp_115 : decode cX5_lamp 115 = .ok (.ireturn, 1) := by decide +kernel
theorem dX5_lamp_116 : decode cX5_lamp 116 = .ok (.aload_n 3, 1) := by decide +kernel
theorem dX5_lamp_117 : decode cX5_lamp 117 = .ok (.getfield 158, 3) := by decide +kernel
theorem dX5_lamp_120 : decode cX5_lamp 120 = .ok (.ireturn, 1) := by decide +kernel
theorem dX5_lamp_121 : decode cX5_lamp 121 = .ok (.aload_n 3, 1) := by decide +kernel
theorem dX5_lamp_122 : decode cX5_lamp 122 = .ok (.getfield 161, 3) := by decide +kernel
theorem dX5_lamp_125 : decode cX5_lamp 125 = .ok (.ireturn, 1) := by decide +kernel
theorem dX5_lamp_126 : decode cX5_lamp 126 = .ok (.aload_n 3, 1) := by decide +kernel
theorem dX5_lamp_127 : decode cX5_lamp 127 = .ok (.getfield 164, 3) := by decide +kernel
theorem dX5_lamp_130 : decode cX5_lamp 130 = .ok (.ireturn, 1) := by decide +kernel
theorem dX5_lamp_131 : decode cX5_lamp 131 = .ok (.aload_n 3, 1) := by decide +kernel
theorem dX5_lamp_132 : decode cX5_lamp 132 = .ok (.getfield 167, 3) := by decide +kernel
theorem dX5_lamp_135 : decode cX5_lamp 135 = .ok (.ireturn, 1) := by decide +kernel
theorem dX5_lamp_136 : decode cX5_lamp 136 = .ok (.aload_n 3, 1) := by decide +kernel
theorem dX5_lamp_137 : decode cX5_lamp 137 = .ok (.getfield 170, 3) := by decide +kernel
theorem dX5_lamp_140 : decode cX5_lamp 140 = .ok (.ireturn, 1) := by decide +kernel
theorem dX5_lamp_141 : decode cX5_lamp 141 = .ok (.aload_n 3, 1) := by decide +kernel
theorem dX5_lamp_142 : decode cX5_lamp 142 = .ok (.getfield 75, 3) := by decide +kernel
theorem dX5_lamp_145 : decode cX5_lamp 145 = .ok (.getfield 173, 3) := by decide +kernel
theorem dX5_lamp_148 : decode cX5_lamp 148 = .ok (.ireturn, 1) := by decide +kernel
theorem dX5_lamp_149 : decode cX5_lamp 149 = .ok (.aload_n 3, 1) := by decide +kernel
theorem dX5_lamp_150 : decode cX5_lamp 150 = .ok (.getfield 58, 3) := by decide +kernel
theorem dX5_lamp_153 : decode cX5_lamp 153 = .ok (.getfield 173, 3) := by decide +kernel
theorem dX5_lamp_156 : decode cX5_lamp 156 = .ok (.ireturn, 1) := by decide +kernel
theorem dX5_lamp_157 : decode cX5_lamp 157 = .ok (.aload_n 3, 1) := by decide +kernel
theorem dX5_lamp_158 : decode cX5_lamp 158 = .ok (.getfield 32, 3) := by decide +kernel
theorem dX5_lamp_161 : decode cX5_lamp 161 = .ok (.invokestatic 42, 3) := by decide +kernel
theorem dX5_lamp_164 : decode cX5_lamp 164 = .ok (.ireturn, 1) := by decide +kernel
theorem dX5_lamp_165 : decode cX5_lamp 165 = .ok (.bipush (-2), 2) := by decide +kernel
theorem dX5_lamp_167 : decode cX5_lamp 167 = .ok (.ireturn, 1) := by decide +kernel
set_option maxRecDepth 20000 in
theorem ggX5_taken_X5_isLamp : GoodIn wsX5_taken wsX5_isLamp := goodIn_r _ [7, 8, 9, 6, 10] (by decide +kernel) (by decide +kernel)
set_option maxRecDepth 20000 in
theorem gX5_taken_X5_isLamp : GoodIn wsX5_taken (va_wsS RX5 20 yX5_isLamp wsX5_isLamp) := goodIn_app (goodIn_of _ (by decide +kernel)) ggX5_taken_X5_isLamp
theorem dX5_taken_0 : decode cX5_taken 0 = .ok (.iload_n 1, 1) := by decide +kernel
theorem dX5_taken_1 : decode cX5_taken 1 = .ok (.invokestatic 20, 3) := by decide +kernel
theorem dX5_taken_4 : decode cX5_taken 4 = .ok (.ifCond .eq 10, 3) := by decide +kernel
theorem dX5_taken_7 : decode cX5_taken 7 = .ok (.iload_n 2, 1) := by decide +kernel
theorem dX5_taken_8 : decode cX5_taken 8 = .ok (.invokestatic 20, 3) := by decide +kernel
theorem dX5_taken_11 : decode cX5_taken 11 = .ok (.ifCond .ne 5, 3) := by decide +kernel
theorem dX5_taken_14 : decode cX5_taken 14 = .ok (.iconst (-1), 1) := by decide +kernel
theorem dX5_taken_15 : decode cX5_taken 15 = .ok (.ireturn, 1) := by decide +kernel
theorem dX5_taken_16 : decode cX5_taken 16 = .ok (.aload_n 0, 1) := by decide +kernel
theorem dX5_taken_17 : decode cX5_taken 17 = .ok (.getfield 10, 3) := by decide +kernel
theorem dX5_taken_20 : decode cX5_taken 20 = .ok (.getfield 28, 3) := by decide +kernel
theorem dX5_taken_23 : decode cX5_taken 23 = .ok (.iload_n 1, 1) := by decide +kernel
theorem dX5_taken_24 : decode cX5_taken 24 = .ok (.aaload, 1) := by decide +kernel
theorem dX5_taken_25 : decode cX5_taken 25 = .ok (.getfield 174, 3) := by decide +kernel
theorem dX5_taken_28 : decode cX5_taken 28 = .ok (.iload_n 2, 1) := by decide +kernel
theorem dX5_taken_29 : decode cX5_taken 29 = .ok (.iaload, 1) := by decide +kernel
theorem dX5_taken_30 : decode cX5_taken 30 = .ok (.ireturn, 1) := by decide +kernel
set_option maxRecDepth 20000 in
theorem ggX5_mind_X5_isLamp : GoodIn wsX5_mind wsX5_isLamp := goodIn_r _ [9, 10, 11, 8, 12] (by decide +kernel) (by decide +kernel)
set_option maxRecDepth 20000 in
theorem gX5_mind_X5_isLamp : GoodIn wsX5_mind (va_wsS RX5 20 yX5_isLamp wsX5_isLamp) := goodIn_app (goodIn_of _ (by decide +kernel)) ggX5_mind_X5_isLamp
set_option maxRecDepth 20000 in
theorem ggX5_mind_X5_isBetween : GoodIn wsX5_mind wsX5_isBetween := goodIn_r _ [12] (by decide +kernel) (by decide +kernel)
set_option maxRecDepth 20000 in
theorem gX5_mind_X5_isBetween : GoodIn wsX5_mind (va_wsS RX5 24 yX5_isBetween wsX5_isBetween) := goodIn_app (goodIn_of _ (by decide +kernel)) ggX5_mind_X5_isBetween
set_option maxRecDepth 20000 in
theorem ggX5_mind_X2_sourceOf : GoodIn wsX5_mind wsX2_sourceOf := goodIn_r _ [16] (by decide +kernel) (by decide +kernel)
set_option maxRecDepth 20000 in
theorem gX5_mind_X2_sourceOf : GoodIn wsX5_mind (va_wsS RX5 179 yX2_sourceOf wsX2_sourceOf) := goodIn_app (goodIn_of _ (by decide +kernel)) ggX5_mind_X2_sourceOf
set_option maxRecDepth 20000 in
theorem ggX5_mind_X2_numberOf : GoodIn wsX5_mind wsX2_numberOf := goodIn_r _ [19] (by decide +kernel) (by decide +kernel)
set_option maxRecDepth 20000 in
theorem gX5_mind_X2_numberOf : GoodIn wsX5_mind (va_wsS RX5 182 yX2_numberOf wsX2_numberOf) := goodIn_app (goodIn_of _ (by decide +kernel)) ggX5_mind_X2_numberOf
theorem dX5_mind_0 : decode cX5_mind 0 = .ok (.iload_n 1, 1) := by decide +kernel
theorem dX5_mind_1 : decode cX5_mind 1 = .ok (.invokestatic 20, 3) := by decide +kernel
theorem dX5_mind_4 : decode cX5_mind 4 = .ok (.ifCond .ne 5, 3) := by decide +kernel
theorem dX5_mind_7 : decode cX5_mind 7 = .ok (.iconst (-1), 1) := by decide +kernel
theorem dX5_mind_8 : decode cX5_mind 8 = .ok (.ireturn, 1) := by decide +kernel
theorem dX5_mind_9 : decode cX5_mind 9 = .ok (.iload_n 3, 1) := by decide +kernel
theorem dX5_mind_10 : decode cX5_mind 10 = .ok (.iconst 0, 1) := by decide +kernel
theorem dX5_mind_11 : decode cX5_mind 11 = .ok (.iconst 1, 1) := by decide +kernel
theorem dX5_mind_12 : decode cX5_mind 12 = .ok (.invokestatic 24, 3) := by decide +kernel
theorem dX5_mind_15 : decode cX5_mind 15 = .ok (.ifCond .ne 6, 3) := by decide +kernel
theorem dX5_mind_18 : decode cX5_mind 18 = .ok (.bipush (-2), 2) := by decide +kernel
theorem dX5_mind_20 : decode cX5_mind 20 = .ok (.ireturn, 1) := by decide +kernel
theorem dX5_mind_21 : decode cX5_mind 21 = .ok (.aload_n 0, 1) := by decide +kernel
theorem dX5_mind_22 : decode cX5_mind 22 = .ok (.getfield 10, 3) := by decide +kernel
theorem dX5_mind_25 : decode cX5_mind 25 = .ok (.getfield 28, 3) := by decide +kernel
theorem dX5_mind_28 : decode cX5_mind 28 = .ok (.iload_n 1, 1) := by decide +kernel
theorem dX5_mind_29 : decode cX5_mind 29 = .ok (.aaload, 1) := by decide +kernel
theorem dX5_mind_30 : decode cX5_mind 30 = .ok (.getfield 58, 3) := by decide +kernel
theorem dX5_mind_33 : decode cX5_mind 33 = .ok (.astore 4, 2) := by decide +kernel
theorem dX5_mind_35 : decode cX5_mind 35 = .ok (.iload_n 2, 1) := by decide +kernel
theorem dX5_mind_36 : decode cX5_mind 36 = .ok (.iconst 0, 1) := by decide +kernel
theorem dX5_mind_37 : decode cX5_mind 37 = .ok (.aload 4, 2) := by decide +kernel
theorem dX5_mind_39 : decode cX5_mind 39 = .ok (.getfield 173, 3) := by decide +kernel
theorem dX5_mind_42 : decode cX5_mind 42 = .ok (.iconst 1, 1) := by decide +kernel
theorem dX5_mind_43 : decode cX5_mind 43 = .ok (.isub, 1) := by decide +kernel
theorem dX5_mind_44 : decode cX5_mind 44 = .ok (.invokestatic 24, 3) := by decide +kernel
theorem dX5_mind_47 : decode cX5_mind 47 = .ok (.ifCond .ne 6, 3) := by decide +kernel
theorem dX5_mind_50 : decode cX5_mind 50 = .ok (.bipush (-6), 2) := by decide +kernel
theorem dX5_mind_52 : decode cX5_mind 52 = .ok (.ireturn, 1) := by decide +kernel
theorem dX5_mind_53 : decode cX5_mind 53 = .ok (.aload 4, 2) := by decide +kernel
theorem dX5_mind_55 : decode cX5_mind 55 = .ok (.getfield 177, 3) := by decide +kernel
theorem dX5_mind_58 : decode cX5_mind 58 = .ok (.iload_n 2, 1) := by decide +kernel
theorem dX5_mind_59 : decode cX5_mind 59 = .ok (.iaload, 1) := by decide +kernel
theorem dX5_mind_60 : decode cX5_mind 60 = .ok (.istore 5, 2) := by decide +kernel
theorem dX5_mind_62 : decode cX5_mind 62 = .ok (.iload_n 3, 1) := by decide +kernel
theorem dX5_mind_63 : decode cX5_mind 63 = .ok (.ifCond .ne 11, 3) := by decide +kernel
theorem dX5_mind_66 : decode cX5_mind 66 = .ok (.iload 5, 2) := by decide +kernel
theorem dX5_mind_68 : decode cX5_mind 68 = .ok (.invokestatic 179, 3) := by decide +kernel
theorem dX5_mind_71 : decode cX5_mind 71 = .ok (.goto 8, 3) := by decide +kernel
theorem dX5_mind_74 : decode cX5_mind 74 = .ok (.iload 5, 2) := by decide +kernel
theorem dX5_mind_76 : decode cX5_mind 76 = .ok (.invokestatic 182, 3) := by decide +kernel
theorem dX5_mind_79 : decode cX5_mind 79 = .ok (.ireturn, 1) := by decide +kernel
set_option maxRecDepth 20000 in
theorem ggX5_air_X5_isBetween : GoodIn wsX5_air wsX5_isBetween := goodIn_r _ [11] (by decide +kernel) (by decide +kernel)
set_option maxRecDepth 20000 in
theorem gX5_air_X5_isBetween : GoodIn wsX5_air (va_wsS RX5 24 yX5_isBetween wsX5_isBetween) := goodIn_app (goodIn_of _ (by decide +kernel)) ggX5_air_X5_isBetween
set_option maxRecDepth 20000 in
theorem ggX5_air_X2_sourceOf : GoodIn wsX5_air wsX2_sourceOf := goodIn_r _ [15] (by decide +kernel) (by decide +kernel)
set_option maxRecDepth 20000 in
theorem gX5_air_X2_sourceOf : GoodIn wsX5_air (va_wsS RX5 179 yX2_sourceOf wsX2_sourceOf) := goodIn_app (goodIn_of _ (by decide +kernel)) ggX5_air_X2_sourceOf
set_option maxRecDepth 20000 in
theorem ggX5_air_X2_numberOf : GoodIn wsX5_air wsX2_numberOf := goodIn_r _ [18] (by decide +kernel) (by decide +kernel)
set_option maxRecDepth 20000 in
theorem gX5_air_X2_numberOf : GoodIn wsX5_air (va_wsS RX5 182 yX2_numberOf wsX2_numberOf) := goodIn_app (goodIn_of _ (by decide +kernel)) ggX5_air_X2_numberOf
theorem dX5_air_0 : decode cX5_air 0 = .ok (.iload_n 2, 1) := by decide +kernel
theorem dX5_air_1 : decode cX5_air 1 = .ok (.iconst 0, 1) := by decide +kernel
theorem dX5_air_2 : decode cX5_air 2 = .ok (.iconst 4, 1) := by decide +kernel
theorem dX5_air_3 : decode cX5_air 3 = .ok (.invokestatic 24, 3) := by decide +kernel
theorem dX5_air_6 : decode cX5_air 6 = .ok (.ifCond .ne 6, 3) := by decide +kernel
theorem dX5_air_9 : decode cX5_air 9 = .ok (.bipush (-2), 2) := by decide +kernel
theorem dX5_air_11 : decode cX5_air 11 = .ok (.ireturn, 1) := by decide +kernel
theorem dX5_air_12 : decode cX5_air 12 = .ok (.aload_n 0, 1) := by decide +kernel
theorem dX5_air_13 : decode cX5_air 13 = .ok (.getfield 10, 3) := by decide +kernel
theorem dX5_air_16 : decode cX5_air 16 = .ok (.getfield 104, 3) := by decide +kernel
theorem dX5_air_19 : decode cX5_air 19 = .ok (.astore_n 3, 1) := by decide +kernel
theorem dX5_air_20 : decode cX5_air 20 = .ok (.iload_n 1, 1) := by decide +kernel
theorem dX5_air_21 : decode cX5_air 21 = .ok (.iconst 0, 1) := by decide +kernel
theorem dX5_air_22 : decode cX5_air 22 = .ok (.aload_n 3, 1) := by decide +kernel
theorem dX5_air_23 : decode cX5_air 23 = .ok (.getfield 143, 3) := by decide +kernel
theorem dX5_air_26 : decode cX5_air 26 = .ok (.iconst 1, 1) := by decide +kernel
theorem dX5_air_27 : decode cX5_air 27 = .ok (.isub, 1) := by decide +kernel
theorem dX5_air_28 : decode cX5_air 28 = .ok (.invokestatic 24, 3) := by decide +kernel
theorem dX5_air_31 : decode cX5_air 31 = .ok (.ifCond .ne 6, 3) := by decide +kernel
theorem dX5_air_34 : decode cX5_air 34 = .ok (.bipush (-6), 2) := by decide +kernel
theorem dX5_air_36 : decode cX5_air 36 = .ok (.ireturn, 1) := by decide +kernel
theorem dX5_air_37 : decode cX5_air 37 = .ok (.iload_n 2, 1) := by decide +kernel
theorem dX5_air_38 : decode cX5_air 38 = .ok (.tableswitch 64 0 3 #[30, 37, 44, 54], 30) := by decide +kernel
theorem dX5_air_68 : decode cX5_air 68 = .ok (.aload_n 3, 1) := by decide +kernel
theorem dX5_air_69 : decode cX5_air 69 = .ok (.getfield 185, 3) := by decide +kernel
theorem dX5_air_72 : decode cX5_air 72 = .ok (.iload_n 1, 1) := by decide +kernel
theorem dX5_air_73 : decode cX5_air 73 = .ok (.iaload, 1) := by decide +kernel
theorem dX5_air_74 : decode cX5_air 74 = .ok (.ireturn, 1) := by decide +kernel
theorem dX5_air_75 : decode cX5_air 75 = .ok (.aload_n 3, 1) := by decide +kernel
theorem dX5_air_76 : decode cX5_air 76 = .ok (.getfield 188, 3) := by decide +kernel
theorem dX5_air_79 : decode cX5_air 79 = .ok (.iload_n 1, 1) := by decide +kernel
theorem dX5_air_80 : decode cX5_air 80 = .ok (.iaload, 1) := by decide +kernel
theorem dX5_air_81 : decode cX5_air 81 = .ok (.ireturn, 1) := by decide +kernel
theorem dX5_air_82 : decode cX5_air 82 = .ok (.aload_n 3, 1) := by decide +kernel
theorem dX5_air_83 : decode cX5_air 83 = .ok (.getfield 190, 3) := by decide +kernel
theorem dX5_air_86 : decode cX5_air 86 = .ok (.iload_n 1, 1) := by decide +kernel
theorem dX5_air_87 : decode cX5_air 87 = .ok (.iaload, 1) := by decide +kernel
theorem dX5_air_88 : decode cX5_air 88 = .ok (.invokestatic 179, 3) := by decide +kernel
theorem dX5_air_91 : decode cX5_air 91 = .ok (.ireturn, 1) := by decide +kernel
theorem dX5_air_92 : decode cX5_air 92 = .ok (.aload_n 3, 1) := by decide +kernel
theorem dX5_air_93 : decode cX5_air 93 = .ok (.getfield 190, 3) := by decide +kernel
theorem dX5_air_96 : decode cX5_air 96 = .ok (.iload_n 1, 1) := by decide +kernel
theorem dX5_air_97 : decode cX5_air 97 = .ok (.iaload, 1) := by decide +kernel
theorem dX5_air_98 : decode cX5_air 98 = .ok (.invokestatic 182, 3) := by decide +kernel
theorem dX5_air_101 : decode cX5_air 101 = .ok (.ireturn, 1) := by decide +kernel
theorem dX5_air_102 : decode cX5_air 102 = .ok (.aload_n 3, 1) := by decide +kernel
theorem dX5_air_103 : decode cX5_air 103 = .ok (.getfield 193, 3) := by decide +kernel
theorem dX5_air_106 : decode cX5_air 106 = .ok (.iload_n 1, 1) := by decide +kernel
theorem dX5_air_107 : decode cX5_air 107 = .ok (.iaload, 1) := by decide +kernel
theorem dX5_air_108 : decode cX5_air 108 = .ok (.ireturn, 1) := by decide +kernel
set_option maxRecDepth 20000 in
theorem ggX5_image_X5_isBetween : GoodIn wsX5_image wsX5_isBetween := goodIn_r _ [9] (by decide +kernel) (by decide +kernel)
set_option maxRecDepth 20000 in
theorem gX5_image_X5_isBetween : GoodIn wsX5_image (va_wsS RX5 24 yX5_isBetween wsX5_isBetween) := goodIn_app (goodIn_of _ (by decide +kernel)) ggX5_image_X5_isBetween
set_option maxRecDepth 20000 in
theorem ggX5_image_X4_init : GoodIn wsX5_image wsX4_init := goodIn_r _ [12, 13, 14, 15, 16, 17, 18, 19, 20, 21, 22, 23, 24, 25, 26, 27, 28, 29, 30, 31, 32, 33, 34, 35, 36, 37, 38, 39, 40, 41, 42, 43, 44, 45, 46, 47, 48, 49, 50, 51, 52, 53, 54, 55, 56, 57, 58, 59, 60, 61, 62, 63, 64, 65, 66, 67, 68, 69, 70, 71, 72, 73, 74, 75, 76, 77, 78, 79, 80, 81, 82, 83, 84, 85, 86, 87, 120, 121, 122, 123, 124, 125, 126, 127, 128, 129, 130, 131, 132, 133, 134, 135, 136, 137, 138, 139, 140, 141, 142, 143, 144, 145, 146, 147, 148, 149, 150, 151, 152, 153, 154, 155] (by decide +kernel) (by decide +kernel)
set_option maxRecDepth 20000 in
theorem gX5_image_X4_init : GoodIn wsX5_image (wsX4_init) := ggX5_image_X4_init
set_option maxRecDepth 20000 in
theorem ggX5_image_X4_become : GoodIn wsX5_image wsX4_become := goodIn_r _ [91, 17, 21, 25, 26, 27, 28, 29, 30, 31, 32, 33, 92, 93, 94, 35, 95, 60, 96, 97, 98, 99, 61, 65, 66, 67, 68, 69, 70, 71, 72, 73, 74, 75, 76, 77, 100, 101, 102, 64, 103, 82, 87, 104, 105, 85, 106, 107, 108, 109, 110, 20, 111, 40, 112, 41, 42, 113, 114, 115, 24, 116, 50, 46, 117, 47, 48, 49, 120, 121, 122, 123, 124, 125, 126, 127, 128, 129, 130, 139, 140, 141, 142, 143, 144, 145, 146, 147, 148, 149, 150, 151, 152, 153, 154, 155, 131, 132, 133, 134, 135, 136, 137, 138] (by decide +kernel) (by decide +kernel)
set_option maxRecDepth 20000 in
theorem gX5_image_X4_become : GoodIn wsX5_image (wsV RX5 196 RX4 yX4_become wsX4_become) := goodIn_app (goodIn_of _ (by decide +kernel)) ggX5_image_X4_become
theorem dX5_image_0 : decode cX5_image 0 = .ok (.iload_n 1, 1) := by decide +kernel
theorem dX5_image_1 : decode cX5_image 1 = .ok (.iconst 0, 1) := by decide +kernel
theorem dX5_image_2 : decode cX5_image 2 = .ok (.iconst 1, 1) := by decide +kernel
theorem dX5_image_3 : decode cX5_image 3 = .ok (.invokestatic 24, 3) := by decide +kernel
theorem dX5_image_6 : decode cX5_image 6 = .ok (.ifCond .ne 6, 3) := by decide +kernel
theorem dX5_image_9 : decode cX5_image 9 = .ok (.bipush (-2), 2) := by decide +kernel
theorem dX5_image_11 : decode cX5_image 11 = .ok (.ireturn, 1) := by decide +kernel
theorem dX5_image_12 : decode cX5_image 12 = .ok (.aload_n 0, 1) := by decide +kernel
theorem dX5_image_13 : decode cX5_image 13 = .ok (.getfield 16, 3) := by decide +kernel
theorem dX5_image_16 : decode cX5_image 16 = .ok (.iload_n 1, 1) := by decide +kernel
theorem dX5_image_17 : decode cX5_image 17 = .ok (.aaload, 1) := by decide +kernel
theorem dX5_image_18 : decode cX5_image 18 = .ok (.astore_n 2, 1) := by decide +kernel
theorem dX5_image_19 : decode cX5_image 19 = .ok (.aload_n 2, 1) := by decide +kernel
theorem dX5_image_20 : decode cX5_image 20 = .ok (.ifnonnull 18, 3) := by decide +kernel
theorem dX5_image_23 : decode cX5_image 23 = .ok (.new 7, 3) := by decide +kernel
theorem dX5_image_26 : decode cX5_image 26 = .ok (.dup, 1) := by decide +kernel
theorem dX5_image_27 : decode cX5_image 27 = .ok (.invokespecial 9, 3) := by decide +kernel
theorem dX5_image_30 : decode cX5_image 30 = .ok (.astore_n 2, 1) := by decide +kernel
theorem dX5_image_31 : decode cX5_image 31 = .ok (.aload_n 0, 1) := by decide +kernel
theorem dX5_image_32 : decode cX5_image 32 = .ok (.getfield 16, 3) := by decide +kernel
theorem dX5_image_35 : decode cX5_image 35 = .ok (.iload_n 1, 1) := by decide +kernel
theorem dX5_image_36 : decode cX5_image 36 = .ok (.aload_n 2, 1) := by decide +kernel
theorem dX5_image_37 : decode cX5_image 37 = .ok (.aastore, 1) := by decide +kernel
theorem dX5_image_38 : decode cX5_image 38 = .ok (.aload_n 2, 1) := by decide +kernel
theorem dX5_image_39 : decode cX5_image 39 = .ok (.aload_n 0, 1) := by decide +kernel
theorem dX5_image_40 : decode cX5_image 40 = .ok (.getfield 10, 3) := by decide +kernel
theorem dX5_image_43 : decode cX5_image 43 = .ok (.invokevirtual 196, 3) := by decide +kernel
theorem dX5_image_46 : decode cX5_image 46 = .ok (.iconst 1, 1) := by decide +kernel
theorem dX5_image_47 : decode cX5_image 47 = .ok (.ireturn, 1) := by decide +kernel
set_option maxRecDepth 20000 in
theorem ggX5_restore_X5_isBetween : GoodIn wsX5_restore wsX5_isBetween := goodIn_r _ [6] (by decide +kernel) (by decide +kernel)
set_option maxRecDepth 20000 in
theorem gX5_restore_X5_isBetween : GoodIn wsX5_restore (va_wsS RX5 24 yX5_isBetween wsX5_isBetween) := goodIn_app (goodIn_of _ (by decide +kernel)) ggX5_restore_X5_isBetween
set_option maxRecDepth 20000 in
theorem ggX5_restore_X4_become : GoodIn wsX5_restore wsX4_become := goodIn_r _ [11, 12, 13, 14, 15, 16, 17, 18, 19, 20, 21, 22, 23, 24, 25, 26, 27, 28, 29, 30, 31, 32, 33, 34, 35, 36, 37, 38, 39, 40, 41, 42, 43, 44, 45, 46, 47, 48, 49, 50, 51, 52, 53, 54, 55, 56, 57, 58, 59, 60, 61, 62, 63, 64, 65, 66, 67, 68, 69, 70, 71, 72, 73, 74, 75, 76, 77, 78, 81, 82, 83, 84, 85, 86, 87, 88, 89, 90, 91, 92, 93, 94, 95, 96, 97, 98, 99, 100, 101, 102, 103, 104, 105, 106, 107, 108, 109, 110, 111, 112, 113, 114, 115, 116] (by decide +kernel) (by decide +kernel)
set_option maxRecDepth 20000 in
theorem gX5_restore_X4_become : GoodIn wsX5_restore (wsV RX5 196 RX4 yX4_become wsX4_become) := goodIn_app (goodIn_of _ (by decide +kernel)) ggX5_restore_X4_become
theorem dX5_restore_0 : decode cX5_restore 0 = .ok (.iload_n 1, 1) := by decide +kernel
theorem dX5_restore_1 : decode cX5_restore 1 = .ok (.iconst 0, 1) := by decide +kernel
theorem dX5_restore_2 : decode cX5_restore 2 = .ok (.iconst 1, 1) := by decide +kernel
theorem dX5_restore_3 : decode cX5_restore 3 = .ok (.invokestatic 24, 3) := by decide +kernel
theorem dX5_restore_6 : decode cX5_restore 6 = .ok (.ifCond .ne 6, 3) := by decide +kernel
theorem dX5_restore_9 : decode cX5_restore 9 = .ok (.bipush (-2), 2) := by decide +kernel
theorem dX5_restore_11 : decode cX5_restore 11 = .ok (.ireturn, 1) := by decide +kernel
theorem dX5_restore_12 : decode cX5_restore 12 = .ok (.aload_n 0, 1) := by decide +kernel
theorem dX5_restore_13 : decode cX5_restore 13 = .ok (.getfield 16, 3) := by decide +kernel
theorem dX5_restore_16 : decode cX5_restore 16 = .ok (.iload_n 1, 1) := by decide +kernel
theorem dX5_restore_17 : decode cX5_restore 17 = .ok (.aaload, 1) := by decide +kernel
theorem dX5_restore_18 : decode cX5_restore 18 = .ok (.astore_n 2, 1) := by decide +kernel
theorem dX5_restore_19 : decode cX5_restore 19 = .ok (.aload_n 2, 1) := by decide +kernel
theorem dX5_restore_20 : decode cX5_restore 20 = .ok (.ifnonnull 6, 3) := by decide +kernel
theorem dX5_restore_23 : decode cX5_restore 23 = .ok (.bipush (-3), 2) := by decide +kernel
theorem dX5_restore_25 : decode cX5_restore 25 = .ok (.ireturn, 1) := by decide +kernel
theorem dX5_restore_26 : decode cX5_restore 26 = .ok (.aload_n 0, 1) := by decide +kernel
theorem dX5_restore_27 : decode cX5_restore 27 = .ok (.getfield 10, 3) := by decide +kernel
theorem dX5_restore_30 : decode cX5_restore 30 = .ok (.aload_n 2, 1) := by decide +kernel
theorem dX5_restore_31 : decode cX5_restore 31 = .ok (.invokevirtual 196, 3) := by decide +kernel
theorem dX5_restore_34 : decode cX5_restore 34 = .ok (.iconst 1, 1) := by decide +kernel
theorem dX5_restore_35 : decode cX5_restore 35 = .ok (.ireturn, 1) := by decide +kernel
set_option maxRecDepth 20000 in
theorem ggX5_count_X4_sleepers : GoodIn wsX5_count wsX4_sleepers := goodIn_r _ [14, 15, 16, 17, 18, 19, 35, 36, 37, 38, 39, 40, 41, 42, 43, 44, 45, 51, 52, 53, 54, 55, 56, 57, 58, 59, 60, 61, 62, 63, 64, 65] (by decide +kernel) (by decide +kernel)
set_option maxRecDepth 20000 in
theorem gX5_count_X4_sleepers : GoodIn wsX5_count (wsV RX5 203 RX4 yX4_sleepers wsX4_sleepers) := goodIn_app (goodIn_of _ (by decide +kernel)) ggX5_count_X4_sleepers
set_option maxRecDepth 20000 in
theorem ggX5_count_X4_allLights : GoodIn wsX5_count wsX4_allLights := goodIn_r _ [23, 15, 24, 35, 36, 37, 38, 39, 40, 41, 42, 43, 44, 45, 51, 52, 53, 54, 55, 56, 57, 58, 59, 60, 61, 62, 63, 64, 65] (by decide +kernel) (by decide +kernel)
set_option maxRecDepth 20000 in
theorem gX5_count_X4_allLights : GoodIn wsX5_count (wsV RX5 207 RX4 yX4_allLights wsX4_allLights) := goodIn_app (goodIn_of _ (by decide +kernel)) ggX5_count_X4_allLights
set_option maxRecDepth 20000 in
theorem ggX5_count_X5_keptImages : GoodIn wsX5_count wsX5_keptImages := goodIn_r _ [28, 29, 30, 31, 18, 32, 33, 34] (by decide +kernel) (by decide +kernel)
set_option maxRecDepth 20000 in
theorem gX5_count_X5_keptImages : GoodIn wsX5_count (wsV RX5 216 RX5 yX5_keptImages wsX5_keptImages) := goodIn_app (goodIn_of _ (by decide +kernel)) ggX5_count_X5_keptImages
theorem dX5_count_0 : decode cX5_count 0 = .ok (.iload_n 1, 1) := by decide +kernel
theorem dX5_count_1 : decode cX5_count 1 = .ok (.tableswitch 135 0 9 #[55, 63, 71, 79, 90, 98, 106, 114, 122, 130], 55) := by decide +kernel
theorem dX5_count_56 : decode cX5_count 56 = .ok (.aload_n 0, 1) := by decide +kernel
theorem dX5_count_57 : decode cX5_count 57 = .ok (.getfield 10, 3) := by decide +kernel
theorem dX5_count_60 : decode cX5_count 60 = .ok (.getfield 138, 3) := by decide +kernel
theorem dX5_count_63 : decode cX5_count 63 = .ok (.ireturn, 1) := by decide +kernel
theorem dX5_count_64 : decode cX5_count 64 = .ok (.aload_n 0, 1) := by decide +kernel
theorem dX5_count_65 : decode cX5_count 65 = .ok (.getfield 10, 3) := by decide +kernel
theorem dX5_count_68 : decode cX5_count 68 = .ok (.getfield 200, 3) := by decide +kernel
theorem dX5_count_71 : decode cX5_count 71 = .ok (.ireturn, 1) := by decide +kernel
theorem dX5_count_72 : decode cX5_count 72 = .ok (.aload_n 0, 1) := by decide +kernel
theorem dX5_count_73 : decode cX5_count 73 = .ok (.getfield 10, 3) := by decide +kernel
theorem dX5_count_76 : decode cX5_count 76 = .ok (.getfield 84, 3) := by decide +kernel
theorem dX5_count_79 : decode cX5_count 79 = .ok (.ireturn, 1) := by decide +kernel
theorem dX5_count_80 : decode cX5_count 80 = .ok (.aload_n 0, 1) := by decide +kernel
theorem dX5_count_81 : decode cX5_count 81 = .ok (.getfield 10, 3) := by decide +kernel
theorem dX5_count_84 : decode cX5_count 84 = .ok (.getfield 104, 3) := by decide +kernel
theorem dX5_count_87 : decode cX5_count 87 = .ok (.getfield 143, 3) := by decide +kernel
theorem dX5_count_90 : decode cX5_count 90 = .ok (.ireturn, 1) := by decide +kernel
theorem dX5_count_91 : decode cX5_count 91 = .ok (.aload_n 0, 1) := by decide +kernel
theorem dX5_count_92 : decode cX5_count 92 = .ok (.getfield 10, 3) := by decide +kernel
theorem dX5_count_95 : decode cX5_count 95 = .ok (.invokevirtual 203, 3) := by decide +kernel
theorem dX5_count_98 : decode cX5_count 98 = .ok (.ireturn, 1) := by decide +kernel
theorem dX5_count_99 : decode cX5_count 99 = .ok (.aload_n 0, 1) := by decide +kernel
theorem dX5_count_100 : decode cX5_count 100 = .ok (.getfield 10, 3) := by decide +kernel
theorem dX5_count_103 : decode cX5_count 103 = .ok (.invokevirtual 207, 3) := by decide +kernel
theorem dX5_count_106 : decode cX5_count 106 = .ok (.ireturn, 1) := by decide +kernel
theorem dX5_count_107 : decode cX5_count 107 = .ok (.aload_n 0, 1) := by decide +kernel
theorem dX5_count_108 : decode cX5_count 108 = .ok (.getfield 10, 3) := by decide +kernel
theorem dX5_count_111 : decode cX5_count 111 = .ok (.getfield 146, 3) := by decide +kernel
theorem dX5_count_114 : decode cX5_count 114 = .ok (.ireturn, 1) := by decide +kernel
theorem dX5_count_115 : decode cX5_count 115 = .ok (.aload_n 0, 1) := by decide +kernel
theorem dX5_count_116 : decode cX5_count 116 = .ok (.getfield 10, 3) := by decide +kernel
theorem dX5_count_119 : decode cX5_count 119 = .ok (.getfield 210, 3) := by decide +kernel
theorem dX5_count_122 : decode cX5_count 122 = .ok (.ireturn, 1) := by decide +kernel
theorem dX5_count_123 : decode cX5_count 123 = .ok (.aload_n 0, 1) := by decide +kernel
theorem dX5_count_124 : decode cX5_count 124 = .ok (.getfield 10, 3) := by decide +kernel
theorem dX5_count_127 : decode cX5_count 127 = .ok (.getfield 213, 3) := by decide +kernel
theorem dX5_count_130 : decode cX5_count 130 = .ok (.ireturn, 1) := by decide +kernel
theorem dX5_count_131 : decode cX5_count 131 = .ok (.aload_n 0, 1) := by decide +kernel
theorem dX5_count_132 : decode cX5_count 132 = .ok (.invokevirtual 216, 3) := by decide +kernel
theorem dX5_count_135 : decode cX5_count 135 = .ok (.ireturn, 1) := by decide +kernel
theorem dX5_count_136 : decode cX5_count 136 = .ok (.bipush (-2), 2) := by decide +kernel
theorem dX5_count_138 : decode cX5_count 138 = .ok (.ireturn, 1) := by decide +kernel
set_option maxRecDepth 20000 in
theorem ggX5_keptImages_X5_changed : GoodIn wsX5_keptImages wsX5_changed := goodIn_r _ [5] (by decide +kernel) (by decide +kernel)
set_option maxRecDepth 20000 in
theorem gX5_keptImages_X5_changed : GoodIn wsX5_keptImages (va_wsS RX5 38 yX5_changed wsX5_changed) := goodIn_app (goodIn_of _ (by decide +kernel)) ggX5_keptImages_X5_changed
theorem dX5_keptImages_0 : decode cX5_keptImages 0 = .ok (.iconst 0, 1) := by decide +kernel
theorem dX5_keptImages_1 : decode cX5_keptImages 1 = .ok (.istore_n 1, 1) := by decide +kernel
theorem dX5_keptImages_2 : decode cX5_keptImages 2 = .ok (.iconst 0, 1) := by decide +kernel
theorem dX5_keptImages_3 : decode cX5_keptImages 3 = .ok (.istore_n 2, 1) := by decide +kernel
theorem dX5_keptImages_4 : decode cX5_keptImages 4 = .ok (.iload_n 2, 1) := by decide +kernel
theorem dX5_keptImages_5 : decode cX5_keptImages 5 = .ok (.iconst 2, 1) := by decide +kernel
theorem dX5_keptImages_6 : decode cX5_keptImages 6 = .ok (.if_icmp .ge 29, 3) := by decide +kernel
theorem dX5_keptImages_9 : decode cX5_keptImages 9 = .ok (.iload_n 1, 1) := by decide +kernel
theorem dX5_keptImages_10 : decode cX5_keptImages 10 = .ok (.iload_n 2, 1) := by decide +kernel
theorem dX5_keptImages_11 : decode cX5_keptImages 11 = .ok (.aload_n 0, 1) := by decide +kernel
theorem dX5_keptImages_12 : decode cX5_keptImages 12 = .ok (.getfield 16, 3) := by decide +kernel
theorem dX5_keptImages_15 : decode cX5_keptImages 15 = .ok (.iload_n 2, 1) := by decide +kernel
theorem dX5_keptImages_16 : decode cX5_keptImages 16 = .ok (.aaload, 1) := by decide +kernel
theorem dX5_keptImages_17 : decode cX5_keptImages 17 = .ok (.ifnull 7, 3) := by decide +kernel
theorem dX5_keptImages_20 : decode cX5_keptImages 20 = .ok (.iconst 1, 1) := by decide +kernel
theorem dX5_keptImages_21 : decode cX5_keptImages 21 = .ok (.goto 4, 3) := by decide +kernel
theorem dX5_keptImages_24 : decode cX5_keptImages 24 = .ok (.iconst 0, 1) := by decide +kernel
theorem dX5_keptImages_25 : decode cX5_keptImages 25 = .ok (.invokestatic 38, 3) := by decide +kernel
theorem dX5_keptImages_28 : decode cX5_keptImages 28 = .ok (.istore_n 1, 1) := by decide +kernel
theorem dX5_keptImages_29 : decode cX5_keptImages 29 = .ok (.iinc 2 1, 3) := by decide +kernel
theorem dX5_keptImages_32 : decode cX5_keptImages 32 = .ok (.goto (-28), 3) := by decide +kernel
theorem dX5_keptImages_35 : decode cX5_keptImages 35 = .ok (.iload_n 1, 1) := by decide +kernel
theorem dX5_keptImages_36 : decode cX5_keptImages 36 = .ok (.ireturn, 1) := by decide +kernel
set_option maxRecDepth 20000 in
theorem ggX5_isLamp_X5_isBetween : GoodIn wsX5_isLamp wsX5_isBetween := goodIn_r _ [4] (by decide +kernel) (by decide +kernel)
set_option maxRecDepth 20000 in
theorem gX5_isLamp_X5_isBetween : GoodIn wsX5_isLamp (va_wsS RX5 24 yX5_isBetween wsX5_isBetween) := goodIn_app (goodIn_of _ (by decide +kernel)) ggX5_isLamp_X5_isBetween
theorem dX5_isLamp_0 : decode cX5_isLamp 0 = .ok (.iload_n 0, 1) := by decide +kernel
theorem dX5_isLamp_1 : decode cX5_isLamp 1 = .ok (.iconst 0, 1) := by decide +kernel
theorem dX5_isLamp_2 : decode cX5_isLamp 2 = .ok (.bipush 9, 2) := by decide +kernel
theorem dX5_isLamp_4 : decode cX5_isLamp 4 = .ok (.invokestatic 24, 3) := by decide +kernel
theorem dX5_isLamp_7 : decode cX5_isLamp 7 = .ok (.ireturn, 1) := by decide +kernel
theorem dX5_isBetween_0 : decode cX5_isBetween 0 = .ok (.iload_n 0, 1) := by decide +kernel
theorem dX5_isBetween_1 : decode cX5_isBetween 1 = .ok (.iload_n 1, 1) := by decide +kernel
theorem dX5_isBetween_2 : decode cX5_isBetween 2 = .ok (.if_icmp .lt 12, 3) := by decide +kernel
theorem dX5_isBetween_5 : decode cX5_isBetween 5 = .ok (.iload_n 0, 1) := by decide +kernel
theorem dX5_isBetween_6 : decode cX5_isBetween 6 = .ok (.iload_n 2, 1) := by decide +kernel
theorem dX5_isBetween_7 : decode cX5_isBetween 7 = .ok (.if_icmp .gt 7, 3) := by decide +kernel
theorem dX5_isBetween_10 : decode cX5_isBetween 10 = .ok (.iconst 1, 1) := by decide +kernel
theorem dX5_isBetween_11 : decode cX5_isBetween 11 = .ok (.goto 4, 3) := by decide +kernel
theorem dX5_isBetween_14 : decode cX5_isBetween 14 = .ok (.iconst 0, 1) := by decide +kernel
theorem dX5_isBetween_15 : decode cX5_isBetween 15 = .ok (.ireturn, 1) := by decide +kernel
theorem dX5_isIn_0 : decode cX5_isIn 0 = .ok (.iload_n 0, 1) := by decide +kernel
theorem dX5_isIn_1 : decode cX5_isIn 1 = .ok (.iload_n 1, 1) := by decide +kernel
theorem dX5_isIn_2 : decode cX5_isIn 2 = .ok (.ishr, 1) := by decide +kernel
theorem dX5_isIn_3 : decode cX5_isIn 3 = .ok (.iconst 1, 1) := by decide +kernel
theorem dX5_isIn_4 : decode cX5_isIn 4 = .ok (.iand, 1) := by decide +kernel
theorem dX5_isIn_5 : decode cX5_isIn 5 = .ok (.iconst 1, 1) := by decide +kernel
theorem dX5_isIn_6 : decode cX5_isIn 6 = .ok (.if_icmp .ne 7, 3) := by decide +kernel
theorem dX5_isIn_9 : decode cX5_isIn 9 = .ok (.iconst 1, 1) := by decide +kernel
theorem dX5_isIn_10 : decode cX5_isIn 10 = .ok (.goto 4, 3) := by decide +kernel
theorem dX5_isIn_13 : decode cX5_isIn 13 = .ok (.iconst 0, 1) := by decide +kernel
theorem dX5_isIn_14 : decode cX5_isIn 14 = .ok (.ireturn, 1) := by decide +kernel
theorem dX5_changed_0 : decode cX5_changed 0 = .ok (.iload_n 2, 1) := by decide +kernel
theorem dX5_changed_1 : decode cX5_changed 1 = .ok (.ifCond .eq 11, 3) := by decide +kernel
theorem dX5_changed_4 : decode cX5_changed 4 = .ok (.iload_n 0, 1) := by decide +kernel
theorem dX5_changed_5 : decode cX5_changed 5 = .ok (.iconst 1, 1) := by decide +kernel
theorem dX5_changed_6 : decode cX5_changed 6 = .ok (.iload_n 1, 1) := by decide +kernel
theorem dX5_changed_7 : decode cX5_changed 7 = .ok (.ishl, 1) := by decide +kernel
theorem dX5_changed_8 : decode cX5_changed 8 = .ok (.ior, 1) := by decide +kernel
theorem dX5_changed_9 : decode cX5_changed 9 = .ok (.goto 10, 3) := by decide +kernel
theorem dX5_changed_12 : decode cX5_changed 12 = .ok (.iload_n 0, 1) := by decide +kernel
theorem dX5_changed_13 : decode cX5_changed 13 = .ok (.iconst 1, 1) := by decide +kernel
theorem dX5_changed_14 : decode cX5_changed 14 = .ok (.iload_n 1, 1) := by decide +kernel
theorem dX5_changed_15 : decode cX5_changed 15 = .ok (.ishl, 1) := by decide +kernel
theorem dX5_changed_16 : decode cX5_changed 16 = .ok (.iconst (-1), 1) := by decide +kernel
theorem dX5_changed_17 : decode cX5_changed 17 = .ok (.ixor, 1) := by decide +kernel
theorem dX5_changed_18 : decode cX5_changed 18 = .ok (.iand, 1) := by decide +kernel
theorem dX5_changed_19 : decode cX5_changed 19 = .ok (.ireturn, 1) := by decide +kernel
theorem dX5_asNumber_0 : decode cX5_asNumber 0 = .ok (.iload_n 0, 1) := by decide +kernel
