theorem dX11_part_54 : decode cX11_part 54 = .ok (.iconst (-1), 1) := by decide +kernel
theorem dX11_part_55 : decode cX11_part 55 = .ok (.iastore, 1) := by decide +kernel
theorem dX11_part_56 : decode cX11_part 56 = .ok (.iload_n 2, 1) := by decide +kernel
theorem dX11_part_57 : decode cX11_part 57 = .ok (.ireturn, 1) := by decide +kernel
set_option maxRecDepth 20000 in
theorem ggX11_swap_X11_isTurnip : GoodIn wsX11_swap wsX11_isTurnip := goodIn_r _ [8, 2, 9, 45, 46, 47, 48, 49, 50, 51, 52, 53, 54, 55, 56, 57, 58, 59, 60, 61, 62, 63, 64, 65, 66, 67, 68, 69, 70] (by decide +kernel) (by decide +kernel)
set_option maxRecDepth 20000 in
theorem gX11_swap_X11_isTurnip : GoodIn wsX11_swap (wsV RX11 177 RX11 yX11_isTurnip wsX11_isTurnip) := goodIn_app (goodIn_of _ (by decide +kernel)) ggX11_swap_X11_isTurnip
set_option maxRecDepth 20000 in
theorem ggX11_swap_X11_keepAct : GoodIn wsX11_swap wsX11_keepAct := goodIn_r _ [13, 14, 15, 2, 16, 17, 18, 19, 20, 21, 22, 23, 24, 25, 26, 27, 28, 29, 30, 31, 32, 33, 34, 35, 36, 37, 38, 39, 40, 45, 46, 47, 48, 49, 50, 51, 52, 53, 54, 55, 56, 57, 58, 59, 60, 61, 62, 63, 64, 65, 66, 67, 68, 69, 70] (by decide +kernel) (by decide +kernel)
set_option maxRecDepth 20000 in
theorem gX11_swap_X11_keepAct : GoodIn wsX11_swap (wsV RX11 162 RX11 yX11_keepAct wsX11_keepAct) := goodIn_app (goodIn_of _ (by decide +kernel)) ggX11_swap_X11_keepAct
set_option maxRecDepth 20000 in
theorem ggX11_swap_X1_exchange : GoodIn wsX11_swap wsX1_exchange := goodIn_r _ [44, 39, 40, 58, 59, 60, 61, 62, 63, 64, 65, 66, 67, 68, 69, 70] (by decide +kernel) (by decide +kernel)
set_option maxRecDepth 20000 in
theorem gX11_swap_X1_exchange : GoodIn wsX11_swap (wsV RX11 186 RX1 yX1_exchange wsX1_exchange) := goodIn_app (goodIn_of _ (by decide +kernel)) ggX11_swap_X1_exchange
theorem dX11_swap_0 : decode cX11_swap 0 = .ok (.aload_n 0, 1) := by decide +kernel
theorem dX11_swap_1 : decode cX11_swap 1 = .ok (.iload_n 1, 1) := by decide +kernel
theorem dX11_swap_2 : decode cX11_swap 2 = .ok (.invokevirtual 177, 3) := by decide +kernel
theorem dX11_swap_5 : decode cX11_swap 5 = .ok (.ifCond .eq 16, 3) := by decide +kernel
theorem dX11_swap_8 : decode cX11_swap 8 = .ok (.aload_n 0, 1) := by decide +kernel
theorem dX11_swap_9 : decode cX11_swap 9 = .ok (.iload_n 2, 1) := by decide +kernel
theorem dX11_swap_10 : decode cX11_swap 10 = .ok (.invokevirtual 177, 3) := by decide +kernel
theorem dX11_swap_13 : decode cX11_swap 13 = .ok (.ifCond .eq 8, 3) := by decide +kernel
theorem dX11_swap_16 : decode cX11_swap 16 = .ok (.iload_n 1, 1) := by decide +kernel
theorem dX11_swap_17 : decode cX11_swap 17 = .ok (.iload_n 2, 1) := by decide +kernel
theorem dX11_swap_18 : decode cX11_swap 18 = .ok (.if_icmp .ne 6, 3) := by decide +kernel
theorem dX11_swap_21 : decode cX11_swap 21 = .ok (.ldc 89, 2) := by decide +kernel
theorem dX11_swap_23 : decode cX11_swap 23 = .ok (.ireturn, 1) := by decide +kernel
theorem dX11_swap_24 : decode cX11_swap 24 = .ok (.aload_n 0, 1) := by decide +kernel
theorem dX11_swap_25 : decode cX11_swap 25 = .ok (.invokevirtual 162, 3) := by decide +kernel
theorem dX11_swap_28 : decode cX11_swap 28 = .ok (.aload_n 0, 1) := by decide +kernel
theorem dX11_swap_29 : decode cX11_swap 29 = .ok (.getfield 65, 3) := by decide +kernel
theorem dX11_swap_32 : decode cX11_swap 32 = .ok (.iload_n 1, 1) := by decide +kernel
theorem dX11_swap_33 : decode cX11_swap 33 = .ok (.iload_n 2, 1) := by decide +kernel
theorem dX11_swap_34 : decode cX11_swap 34 = .ok (.invokevirtual 186, 3) := by decide +kernel
theorem dX11_swap_37 : decode cX11_swap 37 = .ok (.aload_n 0, 1) := by decide +kernel
theorem dX11_swap_38 : decode cX11_swap 38 = .ok (.getfield 65, 3) := by decide +kernel
theorem dX11_swap_41 : decode cX11_swap 41 = .ok (.getfield 189, 3) := by decide +kernel
theorem dX11_swap_44 : decode cX11_swap 44 = .ok (.iload_n 1, 1) := by decide +kernel
theorem dX11_swap_45 : decode cX11_swap 45 = .ok (.iaload, 1) := by decide +kernel
theorem dX11_swap_46 : decode cX11_swap 46 = .ok (.ireturn, 1) := by decide +kernel
set_option maxRecDepth 20000 in
theorem ggX11_lean_X11_isTurnip : GoodIn wsX11_lean wsX11_isTurnip := goodIn_r _ [8, 2, 9, 41, 42, 43, 44, 45, 46, 47, 48, 49, 50, 51, 52, 53, 54, 55, 56, 57, 58, 59, 60, 61, 62, 63, 64, 65, 66] (by decide +kernel) (by decide +kernel)
set_option maxRecDepth 20000 in
theorem gX11_lean_X11_isTurnip : GoodIn wsX11_lean (wsV RX11 177 RX11 yX11_isTurnip wsX11_isTurnip) := goodIn_app (goodIn_of _ (by decide +kernel)) ggX11_lean_X11_isTurnip
set_option maxRecDepth 20000 in
theorem ggX11_lean_X11_keepAct : GoodIn wsX11_lean wsX11_keepAct := goodIn_r _ [13, 14, 15, 2, 16, 17, 18, 19, 20, 21, 22, 23, 24, 25, 26, 27, 28, 29, 30, 31, 32, 33, 34, 35, 36, 37, 38, 39, 40, 41, 42, 43, 44, 45, 46, 47, 48, 49, 50, 51, 52, 53, 54, 55, 56, 57, 58, 59, 60, 61, 62, 63, 64, 65, 66] (by decide +kernel) (by decide +kernel)
set_option maxRecDepth 20000 in
theorem gX11_lean_X11_keepAct : GoodIn wsX11_lean (wsV RX11 162 RX11 yX11_keepAct wsX11_keepAct) := goodIn_app (goodIn_of _ (by decide +kernel)) ggX11_lean_X11_keepAct
theorem dX11_lean_0 : decode cX11_lean 0 = .ok (.aload_n 0, 1) := by decide +kernel
theorem dX11_lean_1 : decode cX11_lean 1 = .ok (.iload_n 1, 1) := by decide +kernel
theorem dX11_lean_2 : decode cX11_lean 2 = .ok (.invokevirtual 177, 3) := by decide +kernel
theorem dX11_lean_5 : decode cX11_lean 5 = .ok (.ifCond .ne 6, 3) := by decide +kernel
theorem dX11_lean_8 : decode cX11_lean 8 = .ok (.ldc 89, 2) := by decide +kernel
theorem dX11_lean_10 : decode cX11_lean 10 = .ok (.ireturn, 1) := by decide +kernel
theorem dX11_lean_11 : decode cX11_lean 11 = .ok (.aload_n 0, 1) := by decide +kernel
theorem dX11_lean_12 : decode cX11_lean 12 = .ok (.invokevirtual 162, 3) := by decide +kernel
theorem dX11_lean_15 : decode cX11_lean 15 = .ok (.aload_n 0, 1) := by decide +kernel
theorem dX11_lean_16 : decode cX11_lean 16 = .ok (.getfield 65, 3) := by decide +kernel
theorem dX11_lean_19 : decode cX11_lean 19 = .ok (.getfield 192, 3) := by decide +kernel
theorem dX11_lean_22 : decode cX11_lean 22 = .ok (.iload_n 1, 1) := by decide +kernel
theorem dX11_lean_23 : decode cX11_lean 23 = .ok (.iconst 1, 1) := by decide +kernel
theorem dX11_lean_24 : decode cX11_lean 24 = .ok (.aload_n 0, 1) := by decide +kernel
theorem dX11_lean_25 : decode cX11_lean 25 = .ok (.getfield 65, 3) := by decide +kernel
theorem dX11_lean_28 : decode cX11_lean 28 = .ok (.getfield 192, 3) := by decide +kernel
theorem dX11_lean_31 : decode cX11_lean 31 = .ok (.iload_n 1, 1) := by decide +kernel
theorem dX11_lean_32 : decode cX11_lean 32 = .ok (.iaload, 1) := by decide +kernel
theorem dX11_lean_33 : decode cX11_lean 33 = .ok (.isub, 1) := by decide +kernel
theorem dX11_lean_34 : decode cX11_lean 34 = .ok (.iastore, 1) := by decide +kernel
theorem dX11_lean_35 : decode cX11_lean 35 = .ok (.aload_n 0, 1) := by decide +kernel
theorem dX11_lean_36 : decode cX11_lean 36 = .ok (.getfield 65, 3) := by decide +kernel
theorem dX11_lean_39 : decode cX11_lean 39 = .ok (.getfield 192, 3) := by decide +kernel
theorem dX11_lean_42 : decode cX11_lean 42 = .ok (.iload_n 1, 1) := by decide +kernel
theorem dX11_lean_43 : decode cX11_lean 43 = .ok (.iaload, 1) := by decide +kernel
theorem dX11_lean_44 : decode cX11_lean 44 = .ok (.ireturn, 1) := by decide +kernel
set_option maxRecDepth 20000 in
theorem ggX11_ground_X11_outside : GoodIn wsX11_ground wsX11_outside := goodIn_r _ [9] (by decide +kernel) (by decide +kernel)
set_option maxRecDepth 20000 in
theorem gX11_ground_X11_outside : GoodIn wsX11_ground (va_wsS RX11 85 yX11_outside wsX11_outside) := goodIn_app (goodIn_of _ (by decide +kernel)) ggX11_ground_X11_outside
set_option maxRecDepth 20000 in
theorem ggX11_ground_X11_keepAct : GoodIn wsX11_ground wsX11_keepAct := goodIn_r _ [13, 14, 15, 1, 16, 17, 18, 19, 20, 21, 22, 23, 24, 25, 26, 27, 28, 29, 30, 31, 32, 33, 34, 35, 36, 37, 38, 39, 40, 41, 42, 43, 44, 45, 46, 47, 48, 49, 50, 51, 52, 53, 54, 55, 56, 57, 58, 59, 60, 61, 62, 63, 64, 65, 66] (by decide +kernel) (by decide +kernel)
set_option maxRecDepth 20000 in
theorem gX11_ground_X11_keepAct : GoodIn wsX11_ground (wsV RX11 162 RX11 yX11_keepAct wsX11_keepAct) := goodIn_app (goodIn_of _ (by decide +kernel)) ggX11_ground_X11_keepAct
theorem dX11_ground_0 : decode cX11_ground 0 = .ok (.aload_n 0, 1) := by decide +kernel
theorem dX11_ground_1 : decode cX11_ground 1 = .ok (.getfield 65, 3) := by decide +kernel
theorem dX11_ground_4 : decode cX11_ground 4 = .ok (.getfield 155, 3) := by decide +kernel
theorem dX11_ground_7 : decode cX11_ground 7 = .ok (.ifCond .ne 6, 3) := by decide +kernel
theorem dX11_ground_10 : decode cX11_ground 10 = .ok (.ldc 158, 2) := by decide +kernel
theorem dX11_ground_12 : decode cX11_ground 12 = .ok (.ireturn, 1) := by decide +kernel
theorem dX11_ground_13 : decode cX11_ground 13 = .ok (.iload_n 1, 1) := by decide +kernel
theorem dX11_ground_14 : decode cX11_ground 14 = .ok (.iconst 1, 1) := by decide +kernel
theorem dX11_ground_15 : decode cX11_ground 15 = .ok (.bipush 9, 2) := by decide +kernel
theorem dX11_ground_17 : decode cX11_ground 17 = .ok (.invokestatic 85, 3) := by decide +kernel
theorem dX11_ground_20 : decode cX11_ground 20 = .ok (.ifCond .eq 6, 3) := by decide +kernel
theorem dX11_ground_23 : decode cX11_ground 23 = .ok (.ldc 89, 2) := by decide +kernel
theorem dX11_ground_25 : decode cX11_ground 25 = .ok (.ireturn, 1) := by decide +kernel
theorem dX11_ground_26 : decode cX11_ground 26 = .ok (.aload_n 0, 1) := by decide +kernel
theorem dX11_ground_27 : decode cX11_ground 27 = .ok (.invokevirtual 162, 3) := by decide +kernel
theorem dX11_ground_30 : decode cX11_ground 30 = .ok (.aload_n 0, 1) := by decide +kernel
theorem dX11_ground_31 : decode cX11_ground 31 = .ok (.getfield 65, 3) := by decide +kernel
theorem dX11_ground_34 : decode cX11_ground 34 = .ok (.getfield 195, 3) := by decide +kernel
theorem dX11_ground_37 : decode cX11_ground 37 = .ok (.istore_n 2, 1) := by decide +kernel
theorem dX11_ground_38 : decode cX11_ground 38 = .ok (.aload_n 0, 1) := by decide +kernel
theorem dX11_ground_39 : decode cX11_ground 39 = .ok (.getfield 65, 3) := by decide +kernel
theorem dX11_ground_42 : decode cX11_ground 42 = .ok (.iload_n 1, 1) := by decide +kernel
theorem dX11_ground_43 : decode cX11_ground 43 = .ok (.putfield 195, 3) := by decide +kernel
theorem dX11_ground_46 : decode cX11_ground 46 = .ok (.iload_n 2, 1) := by decide +kernel
theorem dX11_ground_47 : decode cX11_ground 47 = .ok (.ireturn, 1) := by decide +kernel
set_option maxRecDepth 20000 in
theorem ggX11_undo_X1_become : GoodIn wsX11_undo wsX1_become := goodIn_r _ [10, 11, 12, 13, 14, 15, 16, 17, 18, 19, 20, 21, 22, 23, 24, 25, 39, 40, 41, 42, 43, 44, 45, 46, 47, 48, 49, 50, 51] (by decide +kernel) (by decide +kernel)
set_option maxRecDepth 20000 in
theorem gX11_undo_X1_become : GoodIn wsX11_undo (wsV RX11 148 RX1 yX1_become wsX1_become) := goodIn_app (goodIn_of _ (by decide +kernel)) ggX11_undo_X1_become
theorem dX11_undo_0 : decode cX11_undo 0 = .ok (.aload_n 0, 1) := by decide +kernel
theorem dX11_undo_1 : decode cX11_undo 1 = .ok (.getfield 152, 3) := by decide +kernel
theorem dX11_undo_4 : decode cX11_undo 4 = .ok (.ifCond .ne 6, 3) := by decide +kernel
theorem dX11_undo_7 : decode cX11_undo 7 = .ok (.ldc 158, 2) := by decide +kernel
theorem dX11_undo_9 : decode cX11_undo 9 = .ok (.ireturn, 1) := by decide +kernel
theorem dX11_undo_10 : decode cX11_undo 10 = .ok (.aload_n 0, 1) := by decide +kernel
theorem dX11_undo_11 : decode cX11_undo 11 = .ok (.dup, 1) := by decide +kernel
theorem dX11_undo_12 : decode cX11_undo 12 = .ok (.getfield 152, 3) := by decide +kernel
theorem dX11_undo_15 : decode cX11_undo 15 = .ok (.iconst 1, 1) := by decide +kernel
theorem dX11_undo_16 : decode cX11_undo 16 = .ok (.isub, 1) := by decide +kernel
theorem dX11_undo_17 : decode cX11_undo 17 = .ok (.putfield 152, 3) := by decide +kernel
theorem dX11_undo_20 : decode cX11_undo 20 = .ok (.aload_n 0, 1) := by decide +kernel
theorem dX11_undo_21 : decode cX11_undo 21 = .ok (.aload_n 0, 1) := by decide +kernel
theorem dX11_undo_22 : decode cX11_undo 22 = .ok (.getfield 198, 3) := by decide +kernel
theorem dX11_undo_25 : decode cX11_undo 25 = .ok (.bipush 24, 2) := by decide +kernel
theorem dX11_undo_27 : decode cX11_undo 27 = .ok (.iadd, 1) := by decide +kernel
theorem dX11_undo_28 : decode cX11_undo 28 = .ok (.iconst 1, 1) := by decide +kernel
theorem dX11_undo_29 : decode cX11_undo 29 = .ok (.isub, 1) := by decide +kernel
theorem dX11_undo_30 : decode cX11_undo 30 = .ok (.bipush 24, 2) := by decide +kernel
theorem dX11_undo_32 : decode cX11_undo 32 = .ok (.irem, 1) := by decide +kernel
theorem dX11_undo_33 : decode cX11_undo 33 = .ok (.putfield 198, 3) := by decide +kernel
theorem dX11_undo_36 : decode cX11_undo 36 = .ok (.aload_n 0, 1) := by decide +kernel
theorem dX11_undo_37 : decode cX11_undo 37 = .ok (.getfield 65, 3) := by decide +kernel
theorem dX11_undo_40 : decode cX11_undo 40 = .ok (.aload_n 0, 1) := by decide +kernel
theorem dX11_undo_41 : decode cX11_undo 41 = .ok (.getfield 37, 3) := by decide +kernel
theorem dX11_undo_44 : decode cX11_undo 44 = .ok (.aload_n 0, 1) := by decide +kernel
theorem dX11_undo_45 : decode cX11_undo 45 = .ok (.getfield 198, 3) := by decide +kernel
theorem dX11_undo_48 : decode cX11_undo 48 = .ok (.aaload, 1) := by decide +kernel
theorem dX11_undo_49 : decode cX11_undo 49 = .ok (.invokevirtual 148, 3) := by decide +kernel
theorem dX11_undo_52 : decode cX11_undo 52 = .ok (.aload_n 0, 1) := by decide +kernel
theorem dX11_undo_53 : decode cX11_undo 53 = .ok (.getfield 152, 3) := by decide +kernel
theorem dX11_undo_56 : decode cX11_undo 56 = .ok (.ireturn, 1) := by decide +kernel
set_option maxRecDepth 20000 in
theorem ggX11_turnip_X11_isTurnip : GoodIn wsX11_turnip wsX11_isTurnip := goodIn_r _ [13, 2, 14, 82, 83, 84, 85, 86, 87, 88, 89, 90, 91, 92, 93, 94, 95, 96, 97, 98, 99, 100, 101, 102, 103, 104, 105, 106, 107] (by decide +kernel) (by decide +kernel)
set_option maxRecDepth 20000 in
theorem gX11_turnip_X11_isTurnip : GoodIn wsX11_turnip (wsV RX11 177 RX11 yX11_isTurnip wsX11_isTurnip) := goodIn_app (goodIn_of _ (by decide +kernel)) ggX11_turnip_X11_isTurnip
set_option maxRecDepth 20000 in
theorem ggX11_turnip_X11_mateToTell : GoodIn wsX11_turnip wsX11_mateToTell := goodIn_r _ [17, 18] (by decide +kernel) (by decide +kernel)
set_option maxRecDepth 20000 in
theorem gX11_turnip_X11_mateToTell : GoodIn wsX11_turnip (va_wsS RX11 207 yX11_mateToTell wsX11_mateToTell) := goodIn_app (goodIn_of _ (by decide +kernel)) ggX11_turnip_X11_mateToTell
set_option maxRecDepth 20000 in
theorem ggX11_turnip_X1_hasFrost : GoodIn wsX11_turnip wsX1_hasFrost := goodIn_r _ [23, 24, 25, 95, 96, 97, 98, 99, 100, 101, 102, 103, 104, 105, 106, 107] (by decide +kernel) (by decide +kernel)
set_option maxRecDepth 20000 in
theorem gX11_turnip_X1_hasFrost : GoodIn wsX11_turnip (wsV RX11 165 RX1 yX1_hasFrost wsX1_hasFrost) := goodIn_app (goodIn_of _ (by decide +kernel)) ggX11_turnip_X1_hasFrost
set_option maxRecDepth 20000 in
theorem ggX11_turnip_X1_findGains : GoodIn wsX11_turnip wsX1_findGains := goodIn_r _ [29, 30, 31, 32, 33, 34, 35, 36, 37, 38, 22, 39, 40, 41, 42, 43, 44, 45, 46, 47, 48, 49, 50, 51, 52, 53, 54, 55, 56, 57, 58, 59, 60, 61, 62, 63, 64, 65, 66, 67, 68, 69, 70, 71, 72, 73, 74, 75, 76, 77, 78, 79, 80, 81, 95, 96, 97, 98, 99, 100, 101, 102, 103, 104, 105, 106, 107] (by decide +kernel) (by decide +kernel)
set_option maxRecDepth 20000 in
theorem gX11_turnip_X1_findGains : GoodIn wsX11_turnip (wsV RX11 210 RX1 yX1_findGains wsX1_findGains) := goodIn_app (goodIn_of _ (by decide +kernel)) ggX11_turnip_X1_findGains
theorem dX11_turnip_0 : decode cX11_turnip 0 = .ok (.aload_n 0, 1) := by decide +kernel
theorem dX11_turnip_1 : decode cX11_turnip 1 = .ok (.iload_n 1, 1) := by decide +kernel
theorem dX11_turnip_2 : decode cX11_turnip 2 = .ok (.invokevirtual 177, 3) := by decide +kernel
theorem dX11_turnip_5 : decode cX11_turnip 5 = .ok (.ifCond .ne 6, 3) := by decide +kernel
theorem dX11_turnip_8 : decode cX11_turnip 8 = .ok (.ldc 89, 2) := by decide +kernel
theorem dX11_turnip_10 : decode cX11_turnip 10 = .ok (.ireturn, 1) := by decide +kernel
theorem dX11_turnip_11 : decode cX11_turnip 11 = .ok (.iload_n 2, 1) := by decide +kernel
theorem dX11_turnip_12 : decode cX11_turnip 12 = .ok (.tableswitch 117 0 5 #[40, 50, 60, 70, 80, 93], 40) := by decide +kernel
theorem dX11_turnip_52 : decode cX11_turnip 52 = .ok (.aload_n 0, 1) := by decide +kernel
theorem dX11_turnip_53 : decode cX11_turnip 53 = .ok (.getfield 65, 3) := by decide +kernel
theorem dX11_turnip_56 : decode cX11_turnip 56 = .ok (.getfield 201, 3) := by decide +kernel
theorem dX11_turnip_59 : decode cX11_turnip 59 = .ok (.iload_n 1, 1) := by decide +kernel
theorem dX11_turnip_60 : decode cX11_turnip 60 = .ok (.iaload, 1) := by decide +kernel
theorem dX11_turnip_61 : decode cX11_turnip 61 = .ok (.ireturn, 1) := by decide +kernel
theorem dX11_turnip_62 : decode cX11_turnip 62 = .ok (.aload_n 0, 1) := by decide +kernel
theorem dX11_turnip_63 : decode cX11_turnip 63 = .ok (.getfield 65, 3) := by decide +kernel
theorem dX11_turnip_66 : decode cX11_turnip 66 = .ok (.getfield 204, 3) := by decide +kernel
theorem dX11_turnip_69 : decode cX11_turnip 69 = .ok (.iload_n 1, 1) := by decide +kernel
theorem dX11_turnip_70 : decode cX11_turnip 70 = .ok (.iaload, 1) := by decide +kernel
theorem dX11_turnip_71 : decode cX11_turnip 71 = .ok (.ireturn, 1) := by decide +kernel
theorem dX11_turnip_72 : decode cX11_turnip 72 = .ok (.aload_n 0, 1) := by decide +kernel
theorem dX11_turnip_73 : decode cX11_turnip 73 = .ok (.getfield 65, 3) := by decide +kernel
theorem dX11_turnip_76 : decode cX11_turnip 76 = .ok (.getfield 189, 3) := by decide +kernel
theorem dX11_turnip_79 : decode cX11_turnip 79 = .ok (.iload_n 1, 1) := by decide +kernel
theorem dX11_turnip_80 : decode cX11_turnip 80 = .ok (.iaload, 1) := by decide +kernel
theorem dX11_turnip_81 : decode cX11_turnip 81 = .ok (.ireturn, 1) := by decide +kernel
theorem dX11_turnip_82 : decode cX11_turnip 82 = .ok (.aload_n 0, 1) := by decide +kernel
theorem dX11_turnip_83 : decode cX11_turnip 83 = .ok (.getfield 65, 3) := by decide +kernel
theorem dX11_turnip_86 : decode cX11_turnip 86 = .ok (.getfield 192, 3) := by decide +kernel
theorem dX11_turnip_89 : decode cX11_turnip 89 = .ok (.iload_n 1, 1) := by decide +kernel
theorem dX11_turnip_90 : decode cX11_turnip 90 = .ok (.iaload, 1) := by decide +kernel
theorem dX11_turnip_91 : decode cX11_turnip 91 = .ok (.ireturn, 1) := by decide +kernel
theorem dX11_turnip_92 : decode cX11_turnip 92 = .ok (.aload_n 0, 1) := by decide +kernel
theorem dX11_turnip_93 : decode cX11_turnip 93 = .ok (.getfield 65, 3) := by decide +kernel
theorem dX11_turnip_96 : decode cX11_turnip 96 = .ok (.getfield 180, 3) := by decide +kernel
theorem dX11_turnip_99 : decode cX11_turnip 99 = .ok (.iload_n 1, 1) := by decide +kernel
theorem dX11_turnip_100 : decode cX11_turnip 100 = .ok (.iaload, 1) := by decide +kernel
theorem dX11_turnip_101 : decode cX11_turnip 101 = .ok (.invokestatic 207, 3) := by decide +kernel
theorem dX11_turnip_104 : decode cX11_turnip 104 = .ok (.ireturn, 1) := by decide +kernel
theorem dX11_turnip_105 : decode cX11_turnip 105 = .ok (.aload_n 0, 1) := by decide +kernel
theorem dX11_turnip_106 : decode cX11_turnip 106 = .ok (.getfield 65, 3) := by decide +kernel
theorem dX11_turnip_109 : decode cX11_turnip 109 = .ok (.aload_n 0, 1) := by decide +kernel
theorem dX11_turnip_110 : decode cX11_turnip 110 = .ok (.getfield 65, 3) := by decide +kernel
theorem dX11_turnip_113 : decode cX11_turnip 113 = .ok (.invokevirtual 165, 3) := by decide +kernel
theorem dX11_turnip_116 : decode cX11_turnip 116 = .ok (.invokevirtual 210, 3) := by decide +kernel
theorem dX11_turnip_119 : decode cX11_turnip 119 = .ok (.aload_n 0, 1) := by decide +kernel
theorem dX11_turnip_120 : decode cX11_turnip 120 = .ok (.getfield 65, 3) := by decide +kernel
theorem dX11_turnip_123 : decode cX11_turnip 123 = .ok (.getfield 213, 3) := by decide +kernel
theorem dX11_turnip_126 : decode cX11_turnip 126 = .ok (.iload_n 1, 1) := by decide +kernel
theorem dX11_turnip_127 : decode cX11_turnip 127 = .ok (.iaload, 1) := by decide +kernel
theorem dX11_turnip_128 : decode cX11_turnip 128 = .ok (.ireturn, 1) := by decide +kernel
theorem dX11_turnip_129 : decode cX11_turnip 129 = .ok (.ldc 89, 2) := by decide +kernel
theorem dX11_turnip_131 : decode cX11_turnip 131 = .ok (.ireturn, 1) := by decide +kernel
set_option maxRecDepth 20000 in
theorem ggX11_place_X11_isTurnip : GoodIn wsX11_place wsX11_isTurnip := goodIn_r _ [8, 1, 9, 10, 11, 12, 13, 14, 15, 16, 17, 18, 19, 20, 21, 22, 23, 24, 25, 26, 27, 28, 29, 30, 31, 32, 33, 34, 35] (by decide +kernel) (by decide +kernel)
set_option maxRecDepth 20000 in
theorem gX11_place_X11_isTurnip : GoodIn wsX11_place (wsV RX11 177 RX11 yX11_isTurnip wsX11_isTurnip) := goodIn_app (goodIn_of _ (by decide +kernel)) ggX11_place_X11_isTurnip
theorem dX11_place_0 : decode cX11_place 0 = .ok (.aload_n 0, 1) := by decide +kernel
theorem dX11_place_1 : decode cX11_place 1 = .ok (.iload_n 1, 1) := by decide +kernel
theorem dX11_place_2 : decode cX11_place 2 = .ok (.invokevirtual 177, 3) := by decide +kernel
theorem dX11_place_5 : decode cX11_place 5 = .ok (.ifCond .eq 15, 3) := by decide +kernel
theorem dX11_place_8 : decode cX11_place 8 = .ok (.aload_n 0, 1) := by decide +kernel
theorem dX11_place_9 : decode cX11_place 9 = .ok (.getfield 65, 3) := by decide +kernel
theorem dX11_place_12 : decode cX11_place 12 = .ok (.getfield 216, 3) := by decide +kernel
theorem dX11_place_15 : decode cX11_place 15 = .ok (.iload_n 1, 1) := by decide +kernel
theorem dX11_place_16 : decode cX11_place 16 = .ok (.iaload, 1) := by decide +kernel
theorem dX11_place_17 : decode cX11_place 17 = .ok (.goto 5, 3) := by decide +kernel
theorem dX11_place_20 : decode cX11_place 20 = .ok (.ldc 89, 2) := by decide +kernel
theorem dX11_place_22 : decode cX11_place 22 = .ok (.ireturn, 1) := by decide +kernel
set_option maxRecDepth 20000 in
theorem ggX11_ahead_X11_isTurnip : GoodIn wsX11_ahead wsX11_isTurnip := goodIn_r _ [9, 10, 11, 104, 105, 106, 107, 108, 109, 110, 111, 112, 113, 114, 115, 116, 117, 118, 119, 120, 121, 122, 123, 124, 125, 126, 127, 128, 129] (by decide +kernel) (by decide +kernel)
set_option maxRecDepth 20000 in
theorem gX11_ahead_X11_isTurnip : GoodIn wsX11_ahead (wsV RX11 177 RX11 yX11_isTurnip wsX11_isTurnip) := goodIn_app (goodIn_of _ (by decide +kernel)) ggX11_ahead_X11_isTurnip
set_option maxRecDepth 20000 in
theorem ggX11_ahead_X11_outside : GoodIn wsX11_ahead wsX11_outside := goodIn_r _ [14] (by decide +kernel) (by decide +kernel)
set_option maxRecDepth 20000 in
theorem gX11_ahead_X11_outside : GoodIn wsX11_ahead (va_wsS RX11 85 yX11_outside wsX11_outside) := goodIn_app (goodIn_of _ (by decide +kernel)) ggX11_ahead_X11_outside
set_option maxRecDepth 20000 in
theorem ggX11_ahead_X7_afterYears : GoodIn wsX11_ahead wsX7_afterYears := goodIn_r _ [19, 20, 21, 22, 23, 24, 25, 26, 27, 28, 29, 30, 31, 32, 33, 34, 35, 36, 37, 38, 39, 40, 41, 42, 43, 44, 45, 46, 47, 48, 49, 50, 51, 52, 53, 54, 55, 56, 57, 58, 59, 60, 61, 62, 63, 64, 65, 66, 67, 68, 69, 70, 71, 72, 73, 74, 75, 76, 77, 78, 79, 80, 81, 82, 83, 84, 85, 86, 87, 88, 89, 90, 91, 92, 93, 94, 95, 96, 97, 98, 99, 100, 101, 102, 103, 130, 131, 132, 133, 134, 135, 136, 137, 117, 118, 119, 120, 121, 122, 123, 124, 125, 126, 127, 128, 129] (by decide +kernel) (by decide +kernel)
set_option maxRecDepth 20000 in
theorem gX11_ahead_X7_afterYears : GoodIn wsX11_ahead (wsV RX11 218 RX7 yX7_afterYears wsX7_afterYears) := goodIn_app (goodIn_of _ (by decide +kernel)) ggX11_ahead_X7_afterYears
theorem dX11_ahead_0 : decode cX11_ahead 0 = .ok (.aload_n 0, 1) := by decide +kernel
theorem dX11_ahead_1 : decode cX11_ahead 1 = .ok (.iload_n 1, 1) := by decide +kernel
theorem dX11_ahead_2 : decode cX11_ahead 2 = .ok (.invokevirtual 177, 3) := by decide +kernel
theorem dX11_ahead_5 : decode cX11_ahead 5 = .ok (.ifCond .eq 22, 3) := by decide +kernel
theorem dX11_ahead_8 : decode cX11_ahead 8 = .ok (.iload_n 2, 1) := by decide +kernel
theorem dX11_ahead_9 : decode cX11_ahead 9 = .ok (.iconst 0, 1) := by decide +kernel
theorem dX11_ahead_10 : decode cX11_ahead 10 = .ok (.bipush 60, 2) := by decide +kernel
theorem dX11_ahead_12 : decode cX11_ahead 12 = .ok (.invokestatic 85, 3) := by decide +kernel
theorem dX11_ahead_15 : decode cX11_ahead 15 = .ok (.ifCond .ne 12, 3) := by decide +kernel
theorem dX11_ahead_18 : decode cX11_ahead 18 = .ok (.iload_n 3, 1) := by decide +kernel
theorem dX11_ahead_19 : decode cX11_ahead 19 = .ok (.iconst 0, 1) := by decide +kernel
theorem dX11_ahead_20 : decode cX11_ahead 20 = .ok (.iconst 1, 1) := by decide +kernel
theorem dX11_ahead_21 : decode cX11_ahead 21 = .ok (.invokestatic 85, 3) := by decide +kernel
theorem dX11_ahead_24 : decode cX11_ahead 24 = .ok (.ifCond .eq 6, 3) := by decide +kernel
theorem dX11_ahead_27 : decode cX11_ahead 27 = .ok (.ldc 89, 2) := by decide +kernel
theorem dX11_ahead_29 : decode cX11_ahead 29 = .ok (.ireturn, 1) := by decide +kernel
theorem dX11_ahead_30 : decode cX11_ahead 30 = .ok (.aload_n 0, 1) := by decide +kernel
theorem dX11_ahead_31 : decode cX11_ahead 31 = .ok (.getfield 77, 3) := by decide +kernel
theorem dX11_ahead_34 : decode cX11_ahead 34 = .ok (.iload_n 2, 1) := by decide +kernel
theorem dX11_ahead_35 : decode cX11_ahead 35 = .ok (.invokevirtual 218, 3) := by decide +kernel
theorem dX11_ahead_38 : decode cX11_ahead 38 = .ok (.astore 4, 2) := by decide +kernel
theorem dX11_ahead_40 : decode cX11_ahead 40 = .ok (.iload_n 3, 1) := by decide +kernel
theorem dX11_ahead_41 : decode cX11_ahead 41 = .ok (.ifCond .ne 13, 3) := by decide +kernel
theorem dX11_ahead_44 : decode cX11_ahead 44 = .ok (.aload 4, 2) := by decide +kernel
theorem dX11_ahead_46 : decode cX11_ahead 46 = .ok (.getfield 201, 3) := by decide +kernel
theorem dX11_ahead_49 : decode cX11_ahead 49 = .ok (.iload_n 1, 1) := by decide +kernel
theorem dX11_ahead_50 : decode cX11_ahead 50 = .ok (.iaload, 1) := by decide +kernel
theorem dX11_ahead_51 : decode cX11_ahead 51 = .ok (.goto 10, 3) := by decide +kernel
theorem dX11_ahead_54 : decode cX11_ahead 54 = .ok (.aload 4, 2) := by decide +kernel
theorem dX11_ahead_56 : decode cX11_ahead 56 = .ok (.getfield 204, 3) := by decide +kernel
theorem dX11_ahead_59 : decode cX11_ahead 59 = .ok (.iload_n 1, 1) := by decide +kernel
theorem dX11_ahead_60 : decode cX11_ahead 60 = .ok (.iaload, 1) := by decide +kernel
theorem dX11_ahead_61 : decode cX11_ahead 61 = .ok (.ireturn, 1) := by decide +kernel
set_option maxRecDepth 20000 in
theorem ggX11_risen_X11_isTurnip : GoodIn wsX11_risen wsX11_isTurnip := goodIn_r _ [7, 8, 9, 104, 105, 106, 107, 108, 109, 110, 111, 112, 113, 114, 115, 116, 117, 118, 119, 120, 121, 122, 123, 124, 125, 126, 127, 128, 129] (by decide +kernel) (by decide +kernel)
set_option maxRecDepth 20000 in
theorem gX11_risen_X11_isTurnip : GoodIn wsX11_risen (wsV RX11 177 RX11 yX11_isTurnip wsX11_isTurnip) := goodIn_app (goodIn_of _ (by decide +kernel)) ggX11_risen_X11_isTurnip
set_option maxRecDepth 20000 in
theorem ggX11_risen_X11_outside : GoodIn wsX11_risen wsX11_outside := goodIn_r _ [12] (by decide +kernel) (by decide +kernel)
set_option maxRecDepth 20000 in
theorem gX11_risen_X11_outside : GoodIn wsX11_risen (va_wsS RX11 85 yX11_outside wsX11_outside) := goodIn_app (goodIn_of _ (by decide +kernel)) ggX11_risen_X11_outside
set_option maxRecDepth 20000 in
theorem ggX11_risen_X7_yearsUntil : GoodIn wsX11_risen wsX7_yearsUntil := goodIn_r _ [17, 18, 19, 20, 21, 22, 23, 24, 25, 26, 27, 28, 29, 30, 31, 32, 33, 34, 35, 36, 37, 38, 39, 40, 41, 42, 43, 44, 45, 46, 47, 48, 49, 50, 51, 52, 53, 54, 55, 56, 57, 58, 59, 60, 61, 62, 63, 64, 65, 66, 67, 68, 69, 70, 71, 72, 73, 74, 75, 76, 77, 78, 79, 80, 81, 82, 83, 84, 85, 86, 87, 88, 89, 90, 91, 92, 93, 94, 95, 96, 97, 98, 99, 100, 101, 102, 103, 130, 131, 132, 133, 134, 135, 136, 137, 117, 118, 119, 120, 121, 122, 123, 124, 125, 126, 127, 128, 129] (by decide +kernel) (by decide +kernel)
set_option maxRecDepth 20000 in
theorem gX11_risen_X7_yearsUntil : GoodIn wsX11_risen (wsV RX11 222 RX7 yX7_yearsUntil wsX7_yearsUntil) := goodIn_app (goodIn_of _ (by decide +kernel)) ggX11_risen_X7_yearsUntil
theorem dX11_risen_0 : decode cX11_risen 0 = .ok (.aload_n 0, 1) := by decide +kernel
theorem dX11_risen_1 : decode cX11_risen 1 = .ok (.iload_n 1, 1) := by decide +kernel
theorem dX11_risen_2 : decode cX11_risen 2 = .ok (.invokevirtual 177, 3) := by decide +kernel
theorem dX11_risen_5 : decode cX11_risen 5 = .ok (.ifCond .eq 13, 3) := by decide +kernel
theorem dX11_risen_8 : decode cX11_risen 8 = .ok (.iload_n 2, 1) := by decide +kernel
theorem dX11_risen_9 : decode cX11_risen 9 = .ok (.iconst 0, 1) := by decide +kernel
theorem dX11_risen_10 : decode cX11_risen 10 = .ok (.bipush 9, 2) := by decide +kernel
theorem dX11_risen_12 : decode cX11_risen 12 = .ok (.invokestatic 85, 3) := by decide +kernel
theorem dX11_risen_15 : decode cX11_risen 15 = .ok (.ifCond .eq 6, 3) := by decide +kernel
theorem dX11_risen_18 : decode cX11_risen 18 = .ok (.ldc 89, 2) := by decide +kernel
theorem dX11_risen_20 : decode cX11_risen 20 = .ok (.ireturn, 1) := by decide +kernel
theorem dX11_risen_21 : decode cX11_risen 21 = .ok (.aload_n 0, 1) := by decide +kernel
theorem dX11_risen_22 : decode cX11_risen 22 = .ok (.getfield 77, 3) := by decide +kernel
theorem dX11_risen_25 : decode cX11_risen 25 = .ok (.iload_n 1, 1) := by decide +kernel
theorem dX11_risen_26 : decode cX11_risen 26 = .ok (.iload_n 2, 1) := by decide +kernel
theorem dX11_risen_27 : decode cX11_risen 27 = .ok (.invokevirtual 222, 3) := by decide +kernel
theorem dX11_risen_30 : decode cX11_risen 30 = .ok (.ireturn, 1) := by decide +kernel
set_option maxRecDepth 20000 in
theorem ggX11_squire_X11_outside : GoodIn wsX11_squire wsX11_outside := goodIn_r _ [11] (by decide +kernel) (by decide +kernel)
set_option maxRecDepth 20000 in
theorem gX11_squire_X11_outside : GoodIn wsX11_squire (va_wsS RX11 85 yX11_outside wsX11_outside) := goodIn_app (goodIn_of _ (by decide +kernel)) ggX11_squire_X11_outside
set_option maxRecDepth 20000 in
theorem ggX11_squire_X7_firstSquire : GoodIn wsX11_squire wsX7_firstSquire := goodIn_r _ [16, 17, 18, 19, 20, 21, 22, 23, 24, 25, 26, 27, 28, 29, 30, 31, 32, 33, 34, 35, 36, 37, 38, 39, 40, 41, 42, 43, 44, 45, 46, 47, 48, 49, 50, 51, 52, 53, 54, 55, 56, 57, 58, 59, 60, 61, 62, 63, 64, 65, 66, 67, 68, 69, 70, 71, 72, 73, 74, 75, 76, 77, 78, 79, 80, 81, 82, 83, 84, 85, 86, 87, 88, 89, 90, 91, 92, 93, 94, 95, 96, 97, 98, 99, 100, 101, 102, 103, 130, 131, 132, 133, 134, 135, 136, 137, 117, 118, 119, 120, 121, 122, 123, 124, 125, 126, 127, 128, 129] (by decide +kernel) (by decide +kernel)
set_option maxRecDepth 20000 in
theorem gX11_squire_X7_firstSquire : GoodIn wsX11_squire (wsV RX11 226 RX7 yX7_firstSquire wsX7_firstSquire) := goodIn_app (goodIn_of _ (by decide +kernel)) ggX11_squire_X7_firstSquire
theorem dX11_squire_0 : decode cX11_squire 0 = .ok (.aload_n 0, 1) := by decide +kernel
theorem dX11_squire_1 : decode cX11_squire 1 = .ok (.getfield 65, 3) := by decide +kernel
theorem dX11_squire_4 : decode cX11_squire 4 = .ok (.getfield 155, 3) := by decide +kernel
theorem dX11_squire_7 : decode cX11_squire 7 = .ok (.ifCond .ne 6, 3) := by decide +kernel
theorem dX11_squire_10 : decode cX11_squire 10 = .ok (.ldc 158, 2) := by decide +kernel
theorem dX11_squire_12 : decode cX11_squire 12 = .ok (.ireturn, 1) := by decide +kernel
theorem dX11_squire_13 : decode cX11_squire 13 = .ok (.iload_n 1, 1) := by decide +kernel
theorem dX11_squire_14 : decode cX11_squire 14 = .ok (.iconst 0, 1) := by decide +kernel
theorem dX11_squire_15 : decode cX11_squire 15 = .ok (.iconst 1, 1) := by decide +kernel
theorem dX11_squire_16 : decode cX11_squire 16 = .ok (.invokestatic 85, 3) := by decide +kernel
theorem dX11_squire_19 : decode cX11_squire 19 = .ok (.ifCond .eq 6, 3) := by decide +kernel
theorem dX11_squire_22 : decode cX11_squire 22 = .ok (.ldc 89, 2) := by decide +kernel
theorem dX11_squire_24 : decode cX11_squire 24 = .ok (.ireturn, 1) := by decide +kernel
theorem dX11_squire_25 : decode cX11_squire 25 = .ok (.aload_n 0, 1) := by decide +kernel
theorem dX11_squire_26 : decode cX11_squire 26 = .ok (.getfield 77, 3) := by decide +kernel
theorem dX11_squire_29 : decode cX11_squire 29 = .ok (.invokevirtual 226, 3) := by decide +kernel
theorem dX11_squire_32 : decode cX11_squire 32 = .ok (.istore_n 2, 1) := by decide +kernel
theorem dX11_squire_33 : decode cX11_squire 33 = .ok (.iload_n 2, 1) := by decide +kernel
theorem dX11_squire_34 : decode cX11_squire 34 = .ok (.iconst (-1), 1) := by decide +kernel
theorem dX11_squire_35 : decode cX11_squire 35 = .ok (.if_icmp .ne 6, 3) := by decide +kernel
theorem dX11_squire_38 : decode cX11_squire 38 = .ok (.ldc 229, 2) := by decide +kernel
theorem dX11_squire_40 : decode cX11_squire 40 = .ok (.ireturn, 1) := by decide +kernel
theorem dX11_squire_41 : decode cX11_squire 41 = .ok (.iload_n 1, 1) := by decide +kernel
theorem dX11_squire_42 : decode cX11_squire 42 = .ok (.ifCond .ne 7, 3) := by decide +kernel
theorem dX11_squire_45 : decode cX11_squire 45 = .ok (.iload_n 2, 1) := by decide +kernel
theorem dX11_squire_46 : decode cX11_squire 46 = .ok (.goto 10, 3) := by decide +kernel
theorem dX11_squire_49 : decode cX11_squire 49 = .ok (.aload_n 0, 1) := by decide +kernel
theorem dX11_squire_50 : decode cX11_squire 50 = .ok (.getfield 77, 3) := by decide +kernel
theorem dX11_squire_53 : decode cX11_squire 53 = .ok (.getfield 230, 3) := by decide +kernel
theorem dX11_squire_56 : decode cX11_squire 56 = .ok (.ireturn, 1) := by decide +kernel
set_option maxRecDepth 20000 in
theorem ggX11_pairs_X11_outside : GoodIn wsX11_pairs wsX11_outside := goodIn_r _ [11] (by decide +kernel) (by decide +kernel)
set_option maxRecDepth 20000 in
theorem gX11_pairs_X11_outside : GoodIn wsX11_pairs (va_wsS RX11 85 yX11_outside wsX11_outside) := goodIn_app (goodIn_of _ (by decide +kernel)) ggX11_pairs_X11_outside
set_option maxRecDepth 20000 in
theorem ggX11_pairs_X11_isTurnip : GoodIn wsX11_pairs wsX11_isTurnip := goodIn_r _ [15, 1, 2, 135, 136, 137, 138, 139, 140, 141, 142, 143, 144, 145, 146, 147, 148, 149, 150, 151, 152, 153, 154, 155, 156, 157, 158, 159, 160] (by decide +kernel) (by decide +kernel)
set_option maxRecDepth 20000 in
theorem gX11_pairs_X11_isTurnip : GoodIn wsX11_pairs (wsV RX11 177 RX11 yX11_isTurnip wsX11_isTurnip) := goodIn_app (goodIn_of _ (by decide +kernel)) ggX11_pairs_X11_isTurnip
set_option maxRecDepth 20000 in
theorem ggX11_pairs_X7_findBestPairs : GoodIn wsX11_pairs wsX7_findBestPairs := goodIn_r _ [20, 21, 22, 23, 24, 25, 26, 27, 28, 29, 19, 30, 31, 32, 33, 34, 35, 36, 37, 38, 39, 40, 41, 42, 43, 44, 45, 46, 47, 48, 49, 50, 51, 52, 53, 54, 55, 56, 57, 58, 59, 60, 61, 62, 63, 64, 65, 66, 67, 68, 69, 70, 71, 72, 73, 74, 75, 76, 77, 78, 79, 80, 81, 82, 83, 84, 85, 86, 87, 88, 89, 90, 91, 92, 93, 94, 95, 96, 97, 98, 99, 100, 101, 102, 103, 104, 105, 106, 107, 108, 109, 110, 111, 112, 113, 114, 115, 116, 117, 118, 119, 120, 121, 122, 123, 124, 125, 126, 127, 128, 129, 130, 161, 162, 163, 164, 165, 166, 167, 168, 148, 149, 150, 151, 152, 153, 154, 155, 156, 157, 158, 159, 160] (by decide +kernel) (by decide +kernel)
set_option maxRecDepth 20000 in
theorem gX11_pairs_X7_findBestPairs : GoodIn wsX11_pairs (wsV RX11 233 RX7 yX7_findBestPairs wsX7_findBestPairs) := goodIn_app (goodIn_of _ (by decide +kernel)) ggX11_pairs_X7_findBestPairs
set_option maxRecDepth 20000 in
theorem ggX11_pairs_X11_mateToTell : GoodIn wsX11_pairs wsX11_mateToTell := goodIn_r _ [133, 134] (by decide +kernel) (by decide +kernel)
set_option maxRecDepth 20000 in
theorem gX11_pairs_X11_mateToTell : GoodIn wsX11_pairs (va_wsS RX11 207 yX11_mateToTell wsX11_mateToTell) := goodIn_app (goodIn_of _ (by decide +kernel)) ggX11_pairs_X11_mateToTell
theorem dX11_pairs_0 : decode cX11_pairs 0 = .ok (.aload_n 0, 1) := by decide +kernel
theorem dX11_pairs_1 : decode cX11_pairs 1 = .ok (.getfield 65, 3) := by decide +kernel
theorem dX11_pairs_4 : decode cX11_pairs 4 = .ok (.getfield 155, 3) := by decide +kernel
theorem dX11_pairs_7 : decode cX11_pairs 7 = .ok (.ifCond .ne 6, 3) := by decide +kernel
theorem dX11_pairs_10 : decode cX11_pairs 10 = .ok (.ldc 158, 2) := by decide +kernel
theorem dX11_pairs_12 : decode cX11_pairs 12 = .ok (.ireturn, 1) := by decide +kernel
theorem dX11_pairs_13 : decode cX11_pairs 13 = .ok (.iload_n 1, 1) := by decide +kernel
theorem dX11_pairs_14 : decode cX11_pairs 14 = .ok (.iconst 1, 1) := by decide +kernel
theorem dX11_pairs_15 : decode cX11_pairs 15 = .ok (.bipush 20, 2) := by decide +kernel
theorem dX11_pairs_17 : decode cX11_pairs 17 = .ok (.invokestatic 85, 3) := by decide +kernel
theorem dX11_pairs_20 : decode cX11_pairs 20 = .ok (.ifCond .ne 16, 3) := by decide +kernel
theorem dX11_pairs_23 : decode cX11_pairs 23 = .ok (.iload_n 2, 1) := by decide +kernel
theorem dX11_pairs_24 : decode cX11_pairs 24 = .ok (.iconst (-1), 1) := by decide +kernel
theorem dX11_pairs_25 : decode cX11_pairs 25 = .ok (.if_icmp .eq 14, 3) := by decide +kernel
theorem dX11_pairs_28 : decode cX11_pairs 28 = .ok (.aload_n 0, 1) := by decide +kernel
theorem dX11_pairs_29 : decode cX11_pairs 29 = .ok (.iload_n 2, 1) := by decide +kernel
theorem dX11_pairs_30 : decode cX11_pairs 30 = .ok (.invokevirtual 177, 3) := by decide +kernel
theorem dX11_pairs_33 : decode cX11_pairs 33 = .ok (.ifCond .ne 6, 3) := by decide +kernel
theorem dX11_pairs_36 : decode cX11_pairs 36 = .ok (.ldc 89, 2) := by decide +kernel
theorem dX11_pairs_38 : decode cX11_pairs 38 = .ok (.ireturn, 1) := by decide +kernel
theorem dX11_pairs_39 : decode cX11_pairs 39 = .ok (.aload_n 0, 1) := by decide +kernel
theorem dX11_pairs_40 : decode cX11_pairs 40 = .ok (.getfield 77, 3) := by decide +kernel
theorem dX11_pairs_43 : decode cX11_pairs 43 = .ok (.iload_n 1, 1) := by decide +kernel
theorem dX11_pairs_44 : decode cX11_pairs 44 = .ok (.invokevirtual 233, 3) := by decide +kernel
theorem dX11_pairs_47 : decode cX11_pairs 47 = .ok (.iload_n 2, 1) := by decide +kernel
theorem dX11_pairs_48 : decode cX11_pairs 48 = .ok (.iconst (-1), 1) := by decide +kernel
theorem dX11_pairs_49 : decode cX11_pairs 49 = .ok (.if_icmp .ne 13, 3) := by decide +kernel
theorem dX11_pairs_52 : decode cX11_pairs 52 = .ok (.aload_n 0, 1) := by decide +kernel
theorem dX11_pairs_53 : decode cX11_pairs 53 = .ok (.getfield 77, 3) := by decide +kernel
theorem dX11_pairs_56 : decode cX11_pairs 56 = .ok (.getfield 236, 3) := by decide +kernel
theorem dX11_pairs_59 : decode cX11_pairs 59 = .ok (.goto 15, 3) := by decide +kernel
theorem dX11_pairs_62 : decode cX11_pairs 62 = .ok (.aload_n 0, 1) := by decide +kernel
theorem dX11_pairs_63 : decode cX11_pairs 63 = .ok (.getfield 77, 3) := by decide +kernel
theorem dX11_pairs_66 : decode cX11_pairs 66 = .ok (.getfield 239, 3) := by decide +kernel
theorem dX11_pairs_69 : decode cX11_pairs 69 = .ok (.iload_n 2, 1) := by decide +kernel
theorem dX11_pairs_70 : decode cX11_pairs 70 = .ok (.iaload, 1) := by decide +kernel
theorem dX11_pairs_71 : decode cX11_pairs 71 = .ok (.invokestatic 207, 3) := by decide +kernel
theorem dX11_pairs_74 : decode cX11_pairs 74 = .ok (.ireturn, 1) := by decide +kernel
set_option maxRecDepth 20000 in
theorem ggX11_change_X11_outside : GoodIn wsX11_change wsX11_outside := goodIn_r _ [11] (by decide +kernel) (by decide +kernel)
set_option maxRecDepth 20000 in
theorem gX11_change_X11_outside : GoodIn wsX11_change (va_wsS RX11 85 yX11_outside wsX11_outside) := goodIn_app (goodIn_of _ (by decide +kernel)) ggX11_change_X11_outside
set_option maxRecDepth 20000 in
theorem ggX11_change_X7_bestChange : GoodIn wsX11_change wsX7_bestChange := goodIn_r _ [16, 17, 18, 19, 20, 21, 22, 23, 24, 25, 26, 27, 28, 29, 30, 31, 32, 33, 34, 35, 36, 37, 38, 39, 40, 41, 42, 43, 44, 45, 46, 47, 48, 49, 50, 51, 52, 53, 54, 55, 56, 57, 58, 59, 60, 61, 62, 63, 64, 65, 66, 67, 68, 69, 70, 71, 72, 73, 74, 75, 76, 77, 78, 79, 80, 81, 82, 83, 84, 85, 86, 87, 88, 89, 90, 91, 92, 93, 94, 95, 96, 97, 98, 99, 100, 101, 102, 103, 104, 105, 106, 107, 108, 109, 110, 111, 112, 113, 114, 141, 142, 143, 144, 145, 146, 147, 148, 128, 129, 130, 131, 132, 133, 134, 135, 136, 137, 138, 139, 140] (by decide +kernel) (by decide +kernel)
set_option maxRecDepth 20000 in
theorem gX11_change_X7_bestChange : GoodIn wsX11_change (wsV RX11 242 RX7 yX7_bestChange wsX7_bestChange) := goodIn_app (goodIn_of _ (by decide +kernel)) ggX11_change_X7_bestChange
theorem dX11_change_0 : decode cX11_change 0 = .ok (.aload_n 0, 1) := by decide +kernel
theorem dX11_change_1 : decode cX11_change 1 = .ok (.getfield 65, 3) := by decide +kernel
theorem dX11_change_4 : decode cX11_change 4 = .ok (.getfield 155, 3) := by decide +kernel
theorem dX11_change_7 : decode cX11_change 7 = .ok (.ifCond .ne 6, 3) := by decide +kernel
theorem dX11_change_10 : decode cX11_change 10 = .ok (.ldc 158, 2) := by decide +kernel
theorem dX11_change_12 : decode cX11_change 12 = .ok (.ireturn, 1) := by decide +kernel
theorem dX11_change_13 : decode cX11_change 13 = .ok (.iload_n 1, 1) := by decide +kernel
theorem dX11_change_14 : decode cX11_change 14 = .ok (.iconst 1, 1) := by decide +kernel
theorem dX11_change_15 : decode cX11_change 15 = .ok (.bipush 30, 2) := by decide +kernel
theorem dX11_change_17 : decode cX11_change 17 = .ok (.invokestatic 85, 3) := by decide +kernel
theorem dX11_change_20 : decode cX11_change 20 = .ok (.ifCond .ne 12, 3) := by decide +kernel
theorem dX11_change_23 : decode cX11_change 23 = .ok (.iload_n 2, 1) := by decide +kernel
theorem dX11_change_24 : decode cX11_change 24 = .ok (.iconst 0, 1) := by decide +kernel
theorem dX11_change_25 : decode cX11_change 25 = .ok (.iconst 1, 1) := by decide +kernel
theorem dX11_change_26 : decode cX11_change 26 = .ok (.invokestatic 85, 3) := by decide +kernel
theorem dX11_change_29 : decode cX11_change 29 = .ok (.ifCond .eq 6, 3) := by decide +kernel
theorem dX11_change_32 : decode cX11_change 32 = .ok (.ldc 89, 2) := by decide +kernel
theorem dX11_change_34 : decode cX11_change 34 = .ok (.ireturn, 1) := by decide +kernel
theorem dX11_change_35 : decode cX11_change 35 = .ok (.aload_n 0, 1) := by decide +kernel
theorem dX11_change_36 : decode cX11_change 36 = .ok (.getfield 65, 3) := by decide +kernel
theorem dX11_change_39 : decode cX11_change 39 = .ok (.getfield 155, 3) := by decide +kernel
theorem dX11_change_42 : decode cX11_change 42 = .ok (.iconst 2, 1) := by decide +kernel
theorem dX11_change_43 : decode cX11_change 43 = .ok (.if_icmp .ge 6, 3) := by decide +kernel
theorem dX11_change_46 : decode cX11_change 46 = .ok (.ldc 229, 2) := by decide +kernel
theorem dX11_change_48 : decode cX11_change 48 = .ok (.ireturn, 1) := by decide +kernel
theorem dX11_change_49 : decode cX11_change 49 = .ok (.aload_n 0, 1) := by decide +kernel
theorem dX11_change_50 : decode cX11_change 50 = .ok (.getfield 77, 3) := by decide +kernel
theorem dX11_change_53 : decode cX11_change 53 = .ok (.iload_n 1, 1) := by decide +kernel
theorem dX11_change_54 : decode cX11_change 54 = .ok (.invokevirtual 242, 3) := by decide +kernel
theorem dX11_change_57 : decode cX11_change 57 = .ok (.istore_n 3, 1) := by decide +kernel
theorem dX11_change_58 : decode cX11_change 58 = .ok (.iload_n 2, 1) := by decide +kernel
theorem dX11_change_59 : decode cX11_change 59 = .ok (.ifCond .ne 7, 3) := by decide +kernel
theorem dX11_change_62 : decode cX11_change 62 = .ok (.iload_n 3, 1) := by decide +kernel
theorem dX11_change_63 : decode cX11_change 63 = .ok (.goto 10, 3) := by decide +kernel
theorem dX11_change_66 : decode cX11_change 66 = .ok (.aload_n 0, 1) := by decide +kernel
theorem dX11_change_67 : decode cX11_change 67 = .ok (.getfield 77, 3) := by decide +kernel
theorem dX11_change_70 : decode cX11_change 70 = .ok (.getfield 236, 3) := by decide +kernel
theorem dX11_change_73 : decode cX11_change 73 = .ok (.ireturn, 1) := by decide +kernel
set_option maxRecDepth 20000 in
theorem ggX11_power_X11_isTurnip : GoodIn wsX11_power wsX11_isTurnip := goodIn_r _ [7, 1, 8, 24, 25, 26, 27, 28, 29, 30, 31, 32, 33, 34, 35, 36, 37, 38, 39, 40, 41, 42, 43, 44, 45, 46, 47, 48, 49] (by decide +kernel) (by decide +kernel)
set_option maxRecDepth 20000 in
theorem gX11_power_X11_isTurnip : GoodIn wsX11_power (wsV RX11 177 RX11 yX11_isTurnip wsX11_isTurnip) := goodIn_app (goodIn_of _ (by decide +kernel)) ggX11_power_X11_isTurnip
set_option maxRecDepth 20000 in
theorem ggX11_power_X1_turnedBy : GoodIn wsX11_power wsX1_turnedBy := goodIn_r _ [13, 14, 15, 16, 17, 18, 12, 19, 20, 21, 22, 23, 37, 38, 39, 40, 41, 42, 43, 44, 45, 46, 47, 48, 49] (by decide +kernel) (by decide +kernel)
set_option maxRecDepth 20000 in
theorem gX11_power_X1_turnedBy : GoodIn wsX11_power (wsV RX11 245 RX1 yX1_turnedBy wsX1_turnedBy) := goodIn_app (goodIn_of _ (by decide +kernel)) ggX11_power_X1_turnedBy
theorem dX11_power_0 : decode cX11_power 0 = .ok (.aload_n 0, 1) := by decide +kernel
theorem dX11_power_1 : decode cX11_power 1 = .ok (.iload_n 1, 1) := by decide +kernel
theorem dX11_power_2 : decode cX11_power 2 = .ok (.invokevirtual 177, 3) := by decide +kernel
theorem dX11_power_5 : decode cX11_power 5 = .ok (.ifCond .eq 14, 3) := by decide +kernel
theorem dX11_power_8 : decode cX11_power 8 = .ok (.aload_n 0, 1) := by decide +kernel
theorem dX11_power_9 : decode cX11_power 9 = .ok (.getfield 65, 3) := by decide +kernel
theorem dX11_power_12 : decode cX11_power 12 = .ok (.iload_n 1, 1) := by decide +kernel
theorem dX11_power_13 : decode cX11_power 13 = .ok (.invokevirtual 245, 3) := by decide +kernel
theorem dX11_power_16 : decode cX11_power 16 = .ok (.goto 5, 3) := by decide +kernel
theorem dX11_power_19 : decode cX11_power 19 = .ok (.ldc 89, 2) := by decide +kernel
theorem dX11_power_21 : decode cX11_power 21 = .ok (.ireturn, 1) := by decide +kernel
set_option maxRecDepth 20000 in
theorem ggX11_blocs_X11_outside : GoodIn wsX11_blocs wsX11_outside := goodIn_r _ [9] (by decide +kernel) (by decide +kernel)
set_option maxRecDepth 20000 in
theorem gX11_blocs_X11_outside : GoodIn wsX11_blocs (va_wsS RX11 85 yX11_outside wsX11_outside) := goodIn_app (goodIn_of _ (by decide +kernel)) ggX11_blocs_X11_outside
set_option maxRecDepth 20000 in
theorem ggX11_blocs_X1_leastBloc : GoodIn wsX11_blocs wsX1_leastBloc := goodIn_r _ [14, 15, 16, 17, 18, 13, 19, 20, 21, 22, 23, 24, 25, 26, 27, 28, 29, 30, 31, 46, 47, 48, 49, 50, 51, 52, 53, 54, 55, 56, 57, 58] (by decide +kernel) (by decide +kernel)
set_option maxRecDepth 20000 in
theorem gX11_blocs_X1_leastBloc : GoodIn wsX11_blocs (wsV RX11 248 RX1 yX1_leastBloc wsX1_leastBloc) := goodIn_app (goodIn_of _ (by decide +kernel)) ggX11_blocs_X1_leastBloc
set_option maxRecDepth 20000 in
theorem ggX11_blocs_J6_bitCount_0f7a4 : GoodIn wsX11_blocs wsJ6_bitCount_0f7a4 := goodIn_r _ [28, 29, 30, 31] (by decide +kernel) (by decide +kernel)
set_option maxRecDepth 20000 in
theorem gX11_blocs_J6_bitCount_0f7a4 : GoodIn wsX11_blocs (va_wsS RX11 251 yJ6_bitCount_0f7a4 wsJ6_bitCount_0f7a4) := goodIn_app (goodIn_of _ (by decide +kernel)) ggX11_blocs_J6_bitCount_0f7a4
theorem dX11_blocs_0 : decode cX11_blocs 0 = .ok (.aload_n 0, 1) := by decide +kernel
theorem dX11_blocs_1 : decode cX11_blocs 1 = .ok (.getfield 65, 3) := by decide +kernel
theorem dX11_blocs_4 : decode cX11_blocs 4 = .ok (.getfield 155, 3) := by decide +kernel
theorem dX11_blocs_7 : decode cX11_blocs 7 = .ok (.ifCond .ne 6, 3) := by decide +kernel
theorem dX11_blocs_10 : decode cX11_blocs 10 = .ok (.ldc 158, 2) := by decide +kernel
theorem dX11_blocs_12 : decode cX11_blocs 12 = .ok (.ireturn, 1) := by decide +kernel
theorem dX11_blocs_13 : decode cX11_blocs 13 = .ok (.iload_n 1, 1) := by decide +kernel
theorem dX11_blocs_14 : decode cX11_blocs 14 = .ok (.iconst 0, 1) := by decide +kernel
theorem dX11_blocs_15 : decode cX11_blocs 15 = .ok (.iconst 1, 1) := by decide +kernel
theorem dX11_blocs_16 : decode cX11_blocs 16 = .ok (.invokestatic 85, 3) := by decide +kernel
theorem dX11_blocs_19 : decode cX11_blocs 19 = .ok (.ifCond .eq 6, 3) := by decide +kernel
theorem dX11_blocs_22 : decode cX11_blocs 22 = .ok (.ldc 89, 2) := by decide +kernel
theorem dX11_blocs_24 : decode cX11_blocs 24 = .ok (.ireturn, 1) := by decide +kernel
theorem dX11_blocs_25 : decode cX11_blocs 25 = .ok (.aload_n 0, 1) := by decide +kernel
theorem dX11_blocs_26 : decode cX11_blocs 26 = .ok (.getfield 65, 3) := by decide +kernel
theorem dX11_blocs_29 : decode cX11_blocs 29 = .ok (.invokevirtual 248, 3) := by decide +kernel
theorem dX11_blocs_32 : decode cX11_blocs 32 = .ok (.istore_n 2, 1) := by decide +kernel
theorem dX11_blocs_33 : decode cX11_blocs 33 = .ok (.iload_n 2, 1) := by decide +kernel
theorem dX11_blocs_34 : decode cX11_blocs 34 = .ok (.ifCond .ne 6, 3) := by decide +kernel
theorem dX11_blocs_37 : decode cX11_blocs 37 = .ok (.ldc 229, 2) := by decide +kernel
theorem dX11_blocs_39 : decode cX11_blocs 39 = .ok (.ireturn, 1) := by decide +kernel
theorem dX11_blocs_40 : decode cX11_blocs 40 = .ok (.iload_n 1, 1) := by decide +kernel
theorem dX11_blocs_41 : decode cX11_blocs 41 = .ok (.ifCond .ne 10, 3) := by decide +kernel
theorem dX11_blocs_44 : decode cX11_blocs 44 = .ok (.iload_n 2, 1) := by decide +kernel
theorem dX11_blocs_45 : decode cX11_blocs 45 = .ok (.invokestatic 251, 3) := by decide +kernel
theorem dX11_blocs_48 : decode cX11_blocs 48 = .ok (.goto 4, 3) := by decide +kernel
theorem dX11_blocs_51 : decode cX11_blocs 51 = .ok (.iload_n 2, 1) := by decide +kernel
theorem dX11_blocs_52 : decode cX11_blocs 52 = .ok (.ireturn, 1) := by decide +kernel
set_option maxRecDepth 20000 in
theorem ggX11_fits_X11_isTurnip : GoodIn wsX11_fits wsX11_isTurnip := goodIn_r _ [9, 10, 11, 138, 139, 140, 141, 142, 143, 144, 145, 146, 147, 148, 149, 150, 155, 156, 157, 158, 159, 160, 161, 162, 163, 164, 165, 166, 167] (by decide +kernel) (by decide +kernel)
set_option maxRecDepth 20000 in
theorem gX11_fits_X11_isTurnip : GoodIn wsX11_fits (wsV RX11 177 RX11 yX11_isTurnip wsX11_isTurnip) := goodIn_app (goodIn_of _ (by decide +kernel)) ggX11_fits_X11_isTurnip
set_option maxRecDepth 20000 in
theorem ggX11_fits_X11_isRow : GoodIn wsX11_fits wsX11_isRow := goodIn_r _ [14] (by decide +kernel) (by decide +kernel)
set_option maxRecDepth 20000 in
theorem gX11_fits_X11_isRow : GoodIn wsX11_fits (va_wsS RX11 81 yX11_isRow wsX11_isRow) := goodIn_app (goodIn_of _ (by decide +kernel)) ggX11_fits_X11_isRow
set_option maxRecDepth 20000 in
theorem ggX11_fits_X11_outside : GoodIn wsX11_fits wsX11_outside := goodIn_r _ [17] (by decide +kernel) (by decide +kernel)
set_option maxRecDepth 20000 in
theorem gX11_fits_X11_outside : GoodIn wsX11_fits (va_wsS RX11 85 yX11_outside wsX11_outside) := goodIn_app (goodIn_of _ (by decide +kernel)) ggX11_fits_X11_outside
set_option maxRecDepth 20000 in
theorem ggX11_fits_X11_found : GoodIn wsX11_fits wsX11_found := goodIn_r _ [21, 22, 23, 138, 139, 140, 141, 142, 143, 144, 145, 146, 147, 148, 149, 150] (by decide +kernel) (by decide +kernel)
set_option maxRecDepth 20000 in
theorem gX11_fits_X11_found : GoodIn wsX11_fits (wsV RX11 90 RX11 yX11_found wsX11_found) := goodIn_app (goodIn_of _ (by decide +kernel)) ggX11_fits_X11_found
set_option maxRecDepth 20000 in
theorem ggX11_fits_X6_has : GoodIn wsX11_fits wsX6_has := goodIn_r _ [28, 29, 151, 152, 153, 154] (by decide +kernel) (by decide +kernel)
set_option maxRecDepth 20000 in
theorem gX11_fits_X6_has : GoodIn wsX11_fits (wsV RX11 105 RX6 yX6_has wsX6_has) := goodIn_app (goodIn_of _ (by decide +kernel)) ggX11_fits_X6_has
set_option maxRecDepth 20000 in
theorem ggX11_fits_X7_allFitting : GoodIn wsX11_fits wsX7_allFitting := goodIn_r _ [34, 35, 36, 37, 38, 39, 40, 41, 42, 43, 44, 45, 46, 47, 48, 49, 50, 51, 52, 53, 54, 55, 56, 57, 58, 59, 33, 60, 61, 62, 63, 64, 65, 66, 67, 68, 69, 70, 71, 72, 73, 74, 75, 76, 77, 78, 79, 80, 81, 82, 83, 84, 85, 86, 87, 88, 89, 90, 91, 92, 93, 94, 95, 96, 97, 98, 99, 100, 101, 102, 103, 104, 105, 106, 107, 108, 109, 110, 111, 112, 113, 114, 115, 116, 117, 118, 119, 120, 121, 122, 123, 124, 125, 126, 127, 128, 129, 130, 131, 132, 133, 168, 169, 170, 171, 172, 173, 174, 175, 155, 156, 157, 158, 159, 160, 161, 162, 163, 164, 165, 166, 167, 151, 152, 153, 154] (by decide +kernel) (by decide +kernel)
set_option maxRecDepth 20000 in
theorem gX11_fits_X7_allFitting : GoodIn wsX11_fits (wsV RX11 256 RX7 yX7_allFitting wsX7_allFitting) := goodIn_app (goodIn_of _ (by decide +kernel)) ggX11_fits_X7_allFitting
set_option maxRecDepth 20000 in
theorem ggX11_fits_X11_fine : GoodIn wsX11_fits wsX11_fine := goodIn_r _ [137, 22, 138, 139, 140, 141, 142, 143, 144, 145, 146, 147, 148, 149, 150] (by decide +kernel) (by decide +kernel)
set_option maxRecDepth 20000 in
theorem gX11_fits_X11_fine : GoodIn wsX11_fits (wsV RX11 98 RX11 yX11_fine wsX11_fine) := goodIn_app (goodIn_of _ (by decide +kernel)) ggX11_fits_X11_fine
theorem dX11_fits_0 : decode cX11_fits 0 = .ok (.aload_n 0, 1) := by decide +kernel
theorem dX11_fits_1 : decode cX11_fits 1 = .ok (.iload_n 1, 1) := by decide +kernel
theorem dX11_fits_2 : decode cX11_fits 2 = .ok (.invokevirtual 177, 3) := by decide +kernel
theorem dX11_fits_5 : decode cX11_fits 5 = .ok (.ifCond .eq 31, 3) := by decide +kernel
theorem dX11_fits_8 : decode cX11_fits 8 = .ok (.iload_n 2, 1) := by decide +kernel
theorem dX11_fits_9 : decode cX11_fits 9 = .ok (.invokestatic 81, 3) := by decide +kernel
theorem dX11_fits_12 : decode cX11_fits 12 = .ok (.ifCond .eq 24, 3) := by decide +kernel
theorem dX11_fits_15 : decode cX11_fits 15 = .ok (.iload 4, 2) := by decide +kernel
theorem dX11_fits_17 : decode cX11_fits 17 = .ok (.iconst 1, 1) := by decide +kernel
theorem dX11_fits_18 : decode cX11_fits 18 = .ok (.bipush 12, 2) := by decide +kernel
theorem dX11_fits_20 : decode cX11_fits 20 = .ok (.invokestatic 85, 3) := by decide +kernel
theorem dX11_fits_23 : decode cX11_fits 23 = .ok (.ifCond .ne 13, 3) := by decide +kernel
theorem dX11_fits_26 : decode cX11_fits 26 = .ok (.iload 5, 2) := by decide +kernel
theorem dX11_fits_28 : decode cX11_fits 28 = .ok (.iconst 0, 1) := by decide +kernel
theorem dX11_fits_29 : decode cX11_fits 29 = .ok (.iconst 3, 1) := by decide +kernel
theorem dX11_fits_30 : decode cX11_fits 30 = .ok (.invokestatic 85, 3) := by decide +kernel
theorem dX11_fits_33 : decode cX11_fits 33 = .ok (.ifCond .eq 6, 3) := by decide +kernel
theorem dX11_fits_36 : decode cX11_fits 36 = .ok (.ldc 89, 2) := by decide +kernel
theorem dX11_fits_38 : decode cX11_fits 38 = .ok (.ireturn, 1) := by decide +kernel
theorem dX11_fits_39 : decode cX11_fits 39 = .ok (.aload_n 0, 1) := by decide +kernel
theorem dX11_fits_40 : decode cX11_fits 40 = .ok (.getfield 11, 3) := by decide +kernel
theorem dX11_fits_43 : decode cX11_fits 43 = .ok (.iload_n 2, 1) := by decide +kernel
theorem dX11_fits_44 : decode cX11_fits 44 = .ok (.aaload, 1) := by decide +kernel
theorem dX11_fits_45 : decode cX11_fits 45 = .ok (.astore 6, 2) := by decide +kernel
theorem dX11_fits_47 : decode cX11_fits 47 = .ok (.aload 6, 2) := by decide +kernel
theorem dX11_fits_49 : decode cX11_fits 49 = .ok (.getfield 101, 3) := by decide +kernel
theorem dX11_fits_52 : decode cX11_fits 52 = .ok (.ifCond .ne 9, 3) := by decide +kernel
theorem dX11_fits_55 : decode cX11_fits 55 = .ok (.aload_n 0, 1) := by decide +kernel
theorem dX11_fits_56 : decode cX11_fits 56 = .ok (.iconst 1, 1) := by decide +kernel
theorem dX11_fits_57 : decode cX11_fits 57 = .ok (.invokevirtual 90, 3) := by decide +kernel
theorem dX11_fits_60 : decode cX11_fits 60 = .ok (.ireturn, 1) := by decide +kernel
theorem dX11_fits_61 : decode cX11_fits 61 = .ok (.aload 6, 2) := by decide +kernel
theorem dX11_fits_63 : decode cX11_fits 63 = .ok (.iload_n 3, 1) := by decide +kernel
theorem dX11_fits_64 : decode cX11_fits 64 = .ok (.iload 4, 2) := by decide +kernel
theorem dX11_fits_66 : decode cX11_fits 66 = .ok (.invokevirtual 105, 3) := by decide +kernel
theorem dX11_fits_69 : decode cX11_fits 69 = .ok (.ifCond .ne 9, 3) := by decide +kernel
theorem dX11_fits_72 : decode cX11_fits 72 = .ok (.aload_n 0, 1) := by decide +kernel
theorem dX11_fits_73 : decode cX11_fits 73 = .ok (.iconst 2, 1) := by decide +kernel
theorem dX11_fits_74 : decode cX11_fits 74 = .ok (.invokevirtual 90, 3) := by decide +kernel
theorem dX11_fits_77 : decode cX11_fits 77 = .ok (.ireturn, 1) := by decide +kernel
theorem dX11_fits_78 : decode cX11_fits 78 = .ok (.aload_n 0, 1) := by decide +kernel
theorem dX11_fits_79 : decode cX11_fits 79 = .ok (.aload_n 0, 1) := by decide +kernel
theorem dX11_fits_80 : decode cX11_fits 80 = .ok (.getfield 77, 3) := by decide +kernel
theorem dX11_fits_83 : decode cX11_fits 83 = .ok (.iload_n 1, 1) := by decide +kernel
theorem dX11_fits_84 : decode cX11_fits 84 = .ok (.aload 6, 2) := by decide +kernel
theorem dX11_fits_86 : decode cX11_fits 86 = .ok (.iload_n 3, 1) := by decide +kernel
theorem dX11_fits_87 : decode cX11_fits 87 = .ok (.iload 4, 2) := by decide +kernel
theorem dX11_fits_89 : decode cX11_fits 89 = .ok (.iload 5, 2) := by decide +kernel
theorem dX11_fits_91 : decode cX11_fits 91 = .ok (.invokevirtual 256, 3) := by decide +kernel
theorem dX11_fits_94 : decode cX11_fits 94 = .ok (.invokevirtual 98, 3) := by decide +kernel
theorem dX11_fits_97 : decode cX11_fits 97 = .ok (.ireturn, 1) := by decide +kernel
set_option maxRecDepth 20000 in
theorem ggX11_chance_X11_isTurnip : GoodIn wsX11_chance wsX11_isTurnip := goodIn_r _ [7, 8, 9, 103, 104, 105, 106, 107, 108, 109, 110, 111, 112, 113, 114, 115, 116, 117, 118, 119, 120, 121, 122, 123, 124, 125, 126, 127, 128] (by decide +kernel) (by decide +kernel)
set_option maxRecDepth 20000 in
theorem gX11_chance_X11_isTurnip : GoodIn wsX11_chance (wsV RX11 177 RX11 yX11_isTurnip wsX11_isTurnip) := goodIn_app (goodIn_of _ (by decide +kernel)) ggX11_chance_X11_isTurnip
set_option maxRecDepth 20000 in
theorem ggX11_chance_X11_outside : GoodIn wsX11_chance wsX11_outside := goodIn_r _ [12] (by decide +kernel) (by decide +kernel)
set_option maxRecDepth 20000 in
theorem gX11_chance_X11_outside : GoodIn wsX11_chance (va_wsS RX11 85 yX11_outside wsX11_outside) := goodIn_app (goodIn_of _ (by decide +kernel)) ggX11_chance_X11_outside
set_option maxRecDepth 20000 in
theorem ggX11_chance_X7_waysToRise : GoodIn wsX11_chance wsX7_waysToRise := goodIn_r _ [17, 18, 19, 20, 21, 22, 23, 24, 25, 26, 27, 28, 29, 30, 31, 32, 33, 34, 35, 36, 37, 38, 39, 40, 41, 42, 16, 43, 44, 45, 46, 47, 48, 49, 50, 51, 52, 53, 54, 55, 56, 57, 58, 59, 60, 61, 62, 63, 64, 65, 66, 67, 68, 69, 70, 71, 72, 73, 74, 75, 76, 77, 78, 79, 80, 81, 82, 83, 84, 85, 86, 87, 88, 89, 90, 91, 92, 93, 94, 95, 96, 97, 98, 99, 100, 101, 102, 129, 130, 131, 132, 133, 134, 135, 136, 116, 117, 118, 119, 120, 121, 122, 123, 124, 125, 126, 127, 128] (by decide +kernel) (by decide +kernel)
set_option maxRecDepth 20000 in
theorem gX11_chance_X7_waysToRise : GoodIn wsX11_chance (wsV RX11 260 RX7 yX7_waysToRise wsX7_waysToRise) := goodIn_app (goodIn_of _ (by decide +kernel)) ggX11_chance_X7_waysToRise
theorem dX11_chance_0 : decode cX11_chance 0 = .ok (.aload_n 0, 1) := by decide +kernel
theorem dX11_chance_1 : decode cX11_chance 1 = .ok (.iload_n 1, 1) := by decide +kernel
theorem dX11_chance_2 : decode cX11_chance 2 = .ok (.invokevirtual 177, 3) := by decide +kernel
theorem dX11_chance_5 : decode cX11_chance 5 = .ok (.ifCond .eq 44, 3) := by decide +kernel
theorem dX11_chance_8 : decode cX11_chance 8 = .ok (.iload_n 2, 1) := by decide +kernel
theorem dX11_chance_9 : decode cX11_chance 9 = .ok (.iconst 0, 1) := by decide +kernel
theorem dX11_chance_10 : decode cX11_chance 10 = .ok (.bipush 9, 2) := by decide +kernel
theorem dX11_chance_12 : decode cX11_chance 12 = .ok (.invokestatic 85, 3) := by decide +kernel
theorem dX11_chance_15 : decode cX11_chance 15 = .ok (.ifCond .ne 34, 3) := by decide +kernel
theorem dX11_chance_18 : decode cX11_chance 18 = .ok (.iload_n 3, 1) := by decide +kernel
theorem dX11_chance_19 : decode cX11_chance 19 = .ok (.iconst 0, 1) := by decide +kernel
theorem dX11_chance_20 : decode cX11_chance 20 = .ok (.bipush 8, 2) := by decide +kernel
theorem dX11_chance_22 : decode cX11_chance 22 = .ok (.invokestatic 85, 3) := by decide +kernel
theorem dX11_chance_25 : decode cX11_chance 25 = .ok (.ifCond .ne 24, 3) := by decide +kernel
theorem dX11_chance_28 : decode cX11_chance 28 = .ok (.iload 4, 2) := by decide +kernel
theorem dX11_chance_30 : decode cX11_chance 30 = .ok (.iconst 0, 1) := by decide +kernel
theorem dX11_chance_31 : decode cX11_chance 31 = .ok (.bipush 10, 2) := by decide +kernel
theorem dX11_chance_33 : decode cX11_chance 33 = .ok (.invokestatic 85, 3) := by decide +kernel
theorem dX11_chance_36 : decode cX11_chance 36 = .ok (.ifCond .ne 13, 3) := by decide +kernel
theorem dX11_chance_39 : decode cX11_chance 39 = .ok (.iload 5, 2) := by decide +kernel
theorem dX11_chance_41 : decode cX11_chance 41 = .ok (.iconst 0, 1) := by decide +kernel
theorem dX11_chance_42 : decode cX11_chance 42 = .ok (.iconst 1, 1) := by decide +kernel
theorem dX11_chance_43 : decode cX11_chance 43 = .ok (.invokestatic 85, 3) := by decide +kernel
theorem dX11_chance_46 : decode cX11_chance 46 = .ok (.ifCond .eq 6, 3) := by decide +kernel
theorem dX11_chance_49 : decode cX11_chance 49 = .ok (.ldc 89, 2) := by decide +kernel
theorem dX11_chance_51 : decode cX11_chance 51 = .ok (.ireturn, 1) := by decide +kernel
theorem dX11_chance_52 : decode cX11_chance 52 = .ok (.aload_n 0, 1) := by decide +kernel
theorem dX11_chance_53 : decode cX11_chance 53 = .ok (.getfield 77, 3) := by decide +kernel
theorem dX11_chance_56 : decode cX11_chance 56 = .ok (.iload_n 1, 1) := by decide +kernel
theorem dX11_chance_57 : decode cX11_chance 57 = .ok (.iload_n 2, 1) := by decide +kernel
theorem dX11_chance_58 : decode cX11_chance 58 = .ok (.iload_n 3, 1) := by decide +kernel
theorem dX11_chance_59 : decode cX11_chance 59 = .ok (.iload 4, 2) := by decide +kernel
theorem dX11_chance_61 : decode cX11_chance 61 = .ok (.invokevirtual 260, 3) := by decide +kernel
theorem dX11_chance_64 : decode cX11_chance 64 = .ok (.istore 6, 2) := by decide +kernel
theorem dX11_chance_66 : decode cX11_chance 66 = .ok (.iconst 1, 1) := by decide +kernel
theorem dX11_chance_67 : decode cX11_chance 67 = .ok (.istore 7, 2) := by decide +kernel
theorem dX11_chance_69 : decode cX11_chance 69 = .ok (.iconst 0, 1) := by decide +kernel
theorem dX11_chance_70 : decode cX11_chance 70 = .ok (.istore 8, 2) := by decide +kernel
theorem dX11_chance_72 : decode cX11_chance 72 = .ok (.iload 8, 2) := by decide +kernel
theorem dX11_chance_74 : decode cX11_chance 74 = .ok (.iload_n 3, 1) := by decide +kernel
theorem dX11_chance_75 : decode cX11_chance 75 = .ok (.if_icmp .ge 16, 3) := by decide +kernel
theorem dX11_chance_78 : decode cX11_chance 78 = .ok (.iload 7, 2) := by decide +kernel
theorem dX11_chance_80 : decode cX11_chance 80 = .ok (.bipush 10, 2) := by decide +kernel
theorem dX11_chance_82 : decode cX11_chance 82 = .ok (.imul, 1) := by decide +kernel
theorem dX11_chance_83 : decode cX11_chance 83 = .ok (.istore 7, 2) := by decide +kernel
theorem dX11_chance_85 : decode cX11_chance 85 = .ok (.iinc 8 1, 3) := by decide +kernel
theorem dX11_chance_88 : decode cX11_chance 88 = .ok (.goto (-16), 3) := by decide +kernel
theorem dX11_chance_91 : decode cX11_chance 91 = .ok (.iconst 0, 1) := by decide +kernel
theorem dX11_chance_92 : decode cX11_chance 92 = .ok (.istore 8, 2) := by decide +kernel
theorem dX11_chance_94 : decode cX11_chance 94 = .ok (.iload 8, 2) := by decide +kernel
theorem dX11_chance_96 : decode cX11_chance 96 = .ok (.iload_n 3, 1) := by decide +kernel
theorem dX11_chance_97 : decode cX11_chance 97 = .ok (.if_icmp .ge 47, 3) := by decide +kernel
theorem dX11_chance_100 : decode cX11_chance 100 = .ok (.iload 6, 2) := by decide +kernel
theorem dX11_chance_102 : decode cX11_chance 102 = .ok (.iconst 2, 1) := by decide +kernel
theorem dX11_chance_103 : decode cX11_chance 103 = .ok (.irem, 1) := by decide +kernel
theorem dX11_chance_104 : decode cX11_chance 104 = .ok (.ifCond .ne 15, 3) := by decide +kernel
theorem dX11_chance_107 : decode cX11_chance 107 = .ok (.iload 6, 2) := by decide +kernel
theorem dX11_chance_109 : decode cX11_chance 109 = .ok (.iconst 2, 1) := by decide +kernel
theorem dX11_chance_110 : decode cX11_chance 110 = .ok (.idiv, 1) := by decide +kernel
theorem dX11_chance_111 : decode cX11_chance 111 = .ok (.istore 6, 2) := by decide +kernel
theorem dX11_chance_113 : decode cX11_chance 113 = .ok (.iload 7, 2) := by decide +kernel
theorem dX11_chance_115 : decode cX11_chance 115 = .ok (.iconst 2, 1) := by decide +kernel
theorem dX11_chance_116 : decode cX11_chance 116 = .ok (.idiv, 1) := by decide +kernel
theorem dX11_chance_117 : decode cX11_chance 117 = .ok (.istore 7, 2) := by decide +kernel
theorem dX11_chance_119 : decode cX11_chance 119 = .ok (.iload 6, 2) := by decide +kernel
theorem dX11_chance_121 : decode cX11_chance 121 = .ok (.iconst 5, 1) := by decide +kernel
theorem dX11_chance_122 : decode cX11_chance 122 = .ok (.irem, 1) := by decide +kernel
theorem dX11_chance_123 : decode cX11_chance 123 = .ok (.ifCond .ne 15, 3) := by decide +kernel
theorem dX11_chance_126 : decode cX11_chance 126 = .ok (.iload 6, 2) := by decide +kernel
theorem dX11_chance_128 : decode cX11_chance 128 = .ok (.iconst 5, 1) := by decide +kernel
theorem dX11_chance_129 : decode cX11_chance 129 = .ok (.idiv, 1) := by decide +kernel
theorem dX11_chance_130 : decode cX11_chance 130 = .ok (.istore 6, 2) := by decide +kernel
theorem dX11_chance_132 : decode cX11_chance 132 = .ok (.iload 7, 2) := by decide +kernel
theorem dX11_chance_134 : decode cX11_chance 134 = .ok (.iconst 5, 1) := by decide +kernel
theorem dX11_chance_135 : decode cX11_chance 135 = .ok (.idiv, 1) := by decide +kernel
theorem dX11_chance_136 : decode cX11_chance 136 = .ok (.istore 7, 2) := by decide +kernel
theorem dX11_chance_138 : decode cX11_chance 138 = .ok (.iinc 8 1, 3) := by decide +kernel
theorem dX11_chance_141 : decode cX11_chance 141 = .ok (.goto (-47), 3) := by decide +kernel
theorem dX11_chance_144 : decode cX11_chance 144 = .ok (.iload 5, 2) := by decide +kernel
theorem dX11_chance_146 : decode cX11_chance 146 = .ok (.ifCond .ne 8, 3) := by decide +kernel
theorem dX11_chance_149 : decode cX11_chance 149 = .ok (.iload 6, 2) := by decide +kernel
theorem dX11_chance_151 : decode cX11_chance 151 = .ok (.goto 5, 3) := by decide +kernel
theorem dX11_chance_154 : decode cX11_chance 154 = .ok (.iload 7, 2) := by decide +kernel
theorem dX11_chance_156 : decode cX11_chance 156 = .ok (.ireturn, 1) := by decide +kernel
set_option maxRecDepth 20000 in
theorem ggX11_drawn_X11_outside : GoodIn wsX11_drawn wsX11_outside := goodIn_r _ [10] (by decide +kernel) (by decide +kernel)
set_option maxRecDepth 20000 in
theorem gX11_drawn_X11_outside : GoodIn wsX11_drawn (va_wsS RX11 85 yX11_outside wsX11_outside) := goodIn_app (goodIn_of _ (by decide +kernel)) ggX11_drawn_X11_outside
set_option maxRecDepth 20000 in
theorem ggX11_drawn_X7_century : GoodIn wsX11_drawn wsX7_century := goodIn_r _ [15, 16, 17, 18, 19, 20, 21, 22, 23, 24, 25, 26, 27, 28, 29, 30, 31, 32, 33, 34, 35, 36, 37, 38, 39, 40, 41, 42, 43, 44, 45, 46, 47, 48, 49, 50, 51, 52, 53, 54, 55, 56, 57, 58, 59, 60, 61, 62, 63, 64, 65, 66, 67, 68, 69, 70, 71, 72, 73, 74, 75, 76, 77, 78, 79, 80, 81, 82, 83, 84, 85, 86, 87, 88, 89, 90, 91, 92, 93, 94, 95, 96, 97, 98, 99, 100, 101, 102, 103, 104, 105, 106, 107, 108, 109, 110, 149, 150, 151, 152, 153, 154, 155, 156, 136, 137, 138, 139, 140, 141, 142, 143, 144, 145, 146, 147, 148] (by decide +kernel) (by decide +kernel)
set_option maxRecDepth 20000 in
theorem gX11_drawn_X7_century : GoodIn wsX11_drawn (wsV RX11 265 RX7 yX7_century wsX7_century) := goodIn_app (goodIn_of _ (by decide +kernel)) ggX11_drawn_X7_century
set_option maxRecDepth 20000 in
theorem ggX11_drawn_X1_allRanks : GoodIn wsX11_drawn wsX1_allRanks := goodIn_r _ [114, 30, 115, 116, 117, 28, 118, 35, 136, 137, 138, 139, 140, 141, 142, 143, 144, 145, 146, 147, 148] (by decide +kernel) (by decide +kernel)
set_option maxRecDepth 20000 in
theorem gX11_drawn_X1_allRanks : GoodIn wsX11_drawn (wsV RX11 173 RX1 yX1_allRanks wsX1_allRanks) := goodIn_app (goodIn_of _ (by decide +kernel)) ggX11_drawn_X1_allRanks
set_option maxRecDepth 20000 in
theorem ggX11_drawn_X1_allGrown : GoodIn wsX11_drawn wsX1_allGrown := goodIn_r _ [122, 30, 40, 136, 137, 138, 139, 140, 141, 142, 143, 144, 145, 146, 147, 148] (by decide +kernel) (by decide +kernel)
set_option maxRecDepth 20000 in
theorem gX11_drawn_X1_allGrown : GoodIn wsX11_drawn (wsV RX11 269 RX1 yX1_allGrown wsX1_allGrown) := goodIn_app (goodIn_of _ (by decide +kernel)) ggX11_drawn_X1_allGrown
theorem dX11_drawn_0 : decode cX11_drawn 0 = .ok (.aload_n 0, 1) := by decide +kernel
theorem dX11_drawn_1 : decode cX11_drawn 1 = .ok (.getfield 65, 3) := by decide +kernel
theorem dX11_drawn_4 : decode cX11_drawn 4 = .ok (.getfield 155, 3) := by decide +kernel
theorem dX11_drawn_7 : decode cX11_drawn 7 = .ok (.ifCond .ne 6, 3) := by decide +kernel
theorem dX11_drawn_10 : decode cX11_drawn 10 = .ok (.ldc 158, 2) := by decide +kernel
theorem dX11_drawn_12 : decode cX11_drawn 12 = .ok (.ireturn, 1) := by decide +kernel
theorem dX11_drawn_13 : decode cX11_drawn 13 = .ok (.iload_n 1, 1) := by decide +kernel
theorem dX11_drawn_14 : decode cX11_drawn 14 = .ok (.iconst 0, 1) := by decide +kernel
theorem dX11_drawn_15 : decode cX11_drawn 15 = .ok (.bipush 60, 2) := by decide +kernel
theorem dX11_drawn_17 : decode cX11_drawn 17 = .ok (.invokestatic 85, 3) := by decide +kernel
theorem dX11_drawn_20 : decode cX11_drawn 20 = .ok (.ifCond .ne 23, 3) := by decide +kernel
theorem dX11_drawn_23 : decode cX11_drawn 23 = .ok (.iload_n 2, 1) := by decide +kernel
theorem dX11_drawn_24 : decode cX11_drawn 24 = .ok (.iconst 1, 1) := by decide +kernel
theorem dX11_drawn_25 : decode cX11_drawn 25 = .ok (.ldc_w 264, 3) := by decide +kernel
theorem dX11_drawn_28 : decode cX11_drawn 28 = .ok (.invokestatic 85, 3) := by decide +kernel
theorem dX11_drawn_31 : decode cX11_drawn 31 = .ok (.ifCond .ne 12, 3) := by decide +kernel
theorem dX11_drawn_34 : decode cX11_drawn 34 = .ok (.iload_n 3, 1) := by decide +kernel
theorem dX11_drawn_35 : decode cX11_drawn 35 = .ok (.iconst 0, 1) := by decide +kernel
theorem dX11_drawn_36 : decode cX11_drawn 36 = .ok (.iconst 1, 1) := by decide +kernel
theorem dX11_drawn_37 : decode cX11_drawn 37 = .ok (.invokestatic 85, 3) := by decide +kernel
theorem dX11_drawn_40 : decode cX11_drawn 40 = .ok (.ifCond .eq 6, 3) := by decide +kernel
theorem dX11_drawn_43 : decode cX11_drawn 43 = .ok (.ldc 89, 2) := by decide +kernel
theorem dX11_drawn_45 : decode cX11_drawn 45 = .ok (.ireturn, 1) := by decide +kernel
theorem dX11_drawn_46 : decode cX11_drawn 46 = .ok (.aload_n 0, 1) := by decide +kernel
theorem dX11_drawn_47 : decode cX11_drawn 47 = .ok (.getfield 77, 3) := by decide +kernel
theorem dX11_drawn_50 : decode cX11_drawn 50 = .ok (.iload_n 1, 1) := by decide +kernel
theorem dX11_drawn_51 : decode cX11_drawn 51 = .ok (.iload_n 2, 1) := by decide +kernel
theorem dX11_drawn_52 : decode cX11_drawn 52 = .ok (.invokevirtual 265, 3) := by decide +kernel
theorem dX11_drawn_55 : decode cX11_drawn 55 = .ok (.astore 4, 2) := by decide +kernel
theorem dX11_drawn_57 : decode cX11_drawn 57 = .ok (.iload_n 3, 1) := by decide +kernel
theorem dX11_drawn_58 : decode cX11_drawn 58 = .ok (.ifCond .ne 11, 3) := by decide +kernel
theorem dX11_drawn_61 : decode cX11_drawn 61 = .ok (.aload 4, 2) := by decide +kernel
theorem dX11_drawn_63 : decode cX11_drawn 63 = .ok (.invokevirtual 173, 3) := by decide +kernel
theorem dX11_drawn_66 : decode cX11_drawn 66 = .ok (.goto 8, 3) := by decide +kernel
theorem dX11_drawn_69 : decode cX11_drawn 69 = .ok (.aload 4, 2) := by decide +kernel
theorem dX11_drawn_71 : decode cX11_drawn 71 = .ok (.invokevirtual 269, 3) := by decide +kernel
theorem dX11_drawn_74 : decode cX11_drawn 74 = .ok (.ireturn, 1) := by decide +kernel
set_option maxRecDepth 20000 in
theorem ggX11_image_X11_outside : GoodIn wsX11_image wsX11_outside := goodIn_r _ [9] (by decide +kernel) (by decide +kernel)
set_option maxRecDepth 20000 in
theorem gX11_image_X11_outside : GoodIn wsX11_image (va_wsS RX11 85 yX11_outside wsX11_outside) := goodIn_app (goodIn_of _ (by decide +kernel)) ggX11_image_X11_outside
set_option maxRecDepth 20000 in
theorem ggX11_image_X1_become : GoodIn wsX11_image wsX1_become := goodIn_r _ [14, 15, 16, 17, 18, 19, 20, 21, 22, 23, 24, 25, 26, 27, 28, 29, 43, 44, 45, 46, 47, 48, 49, 50, 51, 52, 53, 54, 55] (by decide +kernel) (by decide +kernel)
set_option maxRecDepth 20000 in
theorem gX11_image_X1_become : GoodIn wsX11_image (wsV RX11 148 RX1 yX1_become wsX1_become) := goodIn_app (goodIn_of _ (by decide +kernel)) ggX11_image_X1_become
theorem dX11_image_0 : decode cX11_image 0 = .ok (.iload_n 1, 1) := by decide +kernel
theorem dX11_image_1 : decode cX11_image 1 = .ok (.iconst 0, 1) := by decide +kernel
theorem dX11_image_2 : decode cX11_image 2 = .ok (.iconst 1, 1) := by decide +kernel
theorem dX11_image_3 : decode cX11_image 3 = .ok (.invokestatic 85, 3) := by decide +kernel
theorem dX11_image_6 : decode cX11_image 6 = .ok (.ifCond .eq 6, 3) := by decide +kernel
theorem dX11_image_9 : decode cX11_image 9 = .ok (.ldc 89, 2) := by decide +kernel
theorem dX11_image_11 : decode cX11_image 11 = .ok (.ireturn, 1) := by decide +kernel
theorem dX11_image_12 : decode cX11_image 12 = .ok (.aload_n 0, 1) := by decide +kernel
theorem dX11_image_13 : decode cX11_image 13 = .ok (.getfield 65, 3) := by decide +kernel
theorem dX11_image_16 : decode cX11_image 16 = .ok (.getfield 155, 3) := by decide +kernel
theorem dX11_image_19 : decode cX11_image 19 = .ok (.ifCond .ne 6, 3) := by decide +kernel
theorem dX11_image_22 : decode cX11_image 22 = .ok (.ldc 158, 2) := by decide +kernel
theorem dX11_image_24 : decode cX11_image 24 = .ok (.ireturn, 1) := by decide +kernel
theorem dX11_image_25 : decode cX11_image 25 = .ok (.aload_n 0, 1) := by decide +kernel
theorem dX11_image_26 : decode cX11_image 26 = .ok (.getfield 41, 3) := by decide +kernel
theorem dX11_image_29 : decode cX11_image 29 = .ok (.iload_n 1, 1) := by decide +kernel
theorem dX11_image_30 : decode cX11_image 30 = .ok (.aaload, 1) := by decide +kernel
theorem dX11_image_31 : decode cX11_image 31 = .ok (.aload_n 0, 1) := by decide +kernel
theorem dX11_image_32 : decode cX11_image 32 = .ok (.getfield 65, 3) := by decide +kernel
theorem dX11_image_35 : decode cX11_image 35 = .ok (.invokevirtual 148, 3) := by decide +kernel
theorem dX11_image_38 : decode cX11_image 38 = .ok (.iconst 1, 1) := by decide +kernel
theorem dX11_image_39 : decode cX11_image 39 = .ok (.ireturn, 1) := by decide +kernel
set_option maxRecDepth 20000 in
theorem ggX11_restore_X11_outside : GoodIn wsX11_restore wsX11_outside := goodIn_r _ [10] (by decide +kernel) (by decide +kernel)
set_option maxRecDepth 20000 in
theorem gX11_restore_X11_outside : GoodIn wsX11_restore (va_wsS RX11 85 yX11_outside wsX11_outside) := goodIn_app (goodIn_of _ (by decide +kernel)) ggX11_restore_X11_outside
set_option maxRecDepth 20000 in
theorem ggX11_restore_X1_become : GoodIn wsX11_restore wsX1_become := goodIn_r _ [15, 16, 17, 18, 19, 20, 21, 22, 23, 24, 25, 26, 27, 28, 29, 30, 44, 45, 46, 47, 48, 49, 50, 51, 52, 53, 54, 55, 56] (by decide +kernel) (by decide +kernel)
set_option maxRecDepth 20000 in
theorem gX11_restore_X1_become : GoodIn wsX11_restore (wsV RX11 148 RX1 yX1_become wsX1_become) := goodIn_app (goodIn_of _ (by decide +kernel)) ggX11_restore_X1_become
theorem dX11_restore_0 : decode cX11_restore 0 = .ok (.iload_n 1, 1) := by decide +kernel
theorem dX11_restore_1 : decode cX11_restore 1 = .ok (.iconst 0, 1) := by decide +kernel
theorem dX11_restore_2 : decode cX11_restore 2 = .ok (.iconst 1, 1) := by decide +kernel
theorem dX11_restore_3 : decode cX11_restore 3 = .ok (.invokestatic 85, 3) := by decide +kernel
theorem dX11_restore_6 : decode cX11_restore 6 = .ok (.ifCond .eq 6, 3) := by decide +kernel
theorem dX11_restore_9 : decode cX11_restore 9 = .ok (.ldc 89, 2) := by decide +kernel
theorem dX11_restore_11 : decode cX11_restore 11 = .ok (.ireturn, 1) := by decide +kernel
theorem dX11_restore_12 : decode cX11_restore 12 = .ok (.aload_n 0, 1) := by decide +kernel
theorem dX11_restore_13 : decode cX11_restore 13 = .ok (.getfield 41, 3) := by decide +kernel
theorem dX11_restore_16 : decode cX11_restore 16 = .ok (.iload_n 1, 1) := by decide +kernel
theorem dX11_restore_17 : decode cX11_restore 17 = .ok (.aaload, 1) := by decide +kernel
theorem dX11_restore_18 : decode cX11_restore 18 = .ok (.getfield 155, 3) := by decide +kernel
theorem dX11_restore_21 : decode cX11_restore 21 = .ok (.ifCond .ne 6, 3) := by decide +kernel
theorem dX11_restore_24 : decode cX11_restore 24 = .ok (.ldc 158, 2) := by decide +kernel
theorem dX11_restore_26 : decode cX11_restore 26 = .ok (.ireturn, 1) := by decide +kernel
theorem dX11_restore_27 : decode cX11_restore 27 = .ok (.aload_n 0, 1) := by decide +kernel
theorem dX11_restore_28 : decode cX11_restore 28 = .ok (.getfield 65, 3) := by decide +kernel
theorem dX11_restore_31 : decode cX11_restore 31 = .ok (.aload_n 0, 1) := by decide +kernel
theorem dX11_restore_32 : decode cX11_restore 32 = .ok (.getfield 41, 3) := by decide +kernel
theorem dX11_restore_35 : decode cX11_restore 35 = .ok (.iload_n 1, 1) := by decide +kernel
theorem dX11_restore_36 : decode cX11_restore 36 = .ok (.aaload, 1) := by decide +kernel
theorem dX11_restore_37 : decode cX11_restore 37 = .ok (.invokevirtual 148, 3) := by decide +kernel
theorem dX11_restore_40 : decode cX11_restore 40 = .ok (.aload_n 0, 1) := by decide +kernel
theorem dX11_restore_41 : decode cX11_restore 41 = .ok (.iconst 0, 1) := by decide +kernel
theorem dX11_restore_42 : decode cX11_restore 42 = .ok (.putfield 152, 3) := by decide +kernel
theorem dX11_restore_45 : decode cX11_restore 45 = .ok (.iconst 1, 1) := by decide +kernel
theorem dX11_restore_46 : decode cX11_restore 46 = .ok (.ireturn, 1) := by decide +kernel
set_option maxRecDepth 20000 in
theorem ggX11_kind_X11_isTurnip : GoodIn wsX11_kind wsX11_isTurnip := goodIn_r _ [9, 1, 10, 11, 12, 13, 14, 15, 16, 17, 18, 19, 20, 21, 22, 23, 24, 25, 26, 27, 28, 29, 30, 31, 32, 33, 34, 35, 36] (by decide +kernel) (by decide +kernel)
set_option maxRecDepth 20000 in
theorem gX11_kind_X11_isTurnip : GoodIn wsX11_kind (wsV RX11 177 RX11 yX11_isTurnip wsX11_isTurnip) := goodIn_app (goodIn_of _ (by decide +kernel)) ggX11_kind_X11_isTurnip
theorem dX11_kind_0 : decode cX11_kind 0 = .ok (.aload_n 0, 1) := by decide +kernel
theorem dX11_kind_1 : decode cX11_kind 1 = .ok (.iload_n 1, 1) := by decide +kernel
theorem dX11_kind_2 : decode cX11_kind 2 = .ok (.invokevirtual 177, 3) := by decide +kernel
theorem dX11_kind_5 : decode cX11_kind 5 = .ok (.ifCond .eq 18, 3) := by decide +kernel
theorem dX11_kind_8 : decode cX11_kind 8 = .ok (.aload_n 0, 1) := by decide +kernel
theorem dX11_kind_9 : decode cX11_kind 9 = .ok (.getfield 65, 3) := by decide +kernel
theorem dX11_kind_12 : decode cX11_kind 12 = .ok (.getfield 272, 3) := by decide +kernel
theorem dX11_kind_15 : decode cX11_kind 15 = .ok (.iload_n 1, 1) := by decide +kernel
theorem dX11_kind_16 : decode cX11_kind 16 = .ok (.aaload, 1) := by decide +kernel
theorem dX11_kind_17 : decode cX11_kind 17 = .ok (.getfield 275, 3) := by decide +kernel
theorem dX11_kind_20 : decode cX11_kind 20 = .ok (.goto 5, 3) := by decide +kernel
theorem dX11_kind_23 : decode cX11_kind 23 = .ok (.ldc 89, 2) := by decide +kernel
theorem dX11_kind_25 : decode cX11_kind 25 = .ok (.ireturn, 1) := by decide +kernel
set_option maxRecDepth 20000 in
theorem ggX11_as_X11_isTurnip : GoodIn wsX11_as wsX11_isTurnip := goodIn_r _ [8, 2, 9, 38, 39, 40, 41, 42, 43, 44, 45, 46, 47, 48, 49, 50, 51, 52, 53, 54, 55, 56, 57, 58, 59, 60, 61, 62, 63] (by decide +kernel) (by decide +kernel)
set_option maxRecDepth 20000 in
theorem gX11_as_X11_isTurnip : GoodIn wsX11_as (wsV RX11 177 RX11 yX11_isTurnip wsX11_isTurnip) := goodIn_app (goodIn_of _ (by decide +kernel)) ggX11_as_X11_isTurnip
set_option maxRecDepth 20000 in
theorem ggX11_as_X11_outside : GoodIn wsX11_as wsX11_outside := goodIn_r _ [12] (by decide +kernel) (by decide +kernel)
set_option maxRecDepth 20000 in
theorem gX11_as_X11_outside : GoodIn wsX11_as (va_wsS RX11 85 yX11_outside wsX11_outside) := goodIn_app (goodIn_of _ (by decide +kernel)) ggX11_as_X11_outside
set_option maxRecDepth 20000 in
theorem ggX11_as_X2_isA : GoodIn wsX11_as wsX2_isA := goodIn_r _ [18, 19, 20, 21, 22, 23] (by decide +kernel) (by decide +kernel)
set_option maxRecDepth 20000 in
theorem gX11_as_X2_isA_u278X0 : GoodIn wsX11_as (va_wsU RX11 278 RX0 "TurnipSquires$Kind" ⟨"TurnipSquires$Kind", "isA", "(I)Z"⟩ yX2_isA wsX2_isA) := goodIn_app (goodIn_of _ (by decide +kernel)) ggX11_as_X2_isA
set_option maxRecDepth 20000 in
theorem gX11_as_X2_isA_u278X3 : GoodIn wsX11_as (va_wsU RX11 278 RX3 "TurnipSquires$Kind" ⟨"TurnipSquires$Kind", "isA", "(I)Z"⟩ yX2_isA wsX2_isA) := goodIn_app (goodIn_of _ (by decide +kernel)) ggX11_as_X2_isA
set_option maxRecDepth 20000 in
theorem gX11_as_X2_isA_u278X4 : GoodIn wsX11_as (va_wsU RX11 278 RX4 "TurnipSquires$Kind" ⟨"TurnipSquires$Kind", "isA", "(I)Z"⟩ yX2_isA wsX2_isA) := goodIn_app (goodIn_of _ (by decide +kernel)) ggX11_as_X2_isA
set_option maxRecDepth 20000 in
theorem gX11_as_X2_isA_u278X5 : GoodIn wsX11_as (va_wsU RX11 278 RX5 "TurnipSquires$Kind" ⟨"TurnipSquires$Kind", "isA", "(I)Z"⟩ yX2_isA wsX2_isA) := goodIn_app (goodIn_of _ (by decide +kernel)) ggX11_as_X2_isA
set_option maxRecDepth 20000 in
theorem gX11_as_X2_isA_u278X8 : GoodIn wsX11_as (va_wsU RX11 278 RX8 "TurnipSquires$Kind" ⟨"TurnipSquires$Kind", "isA", "(I)Z"⟩ yX2_isA wsX2_isA) := goodIn_app (goodIn_of _ (by decide +kernel)) ggX11_as_X2_isA
set_option maxRecDepth 20000 in
theorem ggX11_as_X11_fine : GoodIn wsX11_as wsX11_fine := goodIn_r _ [31, 32, 38, 39, 40, 41, 42, 43, 44, 45, 46, 47, 48, 49, 50] (by decide +kernel) (by decide +kernel)
set_option maxRecDepth 20000 in
theorem gX11_as_X11_fine : GoodIn wsX11_as (wsV RX11 98 RX11 yX11_fine wsX11_fine) := goodIn_app (goodIn_of _ (by decide +kernel)) ggX11_as_X11_fine
set_option maxRecDepth 20000 in
theorem ggX11_as_X11_found : GoodIn wsX11_as wsX11_found := goodIn_r _ [36, 32, 37, 38, 39, 40, 41, 42, 43, 44, 45, 46, 47, 48, 49, 50] (by decide +kernel) (by decide +kernel)
set_option maxRecDepth 20000 in
theorem gX11_as_X11_found : GoodIn wsX11_as (wsV RX11 90 RX11 yX11_found wsX11_found) := goodIn_app (goodIn_of _ (by decide +kernel)) ggX11_as_X11_found
theorem dX11_as_0 : decode cX11_as 0 = .ok (.aload_n 0, 1) := by decide +kernel
theorem dX11_as_1 : decode cX11_as 1 = .ok (.iload_n 1, 1) := by decide +kernel
theorem dX11_as_2 : decode cX11_as 2 = .ok (.invokevirtual 177, 3) := by decide +kernel
theorem dX11_as_5 : decode cX11_as 5 = .ok (.ifCond .eq 12, 3) := by decide +kernel
theorem dX11_as_8 : decode cX11_as 8 = .ok (.iload_n 2, 1) := by decide +kernel
theorem dX11_as_9 : decode cX11_as 9 = .ok (.iconst 0, 1) := by decide +kernel
theorem dX11_as_10 : decode cX11_as 10 = .ok (.iconst 5, 1) := by decide +kernel
theorem dX11_as_11 : decode cX11_as 11 = .ok (.invokestatic 85, 3) := by decide +kernel
theorem dX11_as_14 : decode cX11_as 14 = .ok (.ifCond .eq 6, 3) := by decide +kernel
theorem dX11_as_17 : decode cX11_as 17 = .ok (.ldc 89, 2) := by decide +kernel
theorem dX11_as_19 : decode cX11_as 19 = .ok (.ireturn, 1) := by decide +kernel
theorem dX11_as_20 : decode cX11_as 20 = .ok (.aload_n 0, 1) := by decide +kernel
theorem dX11_as_21 : decode cX11_as 21 = .ok (.getfield 65, 3) := by decide +kernel
theorem dX11_as_24 : decode cX11_as 24 = .ok (.getfield 272, 3) := by decide +kernel
theorem dX11_as_27 : decode cX11_as 27 = .ok (.iload_n 1, 1) := by decide +kernel
theorem dX11_as_28 : decode cX11_as 28 = .ok (.aaload, 1) := by decide +kernel
theorem dX11_as_29 : decode cX11_as 29 = .ok (.iload_n 2, 1) := by decide +kernel
theorem dX11_as_30 : decode cX11_as 30 = .ok (.invokevirtual 278, 3) := by decide +kernel
theorem dX11_as_33 : decode cX11_as 33 = .ok (.ifCond .eq 11, 3) := by decide +kernel
theorem dX11_as_36 : decode cX11_as 36 = .ok (.aload_n 0, 1) := by decide +kernel
theorem dX11_as_37 : decode cX11_as 37 = .ok (.iload_n 1, 1) := by decide +kernel
theorem dX11_as_38 : decode cX11_as 38 = .ok (.invokevirtual 98, 3) := by decide +kernel
theorem dX11_as_41 : decode cX11_as 41 = .ok (.goto 8, 3) := by decide +kernel
theorem dX11_as_44 : decode cX11_as 44 = .ok (.aload_n 0, 1) := by decide +kernel
theorem dX11_as_45 : decode cX11_as 45 = .ok (.iconst 3, 1) := by decide +kernel
theorem dX11_as_46 : decode cX11_as 46 = .ok (.invokevirtual 90, 3) := by decide +kernel
theorem dX11_as_49 : decode cX11_as 49 = .ok (.ireturn, 1) := by decide +kernel
set_option maxRecDepth 20000 in
theorem ggX11_ask_X11_isTurnip : GoodIn wsX11_ask wsX11_isTurnip := goodIn_r _ [10, 4, 11, 98, 99, 100, 101, 102, 103, 104, 105, 106, 107, 108, 109, 110, 113, 114, 115, 116, 117, 118, 119, 120, 121, 122, 123, 124, 125] (by decide +kernel) (by decide +kernel)
set_option maxRecDepth 20000 in
theorem gX11_ask_X11_isTurnip : GoodIn wsX11_ask (wsV RX11 177 RX11 yX11_isTurnip wsX11_isTurnip) := goodIn_app (goodIn_of _ (by decide +kernel)) ggX11_ask_X11_isTurnip
set_option maxRecDepth 20000 in
theorem ggX11_ask_X11_outside : GoodIn wsX11_ask wsX11_outside := goodIn_r _ [14] (by decide +kernel) (by decide +kernel)
set_option maxRecDepth 20000 in
theorem gX11_ask_X11_outside : GoodIn wsX11_ask (va_wsS RX11 85 yX11_outside wsX11_outside) := goodIn_app (goodIn_of _ (by decide +kernel)) ggX11_ask_X11_outside
set_option maxRecDepth 20000 in
theorem ggX11_ask_X0_size : GoodIn wsX11_ask wsX0_size := goodIn_r _ [21, 22, 23, 24, 25, 26, 27, 28, 29, 16, 30, 31, 32, 33, 34, 35, 111, 112, 113, 114, 115, 116, 117, 118, 119, 120, 121, 122, 123, 124, 125] (by decide +kernel) (by decide +kernel)
set_option maxRecDepth 20000 in
theorem gX11_ask_X0_size_u282X0 : GoodIn wsX11_ask (va_wsO RX11 282 RX0 "TurnipSquires$Kind" ⟨"TurnipSquires$Kind", "size", "(LTurnipSquires$Field;ILTurnipSquires$Trace;)I"⟩ yX0_size wsX0_size) := goodIn_app (goodIn_of _ (by decide +kernel)) ggX11_ask_X0_size
set_option maxRecDepth 20000 in
theorem ggX11_ask_X3_size : GoodIn wsX11_ask wsX3_size := goodIn_r _ [39, 40, 23, 24, 25, 26, 27, 28, 41, 42, 43, 44, 45, 46, 47, 48, 16, 49, 31, 32, 33, 34, 35, 50, 51, 52, 53, 54, 38, 55, 56, 57, 58, 59, 60, 61, 62, 63, 64, 65, 66, 67, 68, 69, 70, 71, 72, 111, 112, 113, 114, 115, 116, 117, 118, 119, 120, 121, 122, 123, 124, 125] (by decide +kernel) (by decide +kernel)
set_option maxRecDepth 20000 in
theorem gX11_ask_X3_size_u282X3 : GoodIn wsX11_ask (va_wsO RX11 282 RX3 "TurnipSquires$Kind" ⟨"TurnipSquires$Kind", "size", "(LTurnipSquires$Field;ILTurnipSquires$Trace;)I"⟩ yX3_size wsX3_size) := goodIn_app (goodIn_of _ (by decide +kernel)) ggX11_ask_X3_size
set_option maxRecDepth 20000 in
theorem ggX11_ask_X4_size : GoodIn wsX11_ask wsX4_size := goodIn_r _ [46, 47, 23, 24, 25, 26, 27, 28, 48, 16, 49, 31, 32, 33, 34, 35, 50, 51, 52, 53, 54, 38, 55, 40, 56, 43, 57, 45, 58, 59, 60, 61, 62, 63, 64, 65, 66, 67, 68, 69, 70, 71, 72, 111, 112, 113, 114, 115, 116, 117, 118, 119, 120, 121, 122, 123, 124, 125] (by decide +kernel) (by decide +kernel)
set_option maxRecDepth 20000 in
theorem gX11_ask_X4_size_u282X4 : GoodIn wsX11_ask (va_wsO RX11 282 RX4 "TurnipSquires$Kind" ⟨"TurnipSquires$Kind", "size", "(LTurnipSquires$Field;ILTurnipSquires$Trace;)I"⟩ yX4_size wsX4_size) := goodIn_app (goodIn_of _ (by decide +kernel)) ggX11_ask_X4_size
set_option maxRecDepth 20000 in
theorem gX11_ask_X4_size_u282X5 : GoodIn wsX11_ask (va_wsO RX11 282 RX5 "TurnipSquires$Kind" ⟨"TurnipSquires$Kind", "size", "(LTurnipSquires$Field;ILTurnipSquires$Trace;)I"⟩ yX4_size wsX4_size) := goodIn_app (goodIn_of _ (by decide +kernel)) ggX11_ask_X4_size
set_option maxRecDepth 20000 in
theorem ggX11_ask_X8_size : GoodIn wsX11_ask wsX8_size := goodIn_r _ [78, 79, 23, 24, 25, 26, 27, 28, 80, 81, 82, 19, 20, 21, 22, 29, 16, 30, 31, 32, 33, 34, 35, 111, 112, 113, 114, 115, 116, 117, 118, 119, 120, 121, 122, 123, 124, 125] (by decide +kernel) (by decide +kernel)
set_option maxRecDepth 20000 in
theorem gX11_ask_X8_size_u282X8 : GoodIn wsX11_ask (va_wsO RX11 282 RX8 "TurnipSquires$Kind" ⟨"TurnipSquires$Kind", "size", "(LTurnipSquires$Field;ILTurnipSquires$Trace;)I"⟩ yX8_size wsX8_size) := goodIn_app (goodIn_of _ (by decide +kernel)) ggX11_ask_X8_size
set_option maxRecDepth 20000 in
theorem ggX11_ask_X0_mark : GoodIn wsX11_ask wsX0_mark := goodIn_r _ [87, 22, 23, 24, 25, 26, 27, 28, 88, 61, 30, 62, 32, 63, 35, 89, 19, 90, 20, 21, 29, 16, 31, 33, 34, 91, 81, 92, 93, 76, 77, 78, 79, 80, 82, 111, 112, 113, 114, 115, 116, 117, 118, 119, 120, 121, 122, 123, 124, 125] (by decide +kernel) (by decide +kernel)
set_option maxRecDepth 20000 in
theorem gX11_ask_X0_mark_u285X0 : GoodIn wsX11_ask (va_wsO RX11 285 RX0 "TurnipSquires$Kind" ⟨"TurnipSquires$Kind", "mark", "(LTurnipSquires$Field;ILTurnipSquires$Trace;)I"⟩ yX0_mark wsX0_mark) := goodIn_app (goodIn_of _ (by decide +kernel)) ggX11_ask_X0_mark
set_option maxRecDepth 20000 in
theorem ggX11_ask_X3_mark : GoodIn wsX11_ask wsX3_mark := goodIn_r _ [55, 40, 23, 24, 25, 26, 27, 28, 56, 51, 43, 57, 45, 58, 59, 47, 60, 61, 49, 62, 32, 63, 35, 111, 112, 113, 114, 115, 116, 117, 118, 119, 120, 121, 122, 123, 124, 125] (by decide +kernel) (by decide +kernel)
set_option maxRecDepth 20000 in
theorem gX11_ask_X3_mark_u285X3 : GoodIn wsX11_ask (va_wsO RX11 285 RX3 "TurnipSquires$Kind" ⟨"TurnipSquires$Kind", "mark", "(LTurnipSquires$Field;ILTurnipSquires$Trace;)I"⟩ yX3_mark wsX3_mark) := goodIn_app (goodIn_of _ (by decide +kernel)) ggX11_ask_X3_mark
set_option maxRecDepth 20000 in
theorem ggX11_ask_X4_mark : GoodIn wsX11_ask wsX4_mark := goodIn_r _ [58, 59, 47, 23, 24, 25, 26, 27, 28, 60, 61, 49, 62, 32, 63, 35, 113, 114, 115, 116, 117, 118, 119, 120, 121, 122, 123, 124, 125, 111, 112] (by decide +kernel) (by decide +kernel)
set_option maxRecDepth 20000 in
theorem gX11_ask_X4_mark_u285X4 : GoodIn wsX11_ask (va_wsO RX11 285 RX4 "TurnipSquires$Kind" ⟨"TurnipSquires$Kind", "mark", "(LTurnipSquires$Field;ILTurnipSquires$Trace;)I"⟩ yX4_mark wsX4_mark) := goodIn_app (goodIn_of _ (by decide +kernel)) ggX11_ask_X4_mark
set_option maxRecDepth 20000 in
theorem ggX11_ask_X5_mark : GoodIn wsX11_ask wsX5_mark := goodIn_r _ [69, 70, 23, 24, 25, 26, 27, 28, 71, 51, 72, 57, 45, 58, 59, 47, 60, 61, 49, 62, 32, 63, 35, 111, 112, 113, 114, 115, 116, 117, 118, 119, 120, 121, 122, 123, 124, 125] (by decide +kernel) (by decide +kernel)
set_option maxRecDepth 20000 in
theorem gX11_ask_X5_mark_u285X5 : GoodIn wsX11_ask (va_wsO RX11 285 RX5 "TurnipSquires$Kind" ⟨"TurnipSquires$Kind", "mark", "(LTurnipSquires$Field;ILTurnipSquires$Trace;)I"⟩ yX5_mark wsX5_mark) := goodIn_app (goodIn_of _ (by decide +kernel)) ggX11_ask_X5_mark
set_option maxRecDepth 20000 in
theorem gX11_ask_X0_mark_u285X8 : GoodIn wsX11_ask (va_wsO RX11 285 RX8 "TurnipSquires$Kind" ⟨"TurnipSquires$Kind", "mark", "(LTurnipSquires$Field;ILTurnipSquires$Trace;)I"⟩ yX0_mark wsX0_mark) := goodIn_app (goodIn_of _ (by decide +kernel)) ggX11_ask_X0_mark
theorem dX11_ask_0 : decode cX11_ask 0 = .ok (.aload_n 0, 1) := by decide +kernel
theorem dX11_ask_1 : decode cX11_ask 1 = .ok (.iload_n 1, 1) := by decide +kernel
theorem dX11_ask_2 : decode cX11_ask 2 = .ok (.invokevirtual 177, 3) := by decide +kernel
theorem dX11_ask_5 : decode cX11_ask 5 = .ok (.ifCond .eq 12, 3) := by decide +kernel
theorem dX11_ask_8 : decode cX11_ask 8 = .ok (.iload_n 2, 1) := by decide +kernel
theorem dX11_ask_9 : decode cX11_ask 9 = .ok (.iconst 0, 1) := by decide +kernel
theorem dX11_ask_10 : decode cX11_ask 10 = .ok (.iconst 1, 1) := by decide +kernel
theorem dX11_ask_11 : decode cX11_ask 11 = .ok (.invokestatic 85, 3) := by decide +kernel
theorem dX11_ask_14 : decode cX11_ask 14 = .ok (.ifCond .eq 6, 3) := by decide +kernel
theorem dX11_ask_17 : decode cX11_ask 17 = .ok (.ldc 89, 2) := by decide +kernel
theorem dX11_ask_19 : decode cX11_ask 19 = .ok (.ireturn, 1) := by decide +kernel
theorem dX11_ask_20 : decode cX11_ask 20 = .ok (.aload_n 0, 1) := by decide +kernel
theorem dX11_ask_21 : decode cX11_ask 21 = .ok (.getfield 25, 3) := by decide +kernel
theorem dX11_ask_24 : decode cX11_ask 24 = .ok (.iconst 0, 1) := by decide +kernel
theorem dX11_ask_25 : decode cX11_ask 25 = .ok (.putfield 281, 3) := by decide +kernel
theorem dX11_ask_28 : decode cX11_ask 28 = .ok (.aload_n 0, 1) := by decide +kernel
theorem dX11_ask_29 : decode cX11_ask 29 = .ok (.getfield 65, 3) := by decide +kernel
theorem dX11_ask_32 : decode cX11_ask 32 = .ok (.getfield 272, 3) := by decide +kernel
theorem dX11_ask_35 : decode cX11_ask 35 = .ok (.iload_n 1, 1) := by decide +kernel
theorem dX11_ask_36 : decode cX11_ask 36 = .ok (.aaload, 1) := by decide +kernel
theorem dX11_ask_37 : decode cX11_ask 37 = .ok (.astore_n 3, 1) := by decide +kernel
theorem dX11_ask_38 : decode cX11_ask 38 = .ok (.iload_n 2, 1) := by decide +kernel
theorem dX11_ask_39 : decode cX11_ask 39 = .ok (.ifCond .ne 19, 3) := by decide +kernel
theorem dX11_ask_42 : decode cX11_ask 42 = .ok (.aload_n 3, 1) := by decide +kernel
theorem dX11_ask_43 : decode cX11_ask 43 = .ok (.aload_n 0, 1) := by decide +kernel
theorem dX11_ask_44 : decode cX11_ask 44 = .ok (.getfield 65, 3) := by decide +kernel
theorem dX11_ask_47 : decode cX11_ask 47 = .ok (.iload_n 1, 1) := by decide +kernel
theorem dX11_ask_48 : decode cX11_ask 48 = .ok (.aload_n 0, 1) := by decide +kernel
theorem dX11_ask_49 : decode cX11_ask 49 = .ok (.getfield 25, 3) := by decide +kernel
theorem dX11_ask_52 : decode cX11_ask 52 = .ok (.invokevirtual 282, 3) := by decide +kernel
theorem dX11_ask_55 : decode cX11_ask 55 = .ok (.goto 16, 3) := by decide +kernel
theorem dX11_ask_58 : decode cX11_ask 58 = .ok (.aload_n 3, 1) := by decide +kernel
theorem dX11_ask_59 : decode cX11_ask 59 = .ok (.aload_n 0, 1) := by decide +kernel
theorem dX11_ask_60 : decode cX11_ask 60 = .ok (.getfield 65, 3) := by decide +kernel
theorem dX11_ask_63 : decode cX11_ask 63 = .ok (.iload_n 1, 1) := by decide +kernel
theorem dX11_ask_64 : decode cX11_ask 64 = .ok (.aload_n 0, 1) := by decide +kernel
theorem dX11_ask_65 : decode cX11_ask 65 = .ok (.getfield 25, 3) := by decide +kernel
theorem dX11_ask_68 : decode cX11_ask 68 = .ok (.invokevirtual 285, 3) := by decide +kernel
theorem dX11_ask_71 : decode cX11_ask 71 = .ok (.ireturn, 1) := by decide +kernel
theorem dX11_trace_0 : decode cX11_trace 0 = .ok (.iload_n 1, 1) := by decide +kernel
theorem dX11_trace_1 : decode cX11_trace 1 = .ok (.ifCond .lt 26, 3) := by decide +kernel
theorem dX11_trace_4 : decode cX11_trace 4 = .ok (.iload_n 1, 1) := by decide +kernel
theorem dX11_trace_5 : decode cX11_trace 5 = .ok (.aload_n 0, 1) := by decide +kernel
theorem dX11_trace_6 : decode cX11_trace 6 = .ok (.getfield 25, 3) := by decide +kernel
theorem dX11_trace_9 : decode cX11_trace 9 = .ok (.getfield 281, 3) := by decide +kernel
theorem dX11_trace_12 : decode cX11_trace 12 = .ok (.if_icmp .ge 15, 3) := by decide +kernel
theorem dX11_trace_15 : decode cX11_trace 15 = .ok (.aload_n 0, 1) := by decide +kernel
theorem dX11_trace_16 : decode cX11_trace 16 = .ok (.getfield 25, 3) := by decide +kernel
theorem dX11_trace_19 : decode cX11_trace 19 = .ok (.getfield 288, 3) := by decide +kernel
theorem dX11_trace_22 : decode cX11_trace 22 = .ok (.iload_n 1, 1) := by decide +kernel
theorem dX11_trace_23 : decode cX11_trace 23 = .ok (.iaload, 1) := by decide +kernel
theorem dX11_trace_24 : decode cX11_trace 24 = .ok (.goto 5, 3) := by decide +kernel
theorem dX11_trace_27 : decode cX11_trace 27 = .ok (.ldc 229, 2) := by decide +kernel
theorem dX11_trace_29 : decode cX11_trace 29 = .ok (.ireturn, 1) := by decide +kernel
set_option maxRecDepth 20000 in
theorem ggX11_count_X11_rowsThere : GoodIn wsX11_count wsX11_rowsThere := goodIn_r _ [14, 15, 16, 33, 34, 35, 36, 37, 38, 39, 40, 41, 42, 43, 44, 45, 64, 65, 66, 67] (by decide +kernel) (by decide +kernel)
set_option maxRecDepth 20000 in
theorem gX11_count_X11_rowsThere : GoodIn wsX11_count (wsV RX11 291 RX11 yX11_rowsThere wsX11_rowsThere) := goodIn_app (goodIn_of _ (by decide +kernel)) ggX11_count_X11_rowsThere
set_option maxRecDepth 20000 in
theorem ggX11_count_X1_allRanks : GoodIn wsX11_count wsX1_allRanks := goodIn_r _ [21, 22, 23, 24, 25, 20, 26, 27, 46, 47, 48, 49, 50, 51, 52, 53, 54, 55, 56, 57, 58] (by decide +kernel) (by decide +kernel)
set_option maxRecDepth 20000 in
theorem gX11_count_X1_allRanks : GoodIn wsX11_count (wsV RX11 173 RX1 yX1_allRanks wsX1_allRanks) := goodIn_app (goodIn_of _ (by decide +kernel)) ggX11_count_X1_allRanks
set_option maxRecDepth 20000 in
theorem ggX11_count_X1_allMarried : GoodIn wsX11_count wsX1_allMarried := goodIn_r _ [31, 22, 32, 46, 47, 48, 49, 50, 51, 52, 53, 54, 55, 56, 57, 58] (by decide +kernel) (by decide +kernel)
set_option maxRecDepth 20000 in
theorem gX11_count_X1_allMarried : GoodIn wsX11_count (wsV RX11 183 RX1 yX1_allMarried wsX1_allMarried) := goodIn_app (goodIn_of _ (by decide +kernel)) ggX11_count_X1_allMarried
theorem dX11_count_0 : decode cX11_count 0 = .ok (.iload_n 1, 1) := by decide +kernel
theorem dX11_count_1 : decode cX11_count 1 = .ok (.tableswitch 117 0 8 #[51, 56, 64, 72, 80, 88, 96, 104, 109], 51) := by decide +kernel
theorem dX11_count_52 : decode cX11_count 52 = .ok (.aload_n 0, 1) := by decide +kernel
theorem dX11_count_53 : decode cX11_count 53 = .ok (.invokevirtual 291, 3) := by decide +kernel
theorem dX11_count_56 : decode cX11_count 56 = .ok (.ireturn, 1) := by decide +kernel
theorem dX11_count_57 : decode cX11_count 57 = .ok (.aload_n 0, 1) := by decide +kernel
theorem dX11_count_58 : decode cX11_count 58 = .ok (.getfield 65, 3) := by decide +kernel
theorem dX11_count_61 : decode cX11_count 61 = .ok (.getfield 155, 3) := by decide +kernel
theorem dX11_count_64 : decode cX11_count 64 = .ok (.ireturn, 1) := by decide +kernel
theorem dX11_count_65 : decode cX11_count 65 = .ok (.aload_n 0, 1) := by decide +kernel
theorem dX11_count_66 : decode cX11_count 66 = .ok (.getfield 65, 3) := by decide +kernel
theorem dX11_count_69 : decode cX11_count 69 = .ok (.getfield 159, 3) := by decide +kernel
theorem dX11_count_72 : decode cX11_count 72 = .ok (.ireturn, 1) := by decide +kernel
theorem dX11_count_73 : decode cX11_count 73 = .ok (.aload_n 0, 1) := by decide +kernel
theorem dX11_count_74 : decode cX11_count 74 = .ok (.getfield 65, 3) := by decide +kernel
theorem dX11_count_77 : decode cX11_count 77 = .ok (.getfield 195, 3) := by decide +kernel
theorem dX11_count_80 : decode cX11_count 80 = .ok (.ireturn, 1) := by decide +kernel
theorem dX11_count_81 : decode cX11_count 81 = .ok (.aload_n 0, 1) := by decide +kernel
theorem dX11_count_82 : decode cX11_count 82 = .ok (.getfield 65, 3) := by decide +kernel
theorem dX11_count_85 : decode cX11_count 85 = .ok (.getfield 294, 3) := by decide +kernel
theorem dX11_count_88 : decode cX11_count 88 = .ok (.ireturn, 1) := by decide +kernel
theorem dX11_count_89 : decode cX11_count 89 = .ok (.aload_n 0, 1) := by decide +kernel
theorem dX11_count_90 : decode cX11_count 90 = .ok (.getfield 65, 3) := by decide +kernel
theorem dX11_count_93 : decode cX11_count 93 = .ok (.invokevirtual 173, 3) := by decide +kernel
theorem dX11_count_96 : decode cX11_count 96 = .ok (.ireturn, 1) := by decide +kernel
theorem dX11_count_97 : decode cX11_count 97 = .ok (.aload_n 0, 1) := by decide +kernel
theorem dX11_count_98 : decode cX11_count 98 = .ok (.getfield 65, 3) := by decide +kernel
theorem dX11_count_101 : decode cX11_count 101 = .ok (.invokevirtual 183, 3) := by decide +kernel
theorem dX11_count_104 : decode cX11_count 104 = .ok (.ireturn, 1) := by decide +kernel
theorem dX11_count_105 : decode cX11_count 105 = .ok (.aload_n 0, 1) := by decide +kernel
theorem dX11_count_106 : decode cX11_count 106 = .ok (.getfield 152, 3) := by decide +kernel
theorem dX11_count_109 : decode cX11_count 109 = .ok (.ireturn, 1) := by decide +kernel
theorem dX11_count_110 : decode cX11_count 110 = .ok (.aload_n 0, 1) := by decide +kernel
theorem dX11_count_111 : decode cX11_count 111 = .ok (.getfield 18, 3) := by decide +kernel
theorem dX11_count_114 : decode cX11_count 114 = .ok (.getfield 132, 3) := by decide +kernel
theorem dX11_count_117 : decode cX11_count 117 = .ok (.ireturn, 1) := by decide +kernel
theorem dX11_count_118 : decode cX11_count 118 = .ok (.ldc 89, 2) := by decide +kernel
theorem dX11_count_120 : decode cX11_count 120 = .ok (.ireturn, 1) := by decide +kernel
theorem dX11_status_0 : decode cX11_status 0 = .ok (.aload_n 0, 1) := by decide +kernel
theorem dX11_status_1 : decode cX11_status 1 = .ok (.getfield 297, 3) := by decide +kernel
theorem dX11_status_4 : decode cX11_status 4 = .ok (.ireturn, 1) := by decide +kernel
theorem dX11_outside_0 : decode cX11_outside 0 = .ok (.iload_n 0, 1) := by decide +kernel
theorem dX11_outside_1 : decode cX11_outside 1 = .ok (.iload_n 1, 1) := by decide +kernel
theorem dX11_outside_2 : decode cX11_outside 2 = .ok (.if_icmp .lt 8, 3) := by decide +kernel
theorem dX11_outside_5 : decode cX11_outside 5 = .ok (.iload_n 0, 1) := by decide +kernel
theorem dX11_outside_6 : decode cX11_outside 6 = .ok (.iload_n 2, 1) := by decide +kernel
theorem dX11_outside_7 : decode cX11_outside 7 = .ok (.if_icmp .le 7, 3) := by decide +kernel
theorem dX11_outside_10 : decode cX11_outside 10 = .ok (.iconst 1, 1) := by decide +kernel
theorem dX11_outside_11 : decode cX11_outside 11 = .ok (.goto 4, 3) := by decide +kernel
theorem dX11_outside_14 : decode cX11_outside 14 = .ok (.iconst 0, 1) := by decide +kernel
theorem dX11_outside_15 : decode cX11_outside 15 = .ok (.ireturn, 1) := by decide +kernel
theorem dX11_mateToTell_0 : decode cX11_mateToTell 0 = .ok (.iload_n 0, 1) := by decide +kernel
theorem dX11_mateToTell_1 : decode cX11_mateToTell 1 = .ok (.iconst (-1), 1) := by decide +kernel
theorem dX11_mateToTell_2 : decode cX11_mateToTell 2 = .ok (.if_icmp .ne 8, 3) := by decide +kernel
theorem dX11_mateToTell_5 : decode cX11_mateToTell 5 = .ok (.ldc 229, 2) := by decide +kernel
theorem dX11_mateToTell_7 : decode cX11_mateToTell 7 = .ok (.goto 4, 3) := by decide +kernel
theorem dX11_mateToTell_10 : decode cX11_mateToTell 10 = .ok (.iload_n 0, 1) := by decide +kernel
theorem dX11_mateToTell_11 : decode cX11_mateToTell 11 = .ok (.ireturn, 1) := by decide +kernel
theorem dX11_isRow_0 : decode cX11_isRow 0 = .ok (.iload_n 0, 1) := by decide +kernel
theorem dX11_isRow_1 : decode cX11_isRow 1 = .ok (.ifCond .lt 13, 3) := by decide +kernel
theorem dX11_isRow_4 : decode cX11_isRow 4 = .ok (.iload_n 0, 1) := by decide +kernel
theorem dX11_isRow_5 : decode cX11_isRow 5 = .ok (.bipush 8, 2) := by decide +kernel
theorem dX11_isRow_7 : decode cX11_isRow 7 = .ok (.if_icmp .ge 7, 3) := by decide +kernel
theorem dX11_isRow_10 : decode cX11_isRow 10 = .ok (.iconst 1, 1) := by decide +kernel
theorem dX11_isRow_11 : decode cX11_isRow 11 = .ok (.goto 4, 3) := by decide +kernel
theorem dX11_isRow_14 : decode cX11_isRow 14 = .ok (.iconst 0, 1) := by decide +kernel
theorem dX11_isRow_15 : decode cX11_isRow 15 = .ok (.ireturn, 1) := by decide +kernel
theorem dX11_isTurnip_0 : decode cX11_isTurnip 0 = .ok (.iload_n 1, 1) := by decide +kernel
theorem dX11_isTurnip_1 : decode cX11_isTurnip 1 = .ok (.ifCond .lt 18, 3) := by decide +kernel
theorem dX11_isTurnip_4 : decode cX11_isTurnip 4 = .ok (.iload_n 1, 1) := by decide +kernel
theorem dX11_isTurnip_5 : decode cX11_isTurnip 5 = .ok (.aload_n 0, 1) := by decide +kernel
theorem dX11_isTurnip_6 : decode cX11_isTurnip 6 = .ok (.getfield 65, 3) := by decide +kernel
theorem dX11_isTurnip_9 : decode cX11_isTurnip 9 = .ok (.getfield 155, 3) := by decide +kernel
theorem dX11_isTurnip_12 : decode cX11_isTurnip 12 = .ok (.if_icmp .ge 7, 3) := by decide +kernel
theorem dX11_isTurnip_15 : decode cX11_isTurnip 15 = .ok (.iconst 1, 1) := by decide +kernel
theorem dX11_isTurnip_16 : decode cX11_isTurnip 16 = .ok (.goto 4, 3) := by decide +kernel
theorem dX11_isTurnip_19 : decode cX11_isTurnip 19 = .ok (.iconst 0, 1) := by decide +kernel
theorem dX11_isTurnip_20 : decode cX11_isTurnip 20 = .ok (.ireturn, 1) := by decide +kernel
theorem dX11_found_0 : decode cX11_found 0 = .ok (.aload_n 0, 1) := by decide +kernel
theorem dX11_found_1 : decode cX11_found 1 = .ok (.iload_n 1, 1) := by decide +kernel
theorem dX11_found_2 : decode cX11_found 2 = .ok (.putfield 297, 3) := by decide +kernel
theorem dX11_found_5 : decode cX11_found 5 = .ok (.ldc_w 300, 3) := by decide +kernel
theorem dX11_found_8 : decode cX11_found 8 = .ok (.iload_n 1, 1) := by decide +kernel
theorem dX11_found_9 : decode cX11_found 9 = .ok (.isub, 1) := by decide +kernel
theorem dX11_found_10 : decode cX11_found 10 = .ok (.ireturn, 1) := by decide +kernel
theorem dX11_fine_0 : decode cX11_fine 0 = .ok (.aload_n 0, 1) := by decide +kernel
theorem dX11_fine_1 : decode cX11_fine 1 = .ok (.iconst 0, 1) := by decide +kernel
theorem dX11_fine_2 : decode cX11_fine 2 = .ok (.putfield 297, 3) := by decide +kernel
theorem dX11_fine_5 : decode cX11_fine 5 = .ok (.iload_n 1, 1) := by decide +kernel
theorem dX11_fine_6 : decode cX11_fine 6 = .ok (.ireturn, 1) := by decide +kernel
theorem dX11_rowsThere_0 : decode cX11_rowsThere 0 = .ok (.iconst 0, 1) := by decide +kernel
theorem dX11_rowsThere_1 : decode cX11_rowsThere 1 = .ok (.istore_n 1, 1) := by decide +kernel
theorem dX11_rowsThere_2 : decode cX11_rowsThere 2 = .ok (.iconst 0, 1) := by decide +kernel
theorem dX11_rowsThere_3 : decode cX11_rowsThere 3 = .ok (.istore_n 2, 1) := by decide +kernel
theorem dX11_rowsThere_4 : decode cX11_rowsThere 4 = .ok (.iload_n 2, 1) := by decide +kernel
theorem dX11_rowsThere_5 : decode cX11_rowsThere 5 = .ok (.bipush 8, 2) := by decide +kernel
theorem dX11_rowsThere_7 : decode cX11_rowsThere 7 = .ok (.if_icmp .ge 24, 3) := by decide +kernel
theorem dX11_rowsThere_10 : decode cX11_rowsThere 10 = .ok (.aload_n 0, 1) := by decide +kernel
theorem dX11_rowsThere_11 : decode cX11_rowsThere 11 = .ok (.getfield 11, 3) := by decide +kernel
theorem dX11_rowsThere_14 : decode cX11_rowsThere 14 = .ok (.iload_n 2, 1) := by decide +kernel
theorem dX11_rowsThere_15 : decode cX11_rowsThere 15 = .ok (.aaload, 1) := by decide +kernel
theorem dX11_rowsThere_16 : decode cX11_rowsThere 16 = .ok (.getfield 101, 3) := by decide +kernel
theorem dX11_rowsThere_19 : decode cX11_rowsThere 19 = .ok (.ifCond .eq 6, 3) := by decide +kernel
theorem dX11_rowsThere_22 : decode cX11_rowsThere 22 = .ok (.iinc 1 1, 3) := by decide +kernel
theorem dX11_rowsThere_25 : decode cX11_rowsThere 25 = .ok (.iinc 2 1, 3) := by decide +kernel
theorem dX11_rowsThere_28 : decode cX11_rowsThere 28 = .ok (.goto (-24), 3) := by decide +kernel
theorem dX11_rowsThere_31 : decode cX11_rowsThere 31 = .ok (.iload_n 1, 1) := by decide +kernel
theorem dX11_rowsThere_32 : decode cX11_rowsThere 32 = .ok (.ireturn, 1) := by decide +kernel
set_option maxRecDepth 20000 in
theorem ggX11_keepAct_X1_become : GoodIn wsX11_keepAct wsX1_become := goodIn_r _ [13, 14, 15, 16, 17, 18, 19, 20, 21, 22, 23, 24, 25, 26, 27, 28, 42, 43, 44, 45, 46, 47, 48, 49, 50, 51, 52, 53, 54] (by decide +kernel) (by decide +kernel)
set_option maxRecDepth 20000 in
theorem gX11_keepAct_X1_become : GoodIn wsX11_keepAct (wsV RX11 148 RX1 yX1_become wsX1_become) := goodIn_app (goodIn_of _ (by decide +kernel)) ggX11_keepAct_X1_become
theorem dX11_keepAct_0 : decode cX11_keepAct 0 = .ok (.aload_n 0, 1) := by decide +kernel
theorem dX11_keepAct_1 : decode cX11_keepAct 1 = .ok (.getfield 37, 3) := by decide +kernel
theorem dX11_keepAct_4 : decode cX11_keepAct 4 = .ok (.aload_n 0, 1) := by decide +kernel
theorem dX11_keepAct_5 : decode cX11_keepAct 5 = .ok (.getfield 198, 3) := by decide +kernel
theorem dX11_keepAct_8 : decode cX11_keepAct 8 = .ok (.aaload, 1) := by decide +kernel
theorem dX11_keepAct_9 : decode cX11_keepAct 9 = .ok (.aload_n 0, 1) := by decide +kernel
theorem dX11_keepAct_10 : decode cX11_keepAct 10 = .ok (.getfield 65, 3) := by decide +kernel
theorem dX11_keepAct_13 : decode cX11_keepAct 13 = .ok (.invokevirtual 148, 3) := by decide +kernel
theorem dX11_keepAct_16 : decode cX11_keepAct 16 = .ok (.aload_n 0, 1) := by decide +kernel
theorem dX11_keepAct_17 : decode cX11_keepAct 17 = .ok (.aload_n 0, 1) := by decide +kernel
theorem dX11_keepAct_18 : decode cX11_keepAct 18 = .ok (.getfield 198, 3) := by decide +kernel
theorem dX11_keepAct_21 : decode cX11_keepAct 21 = .ok (.iconst 1, 1) := by decide +kernel
theorem dX11_keepAct_22 : decode cX11_keepAct 22 = .ok (.iadd, 1) := by decide +kernel
theorem dX11_keepAct_23 : decode cX11_keepAct 23 = .ok (.bipush 24, 2) := by decide +kernel
theorem dX11_keepAct_25 : decode cX11_keepAct 25 = .ok (.irem, 1) := by decide +kernel
theorem dX11_keepAct_26 : decode cX11_keepAct 26 = .ok (.putfield 198, 3) := by decide +kernel
theorem dX11_keepAct_29 : decode cX11_keepAct 29 = .ok (.aload_n 0, 1) := by decide +kernel
theorem dX11_keepAct_30 : decode cX11_keepAct 30 = .ok (.aload_n 0, 1) := by decide +kernel
theorem dX11_keepAct_31 : decode cX11_keepAct 31 = .ok (.getfield 152, 3) := by decide +kernel
theorem dX11_keepAct_34 : decode cX11_keepAct 34 = .ok (.iconst 1, 1) := by decide +kernel
theorem dX11_keepAct_35 : decode cX11_keepAct 35 = .ok (.iadd, 1) := by decide +kernel
theorem dX11_keepAct_36 : decode cX11_keepAct 36 = .ok (.bipush 24, 2) := by decide +kernel
theorem dX11_keepAct_38 : decode cX11_keepAct 38 = .ok (.invokestatic 301, 3) := by decide +kernel
theorem dX11_keepAct_41 : decode cX11_keepAct 41 = .ok (.putfield 152, 3) := by decide +kernel
theorem dX11_keepAct_44 : decode cX11_keepAct 44 = .ok (.return_, 1) := by decide +kernel
theorem dX12_init_0 : decode cX12_init 0 = .ok (.aload_n 0, 1) := by decide +kernel
theorem dX12_init_1 : decode cX12_init 1 = .ok (.invokespecial 1, 3) := by decide +kernel
theorem dX12_init_4 : decode cX12_init 4 = .ok (.aload_n 0, 1) := by decide +kernel
theorem dX12_init_5 : decode cX12_init 5 = .ok (.bipush 8, 2) := by decide +kernel
theorem dX12_init_7 : decode cX12_init 7 = .ok (.newarray .int, 2) := by decide +kernel
theorem dX12_init_9 : decode cX12_init 9 = .ok (.putfield 7, 3) := by decide +kernel
theorem dX12_init_12 : decode cX12_init 12 = .ok (.aload_n 0, 1) := by decide +kernel
theorem dX12_init_13 : decode cX12_init 13 = .ok (.bipush 8, 2) := by decide +kernel
theorem dX12_init_15 : decode cX12_init 15 = .ok (.newarray .int, 2) := by decide +kernel
theorem dX12_init_17 : decode cX12_init 17 = .ok (.putfield 13, 3) := by decide +kernel
theorem dX12_init_20 : decode cX12_init 20 = .ok (.aload_n 0, 1) := by decide +kernel
theorem dX12_init_21 : decode cX12_init 21 = .ok (.sipush 320, 3) := by decide +kernel
theorem dX12_init_24 : decode cX12_init 24 = .ok (.newarray .int, 2) := by decide +kernel
theorem dX12_init_26 : decode cX12_init 26 = .ok (.putfield 16, 3) := by decide +kernel
theorem dX12_init_29 : decode cX12_init 29 = .ok (.aload_n 0, 1) := by decide +kernel
theorem dX12_init_30 : decode cX12_init 30 = .ok (.bipush 40, 2) := by decide +kernel
theorem dX12_init_32 : decode cX12_init 32 = .ok (.newarray .int, 2) := by decide +kernel
theorem dX12_init_34 : decode cX12_init 34 = .ok (.putfield 19, 3) := by decide +kernel
theorem dX12_init_37 : decode cX12_init 37 = .ok (.aload_n 0, 1) := by decide +kernel
theorem dX12_init_38 : decode cX12_init 38 = .ok (.bipush 90, 2) := by decide +kernel
theorem dX12_init_40 : decode cX12_init 40 = .ok (.newarray .int, 2) := by decide +kernel
theorem dX12_init_42 : decode cX12_init 42 = .ok (.putfield 22, 3) := by decide +kernel
theorem dX12_init_45 : decode cX12_init 45 = .ok (.aload_n 0, 1) := by decide +kernel
theorem dX12_init_46 : decode cX12_init 46 = .ok (.bipush 46, 2) := by decide +kernel
theorem dX12_init_48 : decode cX12_init 48 = .ok (.newarray .int, 2) := by decide +kernel
theorem dX12_init_50 : decode cX12_init 50 = .ok (.putfield 25, 3) := by decide +kernel
theorem dX12_init_53 : decode cX12_init 53 = .ok (.aload_n 0, 1) := by decide +kernel
theorem dX12_init_54 : decode cX12_init 54 = .ok (.bipush 46, 2) := by decide +kernel
theorem dX12_init_56 : decode cX12_init 56 = .ok (.newarray .int, 2) := by decide +kernel
theorem dX12_init_58 : decode cX12_init 58 = .ok (.putfield 28, 3) := by decide +kernel
theorem dX12_init_61 : decode cX12_init 61 = .ok (.aload_n 0, 1) := by decide +kernel
theorem dX12_init_62 : decode cX12_init 62 = .ok (.bipush 46, 2) := by decide +kernel
theorem dX12_init_64 : decode cX12_init 64 = .ok (.newarray .int, 2) := by decide +kernel
theorem dX12_init_66 : decode cX12_init 66 = .ok (.putfield 31, 3) := by decide +kernel
theorem dX12_init_69 : decode cX12_init 69 = .ok (.aload_n 0, 1) := by decide +kernel
theorem dX12_init_70 : decode cX12_init 70 = .ok (.sipush 1104, 3) := by decide +kernel
theorem dX12_init_73 : decode cX12_init 73 = .ok (.newarray .int, 2) := by decide +kernel
theorem dX12_init_75 : decode cX12_init 75 = .ok (.putfield 34, 3) := by decide +kernel
theorem dX12_init_78 : decode cX12_init 78 = .ok (.aload_n 0, 1) := by decide +kernel
theorem dX12_init_79 : decode cX12_init 79 = .ok (.bipush 92, 2) := by decide +kernel
theorem dX12_init_81 : decode cX12_init 81 = .ok (.newarray .int, 2) := by decide +kernel
theorem dX12_init_83 : decode cX12_init 83 = .ok (.putfield 37, 3) := by decide +kernel
theorem dX12_init_86 : decode cX12_init 86 = .ok (.aload_n 0, 1) := by decide +kernel
theorem dX12_init_87 : decode cX12_init 87 = .ok (.iconst 2, 1) := by decide +kernel
theorem dX12_init_88 : decode cX12_init 88 = .ok (.newarray .boolean, 2) := by decide +kernel
theorem dX12_init_90 : decode cX12_init 90 = .ok (.putfield 40, 3) := by decide +kernel
theorem dX12_init_93 : decode cX12_init 93 = .ok (.aload_n 0, 1) := by decide +kernel
theorem dX12_init_94 : decode cX12_init 94 = .ok (.bipush 7, 2) := by decide +kernel
theorem dX12_init_96 : decode cX12_init 96 = .ok (.newarray .int, 2) := by decide +kernel
theorem dX12_init_98 : decode cX12_init 98 = .ok (.putfield 44, 3) := by decide +kernel
theorem dX12_init_101 : decode cX12_init 101 = .ok (.aload_n 0, 1) := by decide +kernel
theorem dX12_init_102 : decode cX12_init 102 = .ok (.bipush 7, 2) := by decide +kernel
theorem dX12_init_104 : decode cX12_init 104 = .ok (.newarray .int, 2) := by decide +kernel
theorem dX12_init_106 : decode cX12_init 106 = .ok (.putfield 47, 3) := by decide +kernel
theorem dX12_init_109 : decode cX12_init 109 = .ok (.aload_n 0, 1) := by decide +kernel
theorem dX12_init_110 : decode cX12_init 110 = .ok (.bipush 7, 2) := by decide +kernel
theorem dX12_init_112 : decode cX12_init 112 = .ok (.newarray .int, 2) := by decide +kernel
theorem dX12_init_114 : decode cX12_init 114 = .ok (.putfield 50, 3) := by decide +kernel
theorem dX12_init_117 : decode cX12_init 117 = .ok (.aload_n 0, 1) := by decide +kernel
theorem dX12_init_118 : decode cX12_init 118 = .ok (.bipush 16, 2) := by decide +kernel
theorem dX12_init_120 : decode cX12_init 120 = .ok (.newarray .int, 2) := by decide +kernel
theorem dX12_init_122 : decode cX12_init 122 = .ok (.putfield 53, 3) := by decide +kernel
theorem dX12_init_125 : decode cX12_init 125 = .ok (.iconst 0, 1) := by decide +kernel
theorem dX12_init_126 : decode cX12_init 126 = .ok (.istore_n 1, 1) := by decide +kernel
theorem dX12_init_127 : decode cX12_init 127 = .ok (.iload_n 1, 1) := by decide +kernel
theorem dX12_init_128 : decode cX12_init 128 = .ok (.bipush 8, 2) := by decide +kernel
theorem dX12_init_130 : decode cX12_init 130 = .ok (.if_icmp .ge 17, 3) := by decide +kernel
theorem dX12_init_133 : decode cX12_init 133 = .ok (.aload_n 0, 1) := by decide +kernel
theorem dX12_init_134 : decode cX12_init 134 = .ok (.getfield 7, 3) := by decide +kernel
theorem dX12_init_137 : decode cX12_init 137 = .ok (.iload_n 1, 1) := by decide +kernel
theorem dX12_init_138 : decode cX12_init 138 = .ok (.ldc 56, 2) := by decide +kernel
theorem dX12_init_140 : decode cX12_init 140 = .ok (.iastore, 1) := by decide +kernel
theorem dX12_init_141 : decode cX12_init 141 = .ok (.iinc 1 1, 3) := by decide +kernel
theorem dX12_init_144 : decode cX12_init 144 = .ok (.goto (-17), 3) := by decide +kernel
theorem dX12_init_147 : decode cX12_init 147 = .ok (.return_, 1) := by decide +kernel
theorem dX12_in_0 : decode cX12_in 0 = .ok (.iload_n 0, 1) := by decide +kernel
theorem dX12_in_1 : decode cX12_in 1 = .ok (.iload_n 1, 1) := by decide +kernel
theorem dX12_in_2 : decode cX12_in 2 = .ok (.if_icmp .lt 12, 3) := by decide +kernel
theorem dX12_in_5 : decode cX12_in 5 = .ok (.iload_n 0, 1) := by decide +kernel
theorem dX12_in_6 : decode cX12_in 6 = .ok (.iload_n 2, 1) := by decide +kernel
theorem dX12_in_7 : decode cX12_in 7 = .ok (.if_icmp .gt 7, 3) := by decide +kernel
theorem dX12_in_10 : decode cX12_in 10 = .ok (.iconst 1, 1) := by decide +kernel
theorem dX12_in_11 : decode cX12_in 11 = .ok (.goto 4, 3) := by decide +kernel
theorem dX12_in_14 : decode cX12_in 14 = .ok (.iconst 0, 1) := by decide +kernel
theorem dX12_in_15 : decode cX12_in 15 = .ok (.ireturn, 1) := by decide +kernel
theorem dX12_has_0 : decode cX12_has 0 = .ok (.iload_n 0, 1) := by decide +kernel
theorem dX12_has_1 : decode cX12_has 1 = .ok (.iload_n 1, 1) := by decide +kernel
theorem dX12_has_2 : decode cX12_has 2 = .ok (.ishr, 1) := by decide +kernel
theorem dX12_has_3 : decode cX12_has 3 = .ok (.iconst 1, 1) := by decide +kernel
theorem dX12_has_4 : decode cX12_has 4 = .ok (.iand, 1) := by decide +kernel
theorem dX12_has_5 : decode cX12_has 5 = .ok (.iconst 1, 1) := by decide +kernel
theorem dX12_has_6 : decode cX12_has 6 = .ok (.if_icmp .ne 7, 3) := by decide +kernel
theorem dX12_has_9 : decode cX12_has 9 = .ok (.iconst 1, 1) := by decide +kernel
theorem dX12_has_10 : decode cX12_has 10 = .ok (.goto 4, 3) := by decide +kernel
theorem dX12_has_13 : decode cX12_has 13 = .ok (.iconst 0, 1) := by decide +kernel
theorem dX12_has_14 : decode cX12_has 14 = .ok (.ireturn, 1) := by decide +kernel
theorem dX12_ones_0 : decode cX12_ones 0 = .ok (.iconst 0, 1) := by decide +kernel
theorem dX12_ones_1 : decode cX12_ones 1 = .ok (.istore_n 1, 1) := by decide +kernel
theorem dX12_ones_2 : decode cX12_ones 2 = .ok (.iconst 0, 1) := by decide +kernel
theorem dX12_ones_3 : decode cX12_ones 3 = .ok (.istore_n 2, 1) := by decide +kernel
theorem dX12_ones_4 : decode cX12_ones 4 = .ok (.iload_n 2, 1) := by decide +kernel
theorem dX12_ones_5 : decode cX12_ones 5 = .ok (.bipush 7, 2) := by decide +kernel
theorem dX12_ones_7 : decode cX12_ones 7 = .ok (.if_icmp .ge 17, 3) := by decide +kernel
theorem dX12_ones_10 : decode cX12_ones 10 = .ok (.iload_n 1, 1) := by decide +kernel
theorem dX12_ones_11 : decode cX12_ones 11 = .ok (.iload_n 0, 1) := by decide +kernel
theorem dX12_ones_12 : decode cX12_ones 12 = .ok (.iload_n 2, 1) := by decide +kernel
theorem dX12_ones_13 : decode cX12_ones 13 = .ok (.ishr, 1) := by decide +kernel
theorem dX12_ones_14 : decode cX12_ones 14 = .ok (.iconst 1, 1) := by decide +kernel
theorem dX12_ones_15 : decode cX12_ones 15 = .ok (.iand, 1) := by decide +kernel
theorem dX12_ones_16 : decode cX12_ones 16 = .ok (.iadd, 1) := by decide +kernel
theorem dX12_ones_17 : decode cX12_ones 17 = .ok (.istore_n 1, 1) := by decide +kernel
theorem dX12_ones_18 : decode cX12_ones 18 = .ok (.iinc 2 1, 3) := by decide +kernel
theorem dX12_ones_21 : decode cX12_ones 21 = .ok (.goto (-17), 3) := by decide +kernel
theorem dX12_ones_24 : decode cX12_ones 24 = .ok (.iload_n 1, 1) := by decide +kernel
theorem dX12_ones_25 : decode cX12_ones 25 = .ok (.ireturn, 1) := by decide +kernel
theorem dX12_found_0 : decode cX12_found 0 = .ok (.aload_n 0, 1) := by decide +kernel
theorem dX12_found_1 : decode cX12_found 1 = .ok (.iload_n 1, 1) := by decide +kernel
theorem dX12_found_2 : decode cX12_found 2 = .ok (.putfield 57, 3) := by decide +kernel
theorem dX12_found_5 : decode cX12_found 5 = .ok (.ldc 61, 2) := by decide +kernel
theorem dX12_found_7 : decode cX12_found 7 = .ok (.iload_n 1, 1) := by decide +kernel
theorem dX12_found_8 : decode cX12_found 8 = .ok (.isub, 1) := by decide +kernel
theorem dX12_found_9 : decode cX12_found 9 = .ok (.ireturn, 1) := by decide +kernel
theorem dX12_well_0 : decode cX12_well 0 = .ok (.aload_n 0, 1) := by decide +kernel
theorem dX12_well_1 : decode cX12_well 1 = .ok (.iconst 0, 1) := by decide +kernel
theorem dX12_well_2 : decode cX12_well 2 = .ok (.putfield 57, 3) := by decide +kernel
theorem dX12_well_5 : decode cX12_well 5 = .ok (.iload_n 1, 1) := by decide +kernel
theorem dX12_well_6 : decode cX12_well 6 = .ok (.ireturn, 1) := by decide +kernel
theorem dX12_copies_0 : decode cX12_copies 0 = .ok (.iconst 0, 1) := by decide +kernel
theorem dX12_copies_1 : decode cX12_copies 1 = .ok (.istore 4, 2) := by decide +kernel
theorem dX12_copies_3 : decode cX12_copies 3 = .ok (.iload 4, 2) := by decide +kernel
theorem dX12_copies_5 : decode cX12_copies 5 = .ok (.bipush 46, 2) := by decide +kernel
theorem dX12_copies_7 : decode cX12_copies 7 = .ok (.if_icmp .ge 21, 3) := by decide +kernel
theorem dX12_copies_10 : decode cX12_copies 10 = .ok (.aload_n 2, 1) := by decide +kernel
theorem dX12_copies_11 : decode cX12_copies 11 = .ok (.iload_n 3, 1) := by decide +kernel
theorem dX12_copies_12 : decode cX12_copies 12 = .ok (.iload 4, 2) := by decide +kernel
theorem dX12_copies_14 : decode cX12_copies 14 = .ok (.iadd, 1) := by decide +kernel
theorem dX12_copies_15 : decode cX12_copies 15 = .ok (.aload_n 0, 1) := by decide +kernel
theorem dX12_copies_16 : decode cX12_copies 16 = .ok (.iload_n 1, 1) := by decide +kernel
theorem dX12_copies_17 : decode cX12_copies 17 = .ok (.iload 4, 2) := by decide +kernel
theorem dX12_copies_19 : decode cX12_copies 19 = .ok (.iadd, 1) := by decide +kernel
theorem dX12_copies_20 : decode cX12_copies 20 = .ok (.iaload, 1) := by decide +kernel
theorem dX12_copies_21 : decode cX12_copies 21 = .ok (.iastore, 1) := by decide +kernel
theorem dX12_copies_22 : decode cX12_copies 22 = .ok (.iinc 4 1, 3) := by decide +kernel
theorem dX12_copies_25 : decode cX12_copies 25 = .ok (.goto (-22), 3) := by decide +kernel
theorem dX12_copies_28 : decode cX12_copies 28 = .ok (.return_, 1) := by decide +kernel
set_option maxRecDepth 20000 in
theorem ggX12_isRow_X12_in : GoodIn wsX12_isRow wsX12_in := goodIn_r _ [4] (by decide +kernel) (by decide +kernel)
set_option maxRecDepth 20000 in
theorem gX12_isRow_X12_in : GoodIn wsX12_isRow (va_wsS RX12 62 yX12_in wsX12_in) := goodIn_app (goodIn_of _ (by decide +kernel)) ggX12_isRow_X12_in
theorem dX12_isRow_0 : decode cX12_isRow 0 = .ok (.iload_n 0, 1) := by decide +kernel
theorem dX12_isRow_1 : decode cX12_isRow 1 = .ok (.iconst 0, 1) := by decide +kernel
theorem dX12_isRow_2 : decode cX12_isRow 2 = .ok (.bipush 7, 2) := by decide +kernel
theorem dX12_isRow_4 : decode cX12_isRow 4 = .ok (.invokestatic 62, 3) := by decide +kernel
theorem dX12_isRow_7 : decode cX12_isRow 7 = .ok (.ireturn, 1) := by decide +kernel
theorem dX12_isMissing_0 : decode cX12_isMissing 0 = .ok (.aload_n 0, 1) := by decide +kernel
theorem dX12_isMissing_1 : decode cX12_isMissing 1 = .ok (.getfield 7, 3) := by decide +kernel
theorem dX12_isMissing_4 : decode cX12_isMissing 4 = .ok (.iload_n 1, 1) := by decide +kernel
theorem dX12_isMissing_5 : decode cX12_isMissing 5 = .ok (.iaload, 1) := by decide +kernel
theorem dX12_isMissing_6 : decode cX12_isMissing 6 = .ok (.ldc 56, 2) := by decide +kernel
theorem dX12_isMissing_8 : decode cX12_isMissing 8 = .ok (.if_icmp .ne 7, 3) := by decide +kernel
theorem dX12_isMissing_11 : decode cX12_isMissing 11 = .ok (.iconst 1, 1) := by decide +kernel
theorem dX12_isMissing_12 : decode cX12_isMissing 12 = .ok (.goto 4, 3) := by decide +kernel
theorem dX12_isMissing_15 : decode cX12_isMissing 15 = .ok (.iconst 0, 1) := by decide +kernel
theorem dX12_isMissing_16 : decode cX12_isMissing 16 = .ok (.ireturn, 1) := by decide +kernel
theorem dX12_cut_0 : decode cX12_cut 0 = .ok (.iload_n 0, 1) := by decide +kernel
theorem dX12_cut_1 : decode cX12_cut 1 = .ok (.ifCond .ne 13, 3) := by decide +kernel
theorem dX12_cut_4 : decode cX12_cut 4 = .ok (.iload_n 1, 1) := by decide +kernel
theorem dX12_cut_5 : decode cX12_cut 5 = .ok (.bipush 24, 2) := by decide +kernel
theorem dX12_cut_7 : decode cX12_cut 7 = .ok (.ishl, 1) := by decide +kernel
theorem dX12_cut_8 : decode cX12_cut 8 = .ok (.bipush 24, 2) := by decide +kernel
theorem dX12_cut_10 : decode cX12_cut 10 = .ok (.ishr, 1) := by decide +kernel
theorem dX12_cut_11 : decode cX12_cut 11 = .ok (.goto 19, 3) := by decide +kernel
theorem dX12_cut_14 : decode cX12_cut 14 = .ok (.iload_n 0, 1) := by decide +kernel
theorem dX12_cut_15 : decode cX12_cut 15 = .ok (.iconst 1, 1) := by decide +kernel
theorem dX12_cut_16 : decode cX12_cut 16 = .ok (.if_icmp .ne 13, 3) := by decide +kernel
theorem dX12_cut_19 : decode cX12_cut 19 = .ok (.iload_n 1, 1) := by decide +kernel
theorem dX12_cut_20 : decode cX12_cut 20 = .ok (.bipush 16, 2) := by decide +kernel
theorem dX12_cut_22 : decode cX12_cut 22 = .ok (.ishl, 1) := by decide +kernel
theorem dX12_cut_23 : decode cX12_cut 23 = .ok (.bipush 16, 2) := by decide +kernel
theorem dX12_cut_25 : decode cX12_cut 25 = .ok (.ishr, 1) := by decide +kernel
theorem dX12_cut_26 : decode cX12_cut 26 = .ok (.goto 4, 3) := by decide +kernel
theorem dX12_cut_29 : decode cX12_cut 29 = .ok (.iload_n 1, 1) := by decide +kernel
theorem dX12_cut_30 : decode cX12_cut 30 = .ok (.ireturn, 1) := by decide +kernel
set_option maxRecDepth 20000 in
theorem ggX12_row_X12_isRow : GoodIn wsX12_row wsX12_isRow := goodIn_r _ [8, 9, 10, 7, 11] (by decide +kernel) (by decide +kernel)
set_option maxRecDepth 20000 in
theorem gX12_row_X12_isRow : GoodIn wsX12_row (va_wsS RX12 66 yX12_isRow wsX12_isRow) := goodIn_app (goodIn_of _ (by decide +kernel)) ggX12_row_X12_isRow
set_option maxRecDepth 20000 in
theorem ggX12_row_X12_in : GoodIn wsX12_row wsX12_in := goodIn_r _ [11] (by decide +kernel) (by decide +kernel)
set_option maxRecDepth 20000 in
theorem gX12_row_X12_in : GoodIn wsX12_row (va_wsS RX12 62 yX12_in wsX12_in) := goodIn_app (goodIn_of _ (by decide +kernel)) ggX12_row_X12_in
set_option maxRecDepth 20000 in
theorem ggX12_row_X12_found : GoodIn wsX12_row wsX12_found := goodIn_r _ [15, 16, 17, 22, 23, 24, 25, 26, 27, 28, 29, 30, 31, 32, 33, 34, 35, 36, 37, 38, 39, 40, 41, 42, 43, 44, 45, 46] (by decide +kernel) (by decide +kernel)
set_option maxRecDepth 20000 in
theorem gX12_row_X12_found : GoodIn wsX12_row (wsV RX12 71 RX12 yX12_found wsX12_found) := goodIn_app (goodIn_of _ (by decide +kernel)) ggX12_row_X12_found
set_option maxRecDepth 20000 in
theorem ggX12_row_X12_well : GoodIn wsX12_row wsX12_well := goodIn_r _ [21, 16, 22, 23, 24, 25, 26, 27, 28, 29, 30, 31, 32, 33, 34, 35, 36, 37, 38, 39, 40, 41, 42, 43, 44, 45, 46] (by decide +kernel) (by decide +kernel)
set_option maxRecDepth 20000 in
theorem gX12_row_X12_well : GoodIn wsX12_row (wsV RX12 75 RX12 yX12_well wsX12_well) := goodIn_app (goodIn_of _ (by decide +kernel)) ggX12_row_X12_well
theorem dX12_row_0 : decode cX12_row 0 = .ok (.iload_n 1, 1) := by decide +kernel
theorem dX12_row_1 : decode cX12_row 1 = .ok (.invokestatic 66, 3) := by decide +kernel
theorem dX12_row_4 : decode cX12_row 4 = .ok (.ifCond .eq 18, 3) := by decide +kernel
theorem dX12_row_7 : decode cX12_row 7 = .ok (.iload_n 2, 1) := by decide +kernel
theorem dX12_row_8 : decode cX12_row 8 = .ok (.iconst 0, 1) := by decide +kernel
theorem dX12_row_9 : decode cX12_row 9 = .ok (.iconst 2, 1) := by decide +kernel
theorem dX12_row_10 : decode cX12_row 10 = .ok (.invokestatic 62, 3) := by decide +kernel
theorem dX12_row_13 : decode cX12_row 13 = .ok (.ifCond .eq 9, 3) := by decide +kernel
theorem dX12_row_16 : decode cX12_row 16 = .ok (.iload_n 3, 1) := by decide +kernel
theorem dX12_row_17 : decode cX12_row 17 = .ok (.bipush 40, 2) := by decide +kernel
theorem dX12_row_19 : decode cX12_row 19 = .ok (.if_icmp .le 6, 3) := by decide +kernel
theorem dX12_row_22 : decode cX12_row 22 = .ok (.ldc 70, 2) := by decide +kernel
theorem dX12_row_24 : decode cX12_row 24 = .ok (.ireturn, 1) := by decide +kernel
theorem dX12_row_25 : decode cX12_row 25 = .ok (.iload_n 3, 1) := by decide +kernel
theorem dX12_row_26 : decode cX12_row 26 = .ok (.ifCond .ge 9, 3) := by decide +kernel
theorem dX12_row_29 : decode cX12_row 29 = .ok (.aload_n 0, 1) := by decide +kernel
theorem dX12_row_30 : decode cX12_row 30 = .ok (.iconst 4, 1) := by decide +kernel
theorem dX12_row_31 : decode cX12_row 31 = .ok (.invokevirtual 71, 3) := by decide +kernel
theorem dX12_row_34 : decode cX12_row 34 = .ok (.ireturn, 1) := by decide +kernel
theorem dX12_row_35 : decode cX12_row 35 = .ok (.aload_n 0, 1) := by decide +kernel
theorem dX12_row_36 : decode cX12_row 36 = .ok (.getfield 7, 3) := by decide +kernel
theorem dX12_row_39 : decode cX12_row 39 = .ok (.iload_n 1, 1) := by decide +kernel
theorem dX12_row_40 : decode cX12_row 40 = .ok (.iload_n 2, 1) := by decide +kernel
theorem dX12_row_41 : decode cX12_row 41 = .ok (.iastore, 1) := by decide +kernel
theorem dX12_row_42 : decode cX12_row 42 = .ok (.aload_n 0, 1) := by decide +kernel
theorem dX12_row_43 : decode cX12_row 43 = .ok (.getfield 13, 3) := by decide +kernel
theorem dX12_row_46 : decode cX12_row 46 = .ok (.iload_n 1, 1) := by decide +kernel
theorem dX12_row_47 : decode cX12_row 47 = .ok (.iload_n 3, 1) := by decide +kernel
theorem dX12_row_48 : decode cX12_row 48 = .ok (.iastore, 1) := by decide +kernel
theorem dX12_row_49 : decode cX12_row 49 = .ok (.iconst 0, 1) := by decide +kernel
theorem dX12_row_50 : decode cX12_row 50 = .ok (.istore 4, 2) := by decide +kernel
theorem dX12_row_52 : decode cX12_row 52 = .ok (.iload 4, 2) := by decide +kernel
theorem dX12_row_54 : decode cX12_row 54 = .ok (.bipush 40, 2) := by decide +kernel
theorem dX12_row_56 : decode cX12_row 56 = .ok (.if_icmp .ge 22, 3) := by decide +kernel
theorem dX12_row_59 : decode cX12_row 59 = .ok (.aload_n 0, 1) := by decide +kernel
theorem dX12_row_60 : decode cX12_row 60 = .ok (.getfield 16, 3) := by decide +kernel
theorem dX12_row_63 : decode cX12_row 63 = .ok (.bipush 40, 2) := by decide +kernel
theorem dX12_row_65 : decode cX12_row 65 = .ok (.iload_n 1, 1) := by decide +kernel
theorem dX12_row_66 : decode cX12_row 66 = .ok (.imul, 1) := by decide +kernel
theorem dX12_row_67 : decode cX12_row 67 = .ok (.iload 4, 2) := by decide +kernel
theorem dX12_row_69 : decode cX12_row 69 = .ok (.iadd, 1) := by decide +kernel
theorem dX12_row_70 : decode cX12_row 70 = .ok (.iconst 0, 1) := by decide +kernel
theorem dX12_row_71 : decode cX12_row 71 = .ok (.iastore, 1) := by decide +kernel
theorem dX12_row_72 : decode cX12_row 72 = .ok (.iinc 4 1, 3) := by decide +kernel
theorem dX12_row_75 : decode cX12_row 75 = .ok (.goto (-23), 3) := by decide +kernel
theorem dX12_row_78 : decode cX12_row 78 = .ok (.aload_n 0, 1) := by decide +kernel
theorem dX12_row_79 : decode cX12_row 79 = .ok (.iload_n 3, 1) := by decide +kernel
theorem dX12_row_80 : decode cX12_row 80 = .ok (.invokevirtual 75, 3) := by decide +kernel
theorem dX12_row_83 : decode cX12_row 83 = .ok (.ireturn, 1) := by decide +kernel
set_option maxRecDepth 20000 in
theorem ggX12_set_X12_isRow : GoodIn wsX12_set wsX12_isRow := goodIn_r _ [8, 9, 10, 7, 11] (by decide +kernel) (by decide +kernel)
set_option maxRecDepth 20000 in
theorem gX12_set_X12_isRow : GoodIn wsX12_set (va_wsS RX12 66 yX12_isRow wsX12_isRow) := goodIn_app (goodIn_of _ (by decide +kernel)) ggX12_set_X12_isRow
set_option maxRecDepth 20000 in
theorem ggX12_set_X12_isMissing : GoodIn wsX12_set wsX12_isMissing := goodIn_r _ [15, 4, 16, 30, 31, 32, 33, 34, 35, 36, 37, 38, 39, 40, 41, 42, 43, 44, 45, 46, 47, 48, 49, 50, 51, 52, 53, 54] (by decide +kernel) (by decide +kernel)
set_option maxRecDepth 20000 in
theorem gX12_set_X12_isMissing : GoodIn wsX12_set (wsV RX12 78 RX12 yX12_isMissing wsX12_isMissing) := goodIn_app (goodIn_of _ (by decide +kernel)) ggX12_set_X12_isMissing
set_option maxRecDepth 20000 in
theorem ggX12_set_X12_found : GoodIn wsX12_set wsX12_found := goodIn_r _ [20, 21, 22, 30, 31, 32, 33, 34, 35, 36, 37, 38, 39, 40, 41, 42, 43, 44, 45, 46, 47, 48, 49, 50, 51, 52, 53, 54] (by decide +kernel) (by decide +kernel)
set_option maxRecDepth 20000 in
theorem gX12_set_X12_found : GoodIn wsX12_set (wsV RX12 71 RX12 yX12_found wsX12_found) := goodIn_app (goodIn_of _ (by decide +kernel)) ggX12_set_X12_found
set_option maxRecDepth 20000 in
theorem ggX12_set_X12_in : GoodIn wsX12_set wsX12_in := goodIn_r _ [11] (by decide +kernel) (by decide +kernel)
set_option maxRecDepth 20000 in
theorem gX12_set_X12_in : GoodIn wsX12_set (va_wsS RX12 62 yX12_in wsX12_in) := goodIn_app (goodIn_of _ (by decide +kernel)) ggX12_set_X12_in
set_option maxRecDepth 20000 in
theorem ggX12_set_X12_cut : GoodIn wsX12_set wsX12_cut := goodIn_r _ [25] (by decide +kernel) (by decide +kernel)
set_option maxRecDepth 20000 in
theorem gX12_set_X12_cut : GoodIn wsX12_set (va_wsS RX12 81 yX12_cut wsX12_cut) := goodIn_app (goodIn_of _ (by decide +kernel)) ggX12_set_X12_cut
set_option maxRecDepth 20000 in
theorem ggX12_set_X12_well : GoodIn wsX12_set wsX12_well := goodIn_r _ [29, 21, 30, 31, 32, 33, 34, 35, 36, 37, 38, 39, 40, 41, 42, 43, 44, 45, 46, 47, 48, 49, 50, 51, 52, 53, 54] (by decide +kernel) (by decide +kernel)
set_option maxRecDepth 20000 in
theorem gX12_set_X12_well : GoodIn wsX12_set (wsV RX12 75 RX12 yX12_well wsX12_well) := goodIn_app (goodIn_of _ (by decide +kernel)) ggX12_set_X12_well
theorem dX12_set_0 : decode cX12_set 0 = .ok (.iload_n 1, 1) := by decide +kernel
theorem dX12_set_1 : decode cX12_set 1 = .ok (.invokestatic 66, 3) := by decide +kernel
theorem dX12_set_4 : decode cX12_set 4 = .ok (.ifCond .ne 6, 3) := by decide +kernel
theorem dX12_set_7 : decode cX12_set 7 = .ok (.ldc 70, 2) := by decide +kernel
theorem dX12_set_9 : decode cX12_set 9 = .ok (.ireturn, 1) := by decide +kernel
theorem dX12_set_10 : decode cX12_set 10 = .ok (.aload_n 0, 1) := by decide +kernel
theorem dX12_set_11 : decode cX12_set 11 = .ok (.iload_n 1, 1) := by decide +kernel
theorem dX12_set_12 : decode cX12_set 12 = .ok (.invokevirtual 78, 3) := by decide +kernel
theorem dX12_set_15 : decode cX12_set 15 = .ok (.ifCond .eq 9, 3) := by decide +kernel
theorem dX12_set_18 : decode cX12_set 18 = .ok (.aload_n 0, 1) := by decide +kernel
theorem dX12_set_19 : decode cX12_set 19 = .ok (.iconst 1, 1) := by decide +kernel
theorem dX12_set_20 : decode cX12_set 20 = .ok (.invokevirtual 71, 3) := by decide +kernel
theorem dX12_set_23 : decode cX12_set 23 = .ok (.ireturn, 1) := by decide +kernel
theorem dX12_set_24 : decode cX12_set 24 = .ok (.iload_n 2, 1) := by decide +kernel
theorem dX12_set_25 : decode cX12_set 25 = .ok (.iconst 0, 1) := by decide +kernel
theorem dX12_set_26 : decode cX12_set 26 = .ok (.aload_n 0, 1) := by decide +kernel
theorem dX12_set_27 : decode cX12_set 27 = .ok (.getfield 13, 3) := by decide +kernel
theorem dX12_set_30 : decode cX12_set 30 = .ok (.iload_n 1, 1) := by decide +kernel
theorem dX12_set_31 : decode cX12_set 31 = .ok (.iaload, 1) := by decide +kernel
theorem dX12_set_32 : decode cX12_set 32 = .ok (.iconst 1, 1) := by decide +kernel
theorem dX12_set_33 : decode cX12_set 33 = .ok (.isub, 1) := by decide +kernel
theorem dX12_set_34 : decode cX12_set 34 = .ok (.invokestatic 62, 3) := by decide +kernel
theorem dX12_set_37 : decode cX12_set 37 = .ok (.ifCond .ne 9, 3) := by decide +kernel
theorem dX12_set_40 : decode cX12_set 40 = .ok (.aload_n 0, 1) := by decide +kernel
theorem dX12_set_41 : decode cX12_set 41 = .ok (.iconst 2, 1) := by decide +kernel
theorem dX12_set_42 : decode cX12_set 42 = .ok (.invokevirtual 71, 3) := by decide +kernel
theorem dX12_set_45 : decode cX12_set 45 = .ok (.ireturn, 1) := by decide +kernel
theorem dX12_set_46 : decode cX12_set 46 = .ok (.aload_n 0, 1) := by decide +kernel
theorem dX12_set_47 : decode cX12_set 47 = .ok (.getfield 16, 3) := by decide +kernel
theorem dX12_set_50 : decode cX12_set 50 = .ok (.bipush 40, 2) := by decide +kernel
theorem dX12_set_52 : decode cX12_set 52 = .ok (.iload_n 1, 1) := by decide +kernel
theorem dX12_set_53 : decode cX12_set 53 = .ok (.imul, 1) := by decide +kernel
theorem dX12_set_54 : decode cX12_set 54 = .ok (.iload_n 2, 1) := by decide +kernel
theorem dX12_set_55 : decode cX12_set 55 = .ok (.iadd, 1) := by decide +kernel
theorem dX12_set_56 : decode cX12_set 56 = .ok (.aload_n 0, 1) := by decide +kernel
theorem dX12_set_57 : decode cX12_set 57 = .ok (.getfield 7, 3) := by decide +kernel
theorem dX12_set_60 : decode cX12_set 60 = .ok (.iload_n 1, 1) := by decide +kernel
theorem dX12_set_61 : decode cX12_set 61 = .ok (.iaload, 1) := by decide +kernel
theorem dX12_set_62 : decode cX12_set 62 = .ok (.iload_n 3, 1) := by decide +kernel
theorem dX12_set_63 : decode cX12_set 63 = .ok (.invokestatic 81, 3) := by decide +kernel
theorem dX12_set_66 : decode cX12_set 66 = .ok (.iastore, 1) := by decide +kernel
theorem dX12_set_67 : decode cX12_set 67 = .ok (.aload_n 0, 1) := by decide +kernel
theorem dX12_set_68 : decode cX12_set 68 = .ok (.aload_n 0, 1) := by decide +kernel
theorem dX12_set_69 : decode cX12_set 69 = .ok (.getfield 16, 3) := by decide +kernel
theorem dX12_set_72 : decode cX12_set 72 = .ok (.bipush 40, 2) := by decide +kernel
theorem dX12_set_74 : decode cX12_set 74 = .ok (.iload_n 1, 1) := by decide +kernel
theorem dX12_set_75 : decode cX12_set 75 = .ok (.imul, 1) := by decide +kernel
theorem dX12_set_76 : decode cX12_set 76 = .ok (.iload_n 2, 1) := by decide +kernel
theorem dX12_set_77 : decode cX12_set 77 = .ok (.iadd, 1) := by decide +kernel
theorem dX12_set_78 : decode cX12_set 78 = .ok (.iaload, 1) := by decide +kernel
theorem dX12_set_79 : decode cX12_set 79 = .ok (.invokevirtual 75, 3) := by decide +kernel
theorem dX12_set_82 : decode cX12_set 82 = .ok (.ireturn, 1) := by decide +kernel
theorem dX12_isPart_0 : decode cX12_isPart 0 = .ok (.iload_n 2, 1) := by decide +kernel
theorem dX12_isPart_1 : decode cX12_isPart 1 = .ok (.ifCond .lt 33, 3) := by decide +kernel
theorem dX12_isPart_4 : decode cX12_isPart 4 = .ok (.iload_n 3, 1) := by decide +kernel
theorem dX12_isPart_5 : decode cX12_isPart 5 = .ok (.ifCond .lt 29, 3) := by decide +kernel
theorem dX12_isPart_8 : decode cX12_isPart 8 = .ok (.iload_n 2, 1) := by decide +kernel
theorem dX12_isPart_9 : decode cX12_isPart 9 = .ok (.aload_n 0, 1) := by decide +kernel
theorem dX12_isPart_10 : decode cX12_isPart 10 = .ok (.getfield 13, 3) := by decide +kernel
theorem dX12_isPart_13 : decode cX12_isPart 13 = .ok (.iload_n 1, 1) := by decide +kernel
theorem dX12_isPart_14 : decode cX12_isPart 14 = .ok (.iaload, 1) := by decide +kernel
theorem dX12_isPart_15 : decode cX12_isPart 15 = .ok (.if_icmp .gt 19, 3) := by decide +kernel
theorem dX12_isPart_18 : decode cX12_isPart 18 = .ok (.iload_n 3, 1) := by decide +kernel
theorem dX12_isPart_19 : decode cX12_isPart 19 = .ok (.aload_n 0, 1) := by decide +kernel
theorem dX12_isPart_20 : decode cX12_isPart 20 = .ok (.getfield 13, 3) := by decide +kernel
theorem dX12_isPart_23 : decode cX12_isPart 23 = .ok (.iload_n 1, 1) := by decide +kernel
theorem dX12_isPart_24 : decode cX12_isPart 24 = .ok (.iaload, 1) := by decide +kernel
theorem dX12_isPart_25 : decode cX12_isPart 25 = .ok (.iload_n 2, 1) := by decide +kernel
theorem dX12_isPart_26 : decode cX12_isPart 26 = .ok (.isub, 1) := by decide +kernel
theorem dX12_isPart_27 : decode cX12_isPart 27 = .ok (.if_icmp .gt 7, 3) := by decide +kernel
theorem dX12_isPart_30 : decode cX12_isPart 30 = .ok (.iconst 1, 1) := by decide +kernel
theorem dX12_isPart_31 : decode cX12_isPart 31 = .ok (.goto 4, 3) := by decide +kernel
theorem dX12_isPart_34 : decode cX12_isPart 34 = .ok (.iconst 0, 1) := by decide +kernel
theorem dX12_isPart_35 : decode cX12_isPart 35 = .ok (.ireturn, 1) := by decide +kernel
set_option maxRecDepth 20000 in
theorem ggX12_copy_X12_isRow : GoodIn wsX12_copy wsX12_isRow := goodIn_r _ [8, 9, 10, 7, 11] (by decide +kernel) (by decide +kernel)
set_option maxRecDepth 20000 in
theorem gX12_copy_X12_isRow : GoodIn wsX12_copy (va_wsS RX12 66 yX12_isRow wsX12_isRow) := goodIn_app (goodIn_of _ (by decide +kernel)) ggX12_copy_X12_isRow
set_option maxRecDepth 20000 in
theorem ggX12_copy_X12_isMissing : GoodIn wsX12_copy wsX12_isMissing := goodIn_r _ [15, 2, 16, 32, 33, 34, 35, 36, 37, 38, 39, 40, 41, 42, 43, 44, 45, 46, 47, 48, 49, 50, 51, 52, 53, 54, 55, 56] (by decide +kernel) (by decide +kernel)
set_option maxRecDepth 20000 in
theorem gX12_copy_X12_isMissing : GoodIn wsX12_copy (wsV RX12 78 RX12 yX12_isMissing wsX12_isMissing) := goodIn_app (goodIn_of _ (by decide +kernel)) ggX12_copy_X12_isMissing
set_option maxRecDepth 20000 in
theorem ggX12_copy_X12_found : GoodIn wsX12_copy wsX12_found := goodIn_r _ [20, 21, 22, 32, 33, 34, 35, 36, 37, 38, 39, 40, 41, 42, 43, 44, 45, 46, 47, 48, 49, 50, 51, 52, 53, 54, 55, 56] (by decide +kernel) (by decide +kernel)
set_option maxRecDepth 20000 in
theorem gX12_copy_X12_found : GoodIn wsX12_copy (wsV RX12 71 RX12 yX12_found wsX12_found) := goodIn_app (goodIn_of _ (by decide +kernel)) ggX12_copy_X12_found
set_option maxRecDepth 20000 in
theorem ggX12_copy_X12_isPart : GoodIn wsX12_copy wsX12_isPart := goodIn_r _ [26, 27, 32, 33, 34, 35, 36, 37, 38, 39, 40, 41, 42, 43, 44, 45, 46, 47, 48, 49, 50, 51, 52, 53, 54, 55, 56] (by decide +kernel) (by decide +kernel)
set_option maxRecDepth 20000 in
theorem gX12_copy_X12_isPart : GoodIn wsX12_copy (wsV RX12 85 RX12 yX12_isPart wsX12_isPart) := goodIn_app (goodIn_of _ (by decide +kernel)) ggX12_copy_X12_isPart
set_option maxRecDepth 20000 in
theorem ggX12_copy_X12_well : GoodIn wsX12_copy wsX12_well := goodIn_r _ [31, 21, 32, 33, 34, 35, 36, 37, 38, 39, 40, 41, 42, 43, 44, 45, 46, 47, 48, 49, 50, 51, 52, 53, 54, 55, 56] (by decide +kernel) (by decide +kernel)
set_option maxRecDepth 20000 in
theorem gX12_copy_X12_well : GoodIn wsX12_copy (wsV RX12 75 RX12 yX12_well wsX12_well) := goodIn_app (goodIn_of _ (by decide +kernel)) ggX12_copy_X12_well
theorem dX12_copy_0 : decode cX12_copy 0 = .ok (.iload_n 1, 1) := by decide +kernel
theorem dX12_copy_1 : decode cX12_copy 1 = .ok (.invokestatic 66, 3) := by decide +kernel
theorem dX12_copy_4 : decode cX12_copy 4 = .ok (.ifCond .eq 10, 3) := by decide +kernel
theorem dX12_copy_7 : decode cX12_copy 7 = .ok (.iload_n 3, 1) := by decide +kernel
theorem dX12_copy_8 : decode cX12_copy 8 = .ok (.invokestatic 66, 3) := by decide +kernel
theorem dX12_copy_11 : decode cX12_copy 11 = .ok (.ifCond .ne 6, 3) := by decide +kernel
theorem dX12_copy_14 : decode cX12_copy 14 = .ok (.ldc 70, 2) := by decide +kernel
theorem dX12_copy_16 : decode cX12_copy 16 = .ok (.ireturn, 1) := by decide +kernel
theorem dX12_copy_17 : decode cX12_copy 17 = .ok (.aload_n 0, 1) := by decide +kernel
theorem dX12_copy_18 : decode cX12_copy 18 = .ok (.iload_n 1, 1) := by decide +kernel
theorem dX12_copy_19 : decode cX12_copy 19 = .ok (.invokevirtual 78, 3) := by decide +kernel
theorem dX12_copy_22 : decode cX12_copy 22 = .ok (.ifCond .ne 11, 3) := by decide +kernel
theorem dX12_copy_25 : decode cX12_copy 25 = .ok (.aload_n 0, 1) := by decide +kernel
theorem dX12_copy_26 : decode cX12_copy 26 = .ok (.iload_n 3, 1) := by decide +kernel
theorem dX12_copy_27 : decode cX12_copy 27 = .ok (.invokevirtual 78, 3) := by decide +kernel
theorem dX12_copy_30 : decode cX12_copy 30 = .ok (.ifCond .eq 9, 3) := by decide +kernel
theorem dX12_copy_33 : decode cX12_copy 33 = .ok (.aload_n 0, 1) := by decide +kernel
theorem dX12_copy_34 : decode cX12_copy 34 = .ok (.iconst 1, 1) := by decide +kernel
theorem dX12_copy_35 : decode cX12_copy 35 = .ok (.invokevirtual 71, 3) := by decide +kernel
theorem dX12_copy_38 : decode cX12_copy 38 = .ok (.ireturn, 1) := by decide +kernel
theorem dX12_copy_39 : decode cX12_copy 39 = .ok (.aload_n 0, 1) := by decide +kernel
theorem dX12_copy_40 : decode cX12_copy 40 = .ok (.getfield 7, 3) := by decide +kernel
theorem dX12_copy_43 : decode cX12_copy 43 = .ok (.iload_n 1, 1) := by decide +kernel
theorem dX12_copy_44 : decode cX12_copy 44 = .ok (.iaload, 1) := by decide +kernel
theorem dX12_copy_45 : decode cX12_copy 45 = .ok (.aload_n 0, 1) := by decide +kernel
theorem dX12_copy_46 : decode cX12_copy 46 = .ok (.getfield 7, 3) := by decide +kernel
theorem dX12_copy_49 : decode cX12_copy 49 = .ok (.iload_n 3, 1) := by decide +kernel
theorem dX12_copy_50 : decode cX12_copy 50 = .ok (.iaload, 1) := by decide +kernel
theorem dX12_copy_51 : decode cX12_copy 51 = .ok (.if_icmp .eq 9, 3) := by decide +kernel
theorem dX12_copy_54 : decode cX12_copy 54 = .ok (.aload_n 0, 1) := by decide +kernel
theorem dX12_copy_55 : decode cX12_copy 55 = .ok (.iconst 5, 1) := by decide +kernel
theorem dX12_copy_56 : decode cX12_copy 56 = .ok (.invokevirtual 71, 3) := by decide +kernel
theorem dX12_copy_59 : decode cX12_copy 59 = .ok (.ireturn, 1) := by decide +kernel
theorem dX12_copy_60 : decode cX12_copy 60 = .ok (.aload_n 0, 1) := by decide +kernel
theorem dX12_copy_61 : decode cX12_copy 61 = .ok (.iload_n 1, 1) := by decide +kernel
theorem dX12_copy_62 : decode cX12_copy 62 = .ok (.iload_n 2, 1) := by decide +kernel
theorem dX12_copy_63 : decode cX12_copy 63 = .ok (.iload 5, 2) := by decide +kernel
theorem dX12_copy_65 : decode cX12_copy 65 = .ok (.invokevirtual 85, 3) := by decide +kernel
theorem dX12_copy_68 : decode cX12_copy 68 = .ok (.ifCond .eq 15, 3) := by decide +kernel
theorem dX12_copy_71 : decode cX12_copy 71 = .ok (.aload_n 0, 1) := by decide +kernel
theorem dX12_copy_72 : decode cX12_copy 72 = .ok (.iload_n 3, 1) := by decide +kernel
theorem dX12_copy_73 : decode cX12_copy 73 = .ok (.iload 4, 2) := by decide +kernel
theorem dX12_copy_75 : decode cX12_copy 75 = .ok (.iload 5, 2) := by decide +kernel
theorem dX12_copy_77 : decode cX12_copy 77 = .ok (.invokevirtual 85, 3) := by decide +kernel
theorem dX12_copy_80 : decode cX12_copy 80 = .ok (.ifCond .ne 9, 3) := by decide +kernel
theorem dX12_copy_83 : decode cX12_copy 83 = .ok (.aload_n 0, 1) := by decide +kernel
theorem dX12_copy_84 : decode cX12_copy 84 = .ok (.iconst 2, 1) := by decide +kernel
theorem dX12_copy_85 : decode cX12_copy 85 = .ok (.invokevirtual 71, 3) := by decide +kernel
theorem dX12_copy_88 : decode cX12_copy 88 = .ok (.ireturn, 1) := by decide +kernel
theorem dX12_copy_89 : decode cX12_copy 89 = .ok (.iconst 0, 1) := by decide +kernel
theorem dX12_copy_90 : decode cX12_copy 90 = .ok (.istore 6, 2) := by decide +kernel
theorem dX12_copy_92 : decode cX12_copy 92 = .ok (.iload 6, 2) := by decide +kernel
theorem dX12_copy_94 : decode cX12_copy 94 = .ok (.iload 5, 2) := by decide +kernel
theorem dX12_copy_96 : decode cX12_copy 96 = .ok (.if_icmp .ge 30, 3) := by decide +kernel
theorem dX12_copy_99 : decode cX12_copy 99 = .ok (.aload_n 0, 1) := by decide +kernel
theorem dX12_copy_100 : decode cX12_copy 100 = .ok (.getfield 19, 3) := by decide +kernel
theorem dX12_copy_103 : decode cX12_copy 103 = .ok (.iload 6, 2) := by decide +kernel
theorem dX12_copy_105 : decode cX12_copy 105 = .ok (.aload_n 0, 1) := by decide +kernel
theorem dX12_copy_106 : decode cX12_copy 106 = .ok (.getfield 16, 3) := by decide +kernel
theorem dX12_copy_109 : decode cX12_copy 109 = .ok (.bipush 40, 2) := by decide +kernel
theorem dX12_copy_111 : decode cX12_copy 111 = .ok (.iload_n 1, 1) := by decide +kernel
theorem dX12_copy_112 : decode cX12_copy 112 = .ok (.imul, 1) := by decide +kernel
theorem dX12_copy_113 : decode cX12_copy 113 = .ok (.iload_n 2, 1) := by decide +kernel
theorem dX12_copy_114 : decode cX12_copy 114 = .ok (.iadd, 1) := by decide +kernel
theorem dX12_copy_115 : decode cX12_copy 115 = .ok (.iload 6, 2) := by decide +kernel
theorem dX12_copy_117 : decode cX12_copy 117 = .ok (.iadd, 1) := by decide +kernel
theorem dX12_copy_118 : decode cX12_copy 118 = .ok (.iaload, 1) := by decide +kernel
theorem dX12_copy_119 : decode cX12_copy 119 = .ok (.iastore, 1) := by decide +kernel
theorem dX12_copy_120 : decode cX12_copy 120 = .ok (.iinc 6 1, 3) := by decide +kernel
theorem dX12_copy_123 : decode cX12_copy 123 = .ok (.goto (-31), 3) := by decide +kernel
theorem dX12_copy_126 : decode cX12_copy 126 = .ok (.iconst 0, 1) := by decide +kernel
theorem dX12_copy_127 : decode cX12_copy 127 = .ok (.istore 6, 2) := by decide +kernel
theorem dX12_copy_129 : decode cX12_copy 129 = .ok (.iload 6, 2) := by decide +kernel
theorem dX12_copy_131 : decode cX12_copy 131 = .ok (.iload 5, 2) := by decide +kernel
theorem dX12_copy_133 : decode cX12_copy 133 = .ok (.if_icmp .ge 31, 3) := by decide +kernel
theorem dX12_copy_136 : decode cX12_copy 136 = .ok (.aload_n 0, 1) := by decide +kernel
theorem dX12_copy_137 : decode cX12_copy 137 = .ok (.getfield 16, 3) := by decide +kernel
theorem dX12_copy_140 : decode cX12_copy 140 = .ok (.bipush 40, 2) := by decide +kernel
theorem dX12_copy_142 : decode cX12_copy 142 = .ok (.iload_n 3, 1) := by decide +kernel
theorem dX12_copy_143 : decode cX12_copy 143 = .ok (.imul, 1) := by decide +kernel
theorem dX12_copy_144 : decode cX12_copy 144 = .ok (.iload 4, 2) := by decide +kernel
theorem dX12_copy_146 : decode cX12_copy 146 = .ok (.iadd, 1) := by decide +kernel
theorem dX12_copy_147 : decode cX12_copy 147 = .ok (.iload 6, 2) := by decide +kernel
theorem dX12_copy_149 : decode cX12_copy 149 = .ok (.iadd, 1) := by decide +kernel
theorem dX12_copy_150 : decode cX12_copy 150 = .ok (.aload_n 0, 1) := by decide +kernel
theorem dX12_copy_151 : decode cX12_copy 151 = .ok (.getfield 19, 3) := by decide +kernel
theorem dX12_copy_154 : decode cX12_copy 154 = .ok (.iload 6, 2) := by decide +kernel
theorem dX12_copy_156 : decode cX12_copy 156 = .ok (.iaload, 1) := by decide +kernel
theorem dX12_copy_157 : decode cX12_copy 157 = .ok (.iastore, 1) := by decide +kernel
theorem dX12_copy_158 : decode cX12_copy 158 = .ok (.iinc 6 1, 3) := by decide +kernel
theorem dX12_copy_161 : decode cX12_copy 161 = .ok (.goto (-32), 3) := by decide +kernel
theorem dX12_copy_164 : decode cX12_copy 164 = .ok (.aload_n 0, 1) := by decide +kernel
theorem dX12_copy_165 : decode cX12_copy 165 = .ok (.iload 5, 2) := by decide +kernel
theorem dX12_copy_167 : decode cX12_copy 167 = .ok (.invokevirtual 75, 3) := by decide +kernel
theorem dX12_copy_170 : decode cX12_copy 170 = .ok (.ireturn, 1) := by decide +kernel
set_option maxRecDepth 20000 in
theorem ggX12_drop_X12_isRow : GoodIn wsX12_drop wsX12_isRow := goodIn_r _ [8, 9, 10, 7, 11] (by decide +kernel) (by decide +kernel)
set_option maxRecDepth 20000 in
theorem gX12_drop_X12_isRow : GoodIn wsX12_drop (va_wsS RX12 66 yX12_isRow wsX12_isRow) := goodIn_app (goodIn_of _ (by decide +kernel)) ggX12_drop_X12_isRow
set_option maxRecDepth 20000 in
theorem ggX12_drop_X12_isMissing : GoodIn wsX12_drop wsX12_isMissing := goodIn_r _ [15, 2, 3, 26, 27, 28, 29, 30, 31, 32, 33, 34, 35, 36, 37, 38, 39, 40, 41, 42, 43, 44, 45, 46, 47, 48, 49, 50] (by decide +kernel) (by decide +kernel)
set_option maxRecDepth 20000 in
theorem gX12_drop_X12_isMissing : GoodIn wsX12_drop (wsV RX12 78 RX12 yX12_isMissing wsX12_isMissing) := goodIn_app (goodIn_of _ (by decide +kernel)) ggX12_drop_X12_isMissing
set_option maxRecDepth 20000 in
theorem ggX12_drop_X12_found : GoodIn wsX12_drop wsX12_found := goodIn_r _ [19, 20, 21, 26, 27, 28, 29, 30, 31, 32, 33, 34, 35, 36, 37, 38, 39, 40, 41, 42, 43, 44, 45, 46, 47, 48, 49, 50] (by decide +kernel) (by decide +kernel)
set_option maxRecDepth 20000 in
theorem gX12_drop_X12_found : GoodIn wsX12_drop (wsV RX12 71 RX12 yX12_found wsX12_found) := goodIn_app (goodIn_of _ (by decide +kernel)) ggX12_drop_X12_found
set_option maxRecDepth 20000 in
theorem ggX12_drop_X12_well : GoodIn wsX12_drop wsX12_well := goodIn_r _ [25, 20, 26, 27, 28, 29, 30, 31, 32, 33, 34, 35, 36, 37, 38, 39, 40, 41, 42, 43, 44, 45, 46, 47, 48, 49, 50] (by decide +kernel) (by decide +kernel)
set_option maxRecDepth 20000 in
theorem gX12_drop_X12_well : GoodIn wsX12_drop (wsV RX12 75 RX12 yX12_well wsX12_well) := goodIn_app (goodIn_of _ (by decide +kernel)) ggX12_drop_X12_well
theorem dX12_drop_0 : decode cX12_drop 0 = .ok (.iload_n 1, 1) := by decide +kernel
theorem dX12_drop_1 : decode cX12_drop 1 = .ok (.invokestatic 66, 3) := by decide +kernel
theorem dX12_drop_4 : decode cX12_drop 4 = .ok (.ifCond .ne 6, 3) := by decide +kernel
theorem dX12_drop_7 : decode cX12_drop 7 = .ok (.ldc 70, 2) := by decide +kernel
theorem dX12_drop_9 : decode cX12_drop 9 = .ok (.ireturn, 1) := by decide +kernel
theorem dX12_drop_10 : decode cX12_drop 10 = .ok (.aload_n 0, 1) := by decide +kernel
theorem dX12_drop_11 : decode cX12_drop 11 = .ok (.iload_n 1, 1) := by decide +kernel
theorem dX12_drop_12 : decode cX12_drop 12 = .ok (.invokevirtual 78, 3) := by decide +kernel
theorem dX12_drop_15 : decode cX12_drop 15 = .ok (.ifCond .eq 9, 3) := by decide +kernel
theorem dX12_drop_18 : decode cX12_drop 18 = .ok (.aload_n 0, 1) := by decide +kernel
theorem dX12_drop_19 : decode cX12_drop 19 = .ok (.iconst 1, 1) := by decide +kernel
theorem dX12_drop_20 : decode cX12_drop 20 = .ok (.invokevirtual 71, 3) := by decide +kernel
theorem dX12_drop_23 : decode cX12_drop 23 = .ok (.ireturn, 1) := by decide +kernel
theorem dX12_drop_24 : decode cX12_drop 24 = .ok (.aload_n 0, 1) := by decide +kernel
theorem dX12_drop_25 : decode cX12_drop 25 = .ok (.getfield 7, 3) := by decide +kernel
theorem dX12_drop_28 : decode cX12_drop 28 = .ok (.iload_n 1, 1) := by decide +kernel
theorem dX12_drop_29 : decode cX12_drop 29 = .ok (.ldc 56, 2) := by decide +kernel
theorem dX12_drop_31 : decode cX12_drop 31 = .ok (.iastore, 1) := by decide +kernel
theorem dX12_drop_32 : decode cX12_drop 32 = .ok (.aload_n 0, 1) := by decide +kernel
theorem dX12_drop_33 : decode cX12_drop 33 = .ok (.aload_n 0, 1) := by decide +kernel
theorem dX12_drop_34 : decode cX12_drop 34 = .ok (.getfield 13, 3) := by decide +kernel
theorem dX12_drop_37 : decode cX12_drop 37 = .ok (.iload_n 1, 1) := by decide +kernel
theorem dX12_drop_38 : decode cX12_drop 38 = .ok (.iaload, 1) := by decide +kernel
theorem dX12_drop_39 : decode cX12_drop 39 = .ok (.invokevirtual 75, 3) := by decide +kernel
theorem dX12_drop_42 : decode cX12_drop 42 = .ok (.ireturn, 1) := by decide +kernel
set_option maxRecDepth 20000 in
theorem ggX12_feed_X12_in : GoodIn wsX12_feed wsX12_in := goodIn_r _ [8] (by decide +kernel) (by decide +kernel)
set_option maxRecDepth 20000 in
theorem gX12_feed_X12_in : GoodIn wsX12_feed (va_wsS RX12 62 yX12_in wsX12_in) := goodIn_app (goodIn_of _ (by decide +kernel)) ggX12_feed_X12_in
theorem dX12_feed_0 : decode cX12_feed 0 = .ok (.iload_n 1, 1) := by decide +kernel
theorem dX12_feed_1 : decode cX12_feed 1 = .ok (.iconst 0, 1) := by decide +kernel
theorem dX12_feed_2 : decode cX12_feed 2 = .ok (.sipush 255, 3) := by decide +kernel
theorem dX12_feed_5 : decode cX12_feed 5 = .ok (.invokestatic 62, 3) := by decide +kernel
theorem dX12_feed_8 : decode cX12_feed 8 = .ok (.ifCond .ne 6, 3) := by decide +kernel
theorem dX12_feed_11 : decode cX12_feed 11 = .ok (.ldc 70, 2) := by decide +kernel
theorem dX12_feed_13 : decode cX12_feed 13 = .ok (.ireturn, 1) := by decide +kernel
theorem dX12_feed_14 : decode cX12_feed 14 = .ok (.aload_n 0, 1) := by decide +kernel
theorem dX12_feed_15 : decode cX12_feed 15 = .ok (.getfield 88, 3) := by decide +kernel
theorem dX12_feed_18 : decode cX12_feed 18 = .ok (.bipush 90, 2) := by decide +kernel
theorem dX12_feed_20 : decode cX12_feed 20 = .ok (.if_icmp .ne 6, 3) := by decide +kernel
theorem dX12_feed_23 : decode cX12_feed 23 = .ok (.ldc 91, 2) := by decide +kernel
theorem dX12_feed_25 : decode cX12_feed 25 = .ok (.ireturn, 1) := by decide +kernel
theorem dX12_feed_26 : decode cX12_feed 26 = .ok (.aload_n 0, 1) := by decide +kernel
theorem dX12_feed_27 : decode cX12_feed 27 = .ok (.getfield 22, 3) := by decide +kernel
theorem dX12_feed_30 : decode cX12_feed 30 = .ok (.aload_n 0, 1) := by decide +kernel
theorem dX12_feed_31 : decode cX12_feed 31 = .ok (.getfield 88, 3) := by decide +kernel
theorem dX12_feed_34 : decode cX12_feed 34 = .ok (.iload_n 1, 1) := by decide +kernel
theorem dX12_feed_35 : decode cX12_feed 35 = .ok (.iastore, 1) := by decide +kernel
theorem dX12_feed_36 : decode cX12_feed 36 = .ok (.aload_n 0, 1) := by decide +kernel
theorem dX12_feed_37 : decode cX12_feed 37 = .ok (.dup, 1) := by decide +kernel
theorem dX12_feed_38 : decode cX12_feed 38 = .ok (.getfield 88, 3) := by decide +kernel
theorem dX12_feed_41 : decode cX12_feed 41 = .ok (.iconst 1, 1) := by decide +kernel
theorem dX12_feed_42 : decode cX12_feed 42 = .ok (.iadd, 1) := by decide +kernel
theorem dX12_feed_43 : decode cX12_feed 43 = .ok (.putfield 88, 3) := by decide +kernel
theorem dX12_feed_46 : decode cX12_feed 46 = .ok (.aload_n 0, 1) := by decide +kernel
theorem dX12_feed_47 : decode cX12_feed 47 = .ok (.getfield 88, 3) := by decide +kernel
theorem dX12_feed_50 : decode cX12_feed 50 = .ok (.ireturn, 1) := by decide +kernel
theorem dX12_byteAt_0 : decode cX12_byteAt 0 = .ok (.iload_n 1, 1) := by decide +kernel
theorem dX12_byteAt_1 : decode cX12_byteAt 1 = .ok (.aload_n 0, 1) := by decide +kernel
theorem dX12_byteAt_2 : decode cX12_byteAt 2 = .ok (.getfield 88, 3) := by decide +kernel
theorem dX12_byteAt_5 : decode cX12_byteAt 5 = .ok (.if_icmp .ge 12, 3) := by decide +kernel
theorem dX12_byteAt_8 : decode cX12_byteAt 8 = .ok (.aload_n 0, 1) := by decide +kernel
theorem dX12_byteAt_9 : decode cX12_byteAt 9 = .ok (.getfield 22, 3) := by decide +kernel
theorem dX12_byteAt_12 : decode cX12_byteAt 12 = .ok (.iload_n 1, 1) := by decide +kernel
theorem dX12_byteAt_13 : decode cX12_byteAt 13 = .ok (.iaload, 1) := by decide +kernel
theorem dX12_byteAt_14 : decode cX12_byteAt 14 = .ok (.goto 4, 3) := by decide +kernel
theorem dX12_byteAt_17 : decode cX12_byteAt 17 = .ok (.iconst (-1), 1) := by decide +kernel
theorem dX12_byteAt_18 : decode cX12_byteAt 18 = .ok (.ireturn, 1) := by decide +kernel
set_option maxRecDepth 20000 in
theorem ggX12_advances_X12_byteAt : GoodIn wsX12_advances wsX12_byteAt := goodIn_r _ [9, 10, 11, 15, 16, 17, 18, 19, 20, 21, 22, 23, 24, 25, 26, 27, 28, 29, 30, 31, 32, 33, 34, 35, 36, 37, 38, 39] (by decide +kernel) (by decide +kernel)
set_option maxRecDepth 20000 in
theorem gX12_advances_X12_byteAt : GoodIn wsX12_advances (wsV RX12 98 RX12 yX12_byteAt wsX12_byteAt) := goodIn_app (goodIn_of _ (by decide +kernel)) ggX12_advances_X12_byteAt
set_option maxRecDepth 20000 in
theorem ggX12_advances_X12_in : GoodIn wsX12_advances wsX12_in := goodIn_r _ [14] (by decide +kernel) (by decide +kernel)
set_option maxRecDepth 20000 in
theorem gX12_advances_X12_in : GoodIn wsX12_advances (va_wsS RX12 62 yX12_in wsX12_in) := goodIn_app (goodIn_of _ (by decide +kernel)) ggX12_advances_X12_in
theorem dX12_advances_0 : decode cX12_advances 0 = .ok (.aload_n 0, 1) := by decide +kernel
theorem dX12_advances_1 : decode cX12_advances 1 = .ok (.aload_n 0, 1) := by decide +kernel
theorem dX12_advances_2 : decode cX12_advances 2 = .ok (.getfield 92, 3) := by decide +kernel
theorem dX12_advances_5 : decode cX12_advances 5 = .ok (.putfield 95, 3) := by decide +kernel
theorem dX12_advances_8 : decode cX12_advances 8 = .ok (.aload_n 0, 1) := by decide +kernel
theorem dX12_advances_9 : decode cX12_advances 9 = .ok (.aload_n 0, 1) := by decide +kernel
theorem dX12_advances_10 : decode cX12_advances 10 = .ok (.getfield 92, 3) := by decide +kernel
theorem dX12_advances_13 : decode cX12_advances 13 = .ok (.invokevirtual 98, 3) := by decide +kernel
theorem dX12_advances_16 : decode cX12_advances 16 = .ok (.istore_n 1, 1) := by decide +kernel
theorem dX12_advances_17 : decode cX12_advances 17 = .ok (.aload_n 0, 1) := by decide +kernel
theorem dX12_advances_18 : decode cX12_advances 18 = .ok (.iload_n 1, 1) := by decide +kernel
theorem dX12_advances_19 : decode cX12_advances 19 = .ok (.putfield 101, 3) := by decide +kernel
theorem dX12_advances_22 : decode cX12_advances 22 = .ok (.iload_n 1, 1) := by decide +kernel
theorem dX12_advances_23 : decode cX12_advances 23 = .ok (.bipush 48, 2) := by decide +kernel
theorem dX12_advances_25 : decode cX12_advances 25 = .ok (.bipush 57, 2) := by decide +kernel
theorem dX12_advances_27 : decode cX12_advances 27 = .ok (.invokestatic 62, 3) := by decide +kernel
theorem dX12_advances_30 : decode cX12_advances 30 = .ok (.ifCond .eq 105, 3) := by decide +kernel
theorem dX12_advances_33 : decode cX12_advances 33 = .ok (.aload_n 0, 1) := by decide +kernel
theorem dX12_advances_34 : decode cX12_advances 34 = .ok (.iconst 0, 1) := by decide +kernel
theorem dX12_advances_35 : decode cX12_advances 35 = .ok (.putfield 101, 3) := by decide +kernel
theorem dX12_advances_38 : decode cX12_advances 38 = .ok (.aload_n 0, 1) := by decide +kernel
theorem dX12_advances_39 : decode cX12_advances 39 = .ok (.aload_n 0, 1) := by decide +kernel
theorem dX12_advances_40 : decode cX12_advances 40 = .ok (.getfield 92, 3) := by decide +kernel
theorem dX12_advances_43 : decode cX12_advances 43 = .ok (.invokevirtual 98, 3) := by decide +kernel
theorem dX12_advances_46 : decode cX12_advances 46 = .ok (.bipush 48, 2) := by decide +kernel
theorem dX12_advances_48 : decode cX12_advances 48 = .ok (.bipush 57, 2) := by decide +kernel
theorem dX12_advances_50 : decode cX12_advances 50 = .ok (.invokestatic 62, 3) := by decide +kernel
theorem dX12_advances_53 : decode cX12_advances 53 = .ok (.ifCond .eq 59, 3) := by decide +kernel
theorem dX12_advances_56 : decode cX12_advances 56 = .ok (.aload_n 0, 1) := by decide +kernel
theorem dX12_advances_57 : decode cX12_advances 57 = .ok (.aload_n 0, 1) := by decide +kernel
theorem dX12_advances_58 : decode cX12_advances 58 = .ok (.getfield 92, 3) := by decide +kernel
theorem dX12_advances_61 : decode cX12_advances 61 = .ok (.aload_n 0, 1) := by decide +kernel
theorem dX12_advances_62 : decode cX12_advances 62 = .ok (.getfield 95, 3) := by decide +kernel
theorem dX12_advances_65 : decode cX12_advances 65 = .ok (.isub, 1) := by decide +kernel
theorem dX12_advances_66 : decode cX12_advances 66 = .ok (.iconst 2, 1) := by decide +kernel
theorem dX12_advances_67 : decode cX12_advances 67 = .ok (.if_icmp .ge 25, 3) := by decide +kernel
theorem dX12_advances_70 : decode cX12_advances 70 = .ok (.bipush 10, 2) := by decide +kernel
theorem dX12_advances_72 : decode cX12_advances 72 = .ok (.aload_n 0, 1) := by decide +kernel
theorem dX12_advances_73 : decode cX12_advances 73 = .ok (.getfield 101, 3) := by decide +kernel
theorem dX12_advances_76 : decode cX12_advances 76 = .ok (.imul, 1) := by decide +kernel
theorem dX12_advances_77 : decode cX12_advances 77 = .ok (.aload_n 0, 1) := by decide +kernel
theorem dX12_advances_78 : decode cX12_advances 78 = .ok (.aload_n 0, 1) := by decide +kernel
theorem dX12_advances_79 : decode cX12_advances 79 = .ok (.getfield 92, 3) := by decide +kernel
theorem dX12_advances_82 : decode cX12_advances 82 = .ok (.invokevirtual 98, 3) := by decide +kernel
theorem dX12_advances_85 : decode cX12_advances 85 = .ok (.iadd, 1) := by decide +kernel
theorem dX12_advances_86 : decode cX12_advances 86 = .ok (.bipush 48, 2) := by decide +kernel
theorem dX12_advances_88 : decode cX12_advances 88 = .ok (.isub, 1) := by decide +kernel
theorem dX12_advances_89 : decode cX12_advances 89 = .ok (.goto 7, 3) := by decide +kernel
theorem dX12_advances_92 : decode cX12_advances 92 = .ok (.aload_n 0, 1) := by decide +kernel
theorem dX12_advances_93 : decode cX12_advances 93 = .ok (.getfield 101, 3) := by decide +kernel
theorem dX12_advances_96 : decode cX12_advances 96 = .ok (.putfield 101, 3) := by decide +kernel
theorem dX12_advances_99 : decode cX12_advances 99 = .ok (.aload_n 0, 1) := by decide +kernel
theorem dX12_advances_100 : decode cX12_advances 100 = .ok (.dup, 1) := by decide +kernel
theorem dX12_advances_101 : decode cX12_advances 101 = .ok (.getfield 92, 3) := by decide +kernel
theorem dX12_advances_104 : decode cX12_advances 104 = .ok (.iconst 1, 1) := by decide +kernel
theorem dX12_advances_105 : decode cX12_advances 105 = .ok (.iadd, 1) := by decide +kernel
theorem dX12_advances_106 : decode cX12_advances 106 = .ok (.putfield 92, 3) := by decide +kernel
theorem dX12_advances_109 : decode cX12_advances 109 = .ok (.goto (-71), 3) := by decide +kernel
theorem dX12_advances_112 : decode cX12_advances 112 = .ok (.aload_n 0, 1) := by decide +kernel
theorem dX12_advances_113 : decode cX12_advances 113 = .ok (.aload_n 0, 1) := by decide +kernel
theorem dX12_advances_114 : decode cX12_advances 114 = .ok (.getfield 92, 3) := by decide +kernel
theorem dX12_advances_117 : decode cX12_advances 117 = .ok (.aload_n 0, 1) := by decide +kernel
theorem dX12_advances_118 : decode cX12_advances 118 = .ok (.getfield 95, 3) := by decide +kernel
theorem dX12_advances_121 : decode cX12_advances 121 = .ok (.isub, 1) := by decide +kernel
theorem dX12_advances_122 : decode cX12_advances 122 = .ok (.iconst 3, 1) := by decide +kernel
theorem dX12_advances_123 : decode cX12_advances 123 = .ok (.if_icmp .ge 7, 3) := by decide +kernel
theorem dX12_advances_126 : decode cX12_advances 126 = .ok (.iconst 2, 1) := by decide +kernel
theorem dX12_advances_127 : decode cX12_advances 127 = .ok (.goto 4, 3) := by decide +kernel
theorem dX12_advances_130 : decode cX12_advances 130 = .ok (.iconst 5, 1) := by decide +kernel
theorem dX12_advances_131 : decode cX12_advances 131 = .ok (.putfield 104, 3) := by decide +kernel
theorem dX12_advances_134 : decode cX12_advances 134 = .ok (.return_, 1) := by decide +kernel
theorem dX12_advances_135 : decode cX12_advances 135 = .ok (.aload_n 0, 1) := by decide +kernel
theorem dX12_advances_136 : decode cX12_advances 136 = .ok (.iload_n 1, 1) := by decide +kernel
theorem dX12_advances_137 : decode cX12_advances 137 = .ok (.ifCond .ge 7, 3) := by decide +kernel
theorem dX12_advances_140 : decode cX12_advances 140 = .ok (.iconst 0, 1) := by decide +kernel
theorem dX12_advances_141 : decode cX12_advances 141 = .ok (.goto 39, 3) := by decide +kernel
theorem dX12_advances_144 : decode cX12_advances 144 = .ok (.iload_n 1, 1) := by decide +kernel
theorem dX12_advances_145 : decode cX12_advances 145 = .ok (.bipush 97, 2) := by decide +kernel
theorem dX12_advances_147 : decode cX12_advances 147 = .ok (.bipush 122, 2) := by decide +kernel
theorem dX12_advances_149 : decode cX12_advances 149 = .ok (.invokestatic 62, 3) := by decide +kernel
theorem dX12_advances_152 : decode cX12_advances 152 = .ok (.ifCond .eq 7, 3) := by decide +kernel
theorem dX12_advances_155 : decode cX12_advances 155 = .ok (.iconst 1, 1) := by decide +kernel
theorem dX12_advances_156 : decode cX12_advances 156 = .ok (.goto 24, 3) := by decide +kernel
theorem dX12_advances_159 : decode cX12_advances 159 = .ok (.iload_n 1, 1) := by decide +kernel
theorem dX12_advances_160 : decode cX12_advances 160 = .ok (.bipush 44, 2) := by decide +kernel
theorem dX12_advances_162 : decode cX12_advances 162 = .ok (.if_icmp .ne 7, 3) := by decide +kernel
theorem dX12_advances_165 : decode cX12_advances 165 = .ok (.iconst 3, 1) := by decide +kernel
theorem dX12_advances_166 : decode cX12_advances 166 = .ok (.goto 14, 3) := by decide +kernel
theorem dX12_advances_169 : decode cX12_advances 169 = .ok (.iload_n 1, 1) := by decide +kernel
theorem dX12_advances_170 : decode cX12_advances 170 = .ok (.bipush 59, 2) := by decide +kernel
theorem dX12_advances_172 : decode cX12_advances 172 = .ok (.if_icmp .ne 7, 3) := by decide +kernel
theorem dX12_advances_175 : decode cX12_advances 175 = .ok (.iconst 4, 1) := by decide +kernel
theorem dX12_advances_176 : decode cX12_advances 176 = .ok (.goto 4, 3) := by decide +kernel
theorem dX12_advances_179 : decode cX12_advances 179 = .ok (.iconst 5, 1) := by decide +kernel
theorem dX12_advances_180 : decode cX12_advances 180 = .ok (.putfield 104, 3) := by decide +kernel
theorem dX12_advances_183 : decode cX12_advances 183 = .ok (.aload_n 0, 1) := by decide +kernel
theorem dX12_advances_184 : decode cX12_advances 184 = .ok (.dup, 1) := by decide +kernel
theorem dX12_advances_185 : decode cX12_advances 185 = .ok (.getfield 92, 3) := by decide +kernel
theorem dX12_advances_188 : decode cX12_advances 188 = .ok (.aload_n 0, 1) := by decide +kernel
theorem dX12_advances_189 : decode cX12_advances 189 = .ok (.getfield 104, 3) := by decide +kernel
theorem dX12_advances_192 : decode cX12_advances 192 = .ok (.ifCond .ne 7, 3) := by decide +kernel
theorem dX12_advances_195 : decode cX12_advances 195 = .ok (.iconst 0, 1) := by decide +kernel
theorem dX12_advances_196 : decode cX12_advances 196 = .ok (.goto 4, 3) := by decide +kernel
theorem dX12_advances_199 : decode cX12_advances 199 = .ok (.iconst 1, 1) := by decide +kernel
theorem dX12_advances_200 : decode cX12_advances 200 = .ok (.iadd, 1) := by decide +kernel
theorem dX12_advances_201 : decode cX12_advances 201 = .ok (.putfield 92, 3) := by decide +kernel
theorem dX12_advances_204 : decode cX12_advances 204 = .ok (.return_, 1) := by decide +kernel
theorem dX12_isWell_0 : decode cX12_isWell 0 = .ok (.aload_n 0, 1) := by decide +kernel
theorem dX12_isWell_1 : decode cX12_isWell 1 = .ok (.getfield 107, 3) := by decide +kernel
theorem dX12_isWell_4 : decode cX12_isWell 4 = .ok (.ifCond .ge 7, 3) := by decide +kernel
theorem dX12_isWell_7 : decode cX12_isWell 7 = .ok (.iconst 1, 1) := by decide +kernel
theorem dX12_isWell_8 : decode cX12_isWell 8 = .ok (.goto 4, 3) := by decide +kernel
theorem dX12_isWell_11 : decode cX12_isWell 11 = .ok (.iconst 0, 1) := by decide +kernel
theorem dX12_isWell_12 : decode cX12_isWell 12 = .ok (.ireturn, 1) := by decide +kernel
set_option maxRecDepth 20000 in
theorem ggX12_takes_X12_isWell : GoodIn wsX12_takes wsX12_isWell := goodIn_r _ [9, 2, 25, 26, 27, 28, 29, 30, 31, 32, 33, 34, 35, 36, 37, 38, 39, 40, 41, 42, 43, 44, 45, 46, 47, 48, 49] (by decide +kernel) (by decide +kernel)
set_option maxRecDepth 20000 in
theorem gX12_takes_X12_isWell : GoodIn wsX12_takes (wsV RX12 110 RX12 yX12_isWell wsX12_isWell) := goodIn_app (goodIn_of _ (by decide +kernel)) ggX12_takes_X12_isWell
set_option maxRecDepth 20000 in
theorem ggX12_takes_X12_advances : GoodIn wsX12_takes wsX12_advances := goodIn_r _ [13, 14, 1, 4, 15, 16, 17, 18, 8, 19, 20, 21, 22, 23, 24, 25, 26, 27, 28, 29, 30, 31, 32, 33, 34, 35, 36, 37, 38, 39, 40, 41, 42, 43, 44, 45, 46, 47, 48, 49] (by decide +kernel) (by decide +kernel)
set_option maxRecDepth 20000 in
theorem gX12_takes_X12_advances : GoodIn wsX12_takes (wsV RX12 117 RX12 yX12_advances wsX12_advances) := goodIn_app (goodIn_of _ (by decide +kernel)) ggX12_takes_X12_advances
theorem dX12_takes_0 : decode cX12_takes 0 = .ok (.aload_n 0, 1) := by decide +kernel
theorem dX12_takes_1 : decode cX12_takes 1 = .ok (.invokevirtual 110, 3) := by decide +kernel
theorem dX12_takes_4 : decode cX12_takes 4 = .ok (.ifCond .ne 5, 3) := by decide +kernel
theorem dX12_takes_7 : decode cX12_takes 7 = .ok (.iconst 0, 1) := by decide +kernel
theorem dX12_takes_8 : decode cX12_takes 8 = .ok (.ireturn, 1) := by decide +kernel
theorem dX12_takes_9 : decode cX12_takes 9 = .ok (.iload_n 1, 1) := by decide +kernel
theorem dX12_takes_10 : decode cX12_takes 10 = .ok (.ifCond .ne 18, 3) := by decide +kernel
theorem dX12_takes_13 : decode cX12_takes 13 = .ok (.aload_n 0, 1) := by decide +kernel
theorem dX12_takes_14 : decode cX12_takes 14 = .ok (.aload_n 0, 1) := by decide +kernel
theorem dX12_takes_15 : decode cX12_takes 15 = .ok (.getfield 95, 3) := by decide +kernel
theorem dX12_takes_18 : decode cX12_takes 18 = .ok (.putfield 107, 3) := by decide +kernel
theorem dX12_takes_21 : decode cX12_takes 21 = .ok (.aload_n 0, 1) := by decide +kernel
theorem dX12_takes_22 : decode cX12_takes 22 = .ok (.iload_n 2, 1) := by decide +kernel
theorem dX12_takes_23 : decode cX12_takes 23 = .ok (.putfield 114, 3) := by decide +kernel
theorem dX12_takes_26 : decode cX12_takes 26 = .ok (.iconst 0, 1) := by decide +kernel
theorem dX12_takes_27 : decode cX12_takes 27 = .ok (.ireturn, 1) := by decide +kernel
theorem dX12_takes_28 : decode cX12_takes 28 = .ok (.aload_n 0, 1) := by decide +kernel
theorem dX12_takes_29 : decode cX12_takes 29 = .ok (.getfield 101, 3) := by decide +kernel
theorem dX12_takes_32 : decode cX12_takes 32 = .ok (.istore_n 3, 1) := by decide +kernel
theorem dX12_takes_33 : decode cX12_takes 33 = .ok (.aload_n 0, 1) := by decide +kernel
theorem dX12_takes_34 : decode cX12_takes 34 = .ok (.invokevirtual 117, 3) := by decide +kernel
theorem dX12_takes_37 : decode cX12_takes 37 = .ok (.iload_n 3, 1) := by decide +kernel
theorem dX12_takes_38 : decode cX12_takes 38 = .ok (.ireturn, 1) := by decide +kernel
set_option maxRecDepth 20000 in
theorem ggX12_figure_X12_isWell : GoodIn wsX12_figure wsX12_isWell := goodIn_r _ [7, 8, 29, 30, 31, 32, 33, 34, 35, 36, 37, 38, 39, 40, 41, 42, 43, 44, 45, 46, 47, 48, 49, 50, 51, 52, 53] (by decide +kernel) (by decide +kernel)
set_option maxRecDepth 20000 in
theorem gX12_figure_X12_isWell : GoodIn wsX12_figure (wsV RX12 110 RX12 yX12_isWell wsX12_isWell) := goodIn_app (goodIn_of _ (by decide +kernel)) ggX12_figure_X12_isWell
set_option maxRecDepth 20000 in
theorem ggX12_figure_X12_takes : GoodIn wsX12_figure wsX12_takes := goodIn_r _ [12, 13, 8, 14, 2, 3, 4, 5, 6, 7, 15, 16, 17, 18, 19, 1, 20, 21, 22, 23, 24, 25, 26, 27, 28, 29, 30, 31, 32, 33, 34, 35, 36, 37, 38, 39, 40, 41, 42, 43, 44, 45, 46, 47, 48, 49, 50, 51, 52, 53] (by decide +kernel) (by decide +kernel)
set_option maxRecDepth 20000 in
theorem gX12_figure_X12_takes : GoodIn wsX12_figure (wsV RX12 120 RX12 yX12_takes wsX12_takes) := goodIn_app (goodIn_of _ (by decide +kernel)) ggX12_figure_X12_takes
set_option maxRecDepth 20000 in
theorem ggX12_figure_X12_in : GoodIn wsX12_figure wsX12_in := goodIn_r _ [28] (by decide +kernel) (by decide +kernel)
set_option maxRecDepth 20000 in
theorem gX12_figure_X12_in : GoodIn wsX12_figure (va_wsS RX12 62 yX12_in wsX12_in) := goodIn_app (goodIn_of _ (by decide +kernel)) ggX12_figure_X12_in
theorem dX12_figure_0 : decode cX12_figure 0 = .ok (.aload_n 0, 1) := by decide +kernel
theorem dX12_figure_1 : decode cX12_figure 1 = .ok (.invokevirtual 110, 3) := by decide +kernel
theorem dX12_figure_4 : decode cX12_figure 4 = .ok (.ifCond .eq 18, 3) := by decide +kernel
theorem dX12_figure_7 : decode cX12_figure 7 = .ok (.aload_n 0, 1) := by decide +kernel
theorem dX12_figure_8 : decode cX12_figure 8 = .ok (.getfield 104, 3) := by decide +kernel
theorem dX12_figure_11 : decode cX12_figure 11 = .ok (.iconst 2, 1) := by decide +kernel
theorem dX12_figure_12 : decode cX12_figure 12 = .ok (.if_icmp .eq 10, 3) := by decide +kernel
theorem dX12_figure_15 : decode cX12_figure 15 = .ok (.aload_n 0, 1) := by decide +kernel
theorem dX12_figure_16 : decode cX12_figure 16 = .ok (.iconst 0, 1) := by decide +kernel
theorem dX12_figure_17 : decode cX12_figure 17 = .ok (.iconst 1, 1) := by decide +kernel
theorem dX12_figure_18 : decode cX12_figure 18 = .ok (.invokevirtual 120, 3) := by decide +kernel
theorem dX12_figure_21 : decode cX12_figure 21 = .ok (.ireturn, 1) := by decide +kernel
theorem dX12_figure_22 : decode cX12_figure 22 = .ok (.aload_n 0, 1) := by decide +kernel
theorem dX12_figure_23 : decode cX12_figure 23 = .ok (.aload_n 0, 1) := by decide +kernel
theorem dX12_figure_24 : decode cX12_figure 24 = .ok (.getfield 101, 3) := by decide +kernel
theorem dX12_figure_27 : decode cX12_figure 27 = .ok (.iload_n 1, 1) := by decide +kernel
theorem dX12_figure_28 : decode cX12_figure 28 = .ok (.iload_n 2, 1) := by decide +kernel
theorem dX12_figure_29 : decode cX12_figure 29 = .ok (.invokestatic 62, 3) := by decide +kernel
theorem dX12_figure_32 : decode cX12_figure 32 = .ok (.iconst 2, 1) := by decide +kernel
theorem dX12_figure_33 : decode cX12_figure 33 = .ok (.invokevirtual 120, 3) := by decide +kernel
theorem dX12_figure_36 : decode cX12_figure 36 = .ok (.ireturn, 1) := by decide +kernel
theorem dX12_kindOf_0 : decode cX12_kindOf 0 = .ok (.iload_n 0, 1) := by decide +kernel
theorem dX12_kindOf_1 : decode cX12_kindOf 1 = .ok (.bipush 116, 2) := by decide +kernel
theorem dX12_kindOf_3 : decode cX12_kindOf 3 = .ok (.if_icmp .ne 7, 3) := by decide +kernel
theorem dX12_kindOf_6 : decode cX12_kindOf 6 = .ok (.iconst 1, 1) := by decide +kernel
theorem dX12_kindOf_7 : decode cX12_kindOf 7 = .ok (.goto 44, 3) := by decide +kernel
theorem dX12_kindOf_10 : decode cX12_kindOf 10 = .ok (.iload_n 0, 1) := by decide +kernel
theorem dX12_kindOf_11 : decode cX12_kindOf 11 = .ok (.bipush 111, 2) := by decide +kernel
theorem dX12_kindOf_13 : decode cX12_kindOf 13 = .ok (.if_icmp .ne 7, 3) := by decide +kernel
theorem dX12_kindOf_16 : decode cX12_kindOf 16 = .ok (.iconst 2, 1) := by decide +kernel
theorem dX12_kindOf_17 : decode cX12_kindOf 17 = .ok (.goto 34, 3) := by decide +kernel
theorem dX12_kindOf_20 : decode cX12_kindOf 20 = .ok (.iload_n 0, 1) := by decide +kernel
theorem dX12_kindOf_21 : decode cX12_kindOf 21 = .ok (.bipush 112, 2) := by decide +kernel
theorem dX12_kindOf_23 : decode cX12_kindOf 23 = .ok (.if_icmp .ne 7, 3) := by decide +kernel
theorem dX12_kindOf_26 : decode cX12_kindOf 26 = .ok (.iconst 3, 1) := by decide +kernel
theorem dX12_kindOf_27 : decode cX12_kindOf 27 = .ok (.goto 24, 3) := by decide +kernel
theorem dX12_kindOf_30 : decode cX12_kindOf 30 = .ok (.iload_n 0, 1) := by decide +kernel
theorem dX12_kindOf_31 : decode cX12_kindOf 31 = .ok (.bipush 102, 2) := by decide +kernel
theorem dX12_kindOf_33 : decode cX12_kindOf 33 = .ok (.if_icmp .ne 7, 3) := by decide +kernel
theorem dX12_kindOf_36 : decode cX12_kindOf 36 = .ok (.iconst 4, 1) := by decide +kernel
theorem dX12_kindOf_37 : decode cX12_kindOf 37 = .ok (.goto 14, 3) := by decide +kernel
theorem dX12_kindOf_40 : decode cX12_kindOf 40 = .ok (.iload_n 0, 1) := by decide +kernel
theorem dX12_kindOf_41 : decode cX12_kindOf 41 = .ok (.bipush 115, 2) := by decide +kernel
theorem dX12_kindOf_43 : decode cX12_kindOf 43 = .ok (.if_icmp .ne 7, 3) := by decide +kernel
theorem dX12_kindOf_46 : decode cX12_kindOf 46 = .ok (.iconst 5, 1) := by decide +kernel
theorem dX12_kindOf_47 : decode cX12_kindOf 47 = .ok (.goto 4, 3) := by decide +kernel
theorem dX12_kindOf_50 : decode cX12_kindOf 50 = .ok (.iconst 0, 1) := by decide +kernel
theorem dX12_kindOf_51 : decode cX12_kindOf 51 = .ok (.ireturn, 1) := by decide +kernel
set_option maxRecDepth 20000 in
theorem ggX12_follows_X12_takes : GoodIn wsX12_follows wsX12_takes := goodIn_r _ [6, 7, 8, 9, 10, 11, 12, 13, 5, 14, 15, 16, 17, 18, 19, 1, 20, 21, 22, 23, 24, 25, 26, 27, 28, 33, 34, 35, 36, 37, 38, 39, 40, 41, 42, 43, 44, 45, 46, 47, 48, 49, 50, 51, 52, 53, 54, 55, 56, 57] (by decide +kernel) (by decide +kernel)
set_option maxRecDepth 20000 in
theorem gX12_follows_X12_takes : GoodIn wsX12_follows (wsV RX12 120 RX12 yX12_takes wsX12_takes) := goodIn_app (goodIn_of _ (by decide +kernel)) ggX12_follows_X12_takes
set_option maxRecDepth 20000 in
theorem ggX12_follows_X12_figure : GoodIn wsX12_follows wsX12_figure := goodIn_r _ [32, 1, 10, 11, 12, 13, 5, 14, 8, 2, 3, 4, 6, 7, 9, 15, 16, 17, 18, 19, 20, 21, 22, 23, 24, 25, 26, 27, 28, 33, 34, 35, 36, 37, 38, 39, 40, 41, 42, 43, 44, 45, 46, 47, 48, 49, 50, 51, 52, 53, 54, 55, 56, 57] (by decide +kernel) (by decide +kernel)
set_option maxRecDepth 20000 in
theorem gX12_follows_X12_figure : GoodIn wsX12_follows (wsV RX12 124 RX12 yX12_figure wsX12_figure) := goodIn_app (goodIn_of _ (by decide +kernel)) ggX12_follows_X12_figure
theorem dX12_follows_0 : decode cX12_follows 0 = .ok (.aload_n 0, 1) := by decide +kernel
theorem dX12_follows_1 : decode cX12_follows 1 = .ok (.aload_n 0, 1) := by decide +kernel
theorem dX12_follows_2 : decode cX12_follows 2 = .ok (.getfield 104, 3) := by decide +kernel
theorem dX12_follows_5 : decode cX12_follows 5 = .ok (.iconst 3, 1) := by decide +kernel
theorem dX12_follows_6 : decode cX12_follows 6 = .ok (.if_icmp .ne 7, 3) := by decide +kernel
theorem dX12_follows_9 : decode cX12_follows 9 = .ok (.iconst 1, 1) := by decide +kernel
theorem dX12_follows_10 : decode cX12_follows 10 = .ok (.goto 4, 3) := by decide +kernel
theorem dX12_follows_13 : decode cX12_follows 13 = .ok (.iconst 0, 1) := by decide +kernel
theorem dX12_follows_14 : decode cX12_follows 14 = .ok (.iconst 1, 1) := by decide +kernel
theorem dX12_follows_15 : decode cX12_follows 15 = .ok (.invokevirtual 120, 3) := by decide +kernel
theorem dX12_follows_18 : decode cX12_follows 18 = .ok (.pop, 1) := by decide +kernel
theorem dX12_follows_19 : decode cX12_follows 19 = .ok (.aload_n 0, 1) := by decide +kernel
theorem dX12_follows_20 : decode cX12_follows 20 = .ok (.iload_n 1, 1) := by decide +kernel
theorem dX12_follows_21 : decode cX12_follows 21 = .ok (.iload_n 2, 1) := by decide +kernel
theorem dX12_follows_22 : decode cX12_follows 22 = .ok (.invokevirtual 124, 3) := by decide +kernel
theorem dX12_follows_25 : decode cX12_follows 25 = .ok (.ireturn, 1) := by decide +kernel
set_option maxRecDepth 20000 in
theorem ggX12_readsTurnip_X12_kindOf : GoodIn wsX12_readsTurnip wsX12_kindOf := goodIn_r _ [8] (by decide +kernel) (by decide +kernel)
set_option maxRecDepth 20000 in
theorem gX12_readsTurnip_X12_kindOf : GoodIn wsX12_readsTurnip (va_wsS RX12 127 yX12_kindOf wsX12_kindOf) := goodIn_app (goodIn_of _ (by decide +kernel)) ggX12_readsTurnip_X12_kindOf
set_option maxRecDepth 20000 in
theorem ggX12_readsTurnip_X12_takes : GoodIn wsX12_readsTurnip wsX12_takes := goodIn_r _ [12, 13, 14, 15, 1, 16, 17, 18, 7, 19, 20, 21, 22, 23, 24, 3, 25, 26, 27, 28, 29, 30, 31, 32, 33, 42, 43, 44, 45, 46, 47, 48, 49, 50, 51, 52, 53, 54, 55, 56, 57, 58, 59, 60, 61, 62, 63, 64, 65, 66] (by decide +kernel) (by decide +kernel)
set_option maxRecDepth 20000 in
theorem gX12_readsTurnip_X12_takes : GoodIn wsX12_readsTurnip (wsV RX12 120 RX12 yX12_takes wsX12_takes) := goodIn_app (goodIn_of _ (by decide +kernel)) ggX12_readsTurnip_X12_takes
set_option maxRecDepth 20000 in
theorem ggX12_readsTurnip_X12_figure : GoodIn wsX12_readsTurnip wsX12_figure := goodIn_r _ [37, 3, 1, 16, 17, 18, 7, 19, 14, 9, 10, 11, 12, 13, 15, 20, 21, 22, 23, 24, 25, 26, 27, 28, 29, 30, 31, 32, 33, 42, 43, 44, 45, 46, 47, 48, 49, 50, 51, 52, 53, 54, 55, 56, 57, 58, 59, 60, 61, 62, 63, 64, 65, 66] (by decide +kernel) (by decide +kernel)
set_option maxRecDepth 20000 in
theorem gX12_readsTurnip_X12_figure : GoodIn wsX12_readsTurnip (wsV RX12 124 RX12 yX12_figure wsX12_figure) := goodIn_app (goodIn_of _ (by decide +kernel)) ggX12_readsTurnip_X12_figure
set_option maxRecDepth 20000 in
theorem ggX12_readsTurnip_X12_follows : GoodIn wsX12_readsTurnip wsX12_follows := goodIn_r _ [41, 3, 9, 10, 11, 7, 12, 13, 14, 15, 1, 16, 17, 18, 19, 20, 21, 22, 23, 24, 25, 26, 27, 28, 29, 30, 31, 32, 33, 34, 35, 36, 37, 42, 43, 44, 45, 46, 47, 48, 49, 50, 51, 52, 53, 54, 55, 56, 57, 58, 59, 60, 61, 62, 63, 64, 65, 66] (by decide +kernel) (by decide +kernel)
set_option maxRecDepth 20000 in
theorem gX12_readsTurnip_X12_follows : GoodIn wsX12_readsTurnip (wsV RX12 130 RX12 yX12_follows wsX12_follows) := goodIn_app (goodIn_of _ (by decide +kernel)) ggX12_readsTurnip_X12_follows
set_option maxRecDepth 20000 in
theorem ggX12_readsTurnip_X12_isWell : GoodIn wsX12_readsTurnip wsX12_isWell := goodIn_r _ [19, 14, 42, 43, 44, 45, 46, 47, 48, 49, 50, 51, 52, 53, 54, 55, 56, 57, 58, 59, 60, 61, 62, 63, 64, 65, 66] (by decide +kernel) (by decide +kernel)
set_option maxRecDepth 20000 in
theorem gX12_readsTurnip_X12_isWell : GoodIn wsX12_readsTurnip (wsV RX12 110 RX12 yX12_isWell wsX12_isWell) := goodIn_app (goodIn_of _ (by decide +kernel)) ggX12_readsTurnip_X12_isWell
theorem dX12_readsTurnip_0 : decode cX12_readsTurnip 0 = .ok (.aload_n 0, 1) := by decide +kernel
theorem dX12_readsTurnip_1 : decode cX12_readsTurnip 1 = .ok (.getfield 101, 3) := by decide +kernel
theorem dX12_readsTurnip_4 : decode cX12_readsTurnip 4 = .ok (.invokestatic 127, 3) := by decide +kernel
theorem dX12_readsTurnip_7 : decode cX12_readsTurnip 7 = .ok (.istore_n 1, 1) := by decide +kernel
theorem dX12_readsTurnip_8 : decode cX12_readsTurnip 8 = .ok (.aload_n 0, 1) := by decide +kernel
theorem dX12_readsTurnip_9 : decode cX12_readsTurnip 9 = .ok (.aload_n 0, 1) := by decide +kernel
theorem dX12_readsTurnip_10 : decode cX12_readsTurnip 10 = .ok (.getfield 28, 3) := by decide +kernel
theorem dX12_readsTurnip_13 : decode cX12_readsTurnip 13 = .ok (.iconst 2, 1) := by decide +kernel
theorem dX12_readsTurnip_14 : decode cX12_readsTurnip 14 = .ok (.iaload, 1) := by decide +kernel
theorem dX12_readsTurnip_15 : decode cX12_readsTurnip 15 = .ok (.bipush 7, 2) := by decide +kernel
theorem dX12_readsTurnip_17 : decode cX12_readsTurnip 17 = .ok (.if_icmp .ge 7, 3) := by decide +kernel
theorem dX12_readsTurnip_20 : decode cX12_readsTurnip 20 = .ok (.iconst 1, 1) := by decide +kernel
theorem dX12_readsTurnip_21 : decode cX12_readsTurnip 21 = .ok (.goto 4, 3) := by decide +kernel
theorem dX12_readsTurnip_24 : decode cX12_readsTurnip 24 = .ok (.iconst 0, 1) := by decide +kernel
theorem dX12_readsTurnip_25 : decode cX12_readsTurnip 25 = .ok (.iconst 3, 1) := by decide +kernel
theorem dX12_readsTurnip_26 : decode cX12_readsTurnip 26 = .ok (.invokevirtual 120, 3) := by decide +kernel
theorem dX12_readsTurnip_29 : decode cX12_readsTurnip 29 = .ok (.pop, 1) := by decide +kernel
theorem dX12_readsTurnip_30 : decode cX12_readsTurnip 30 = .ok (.iconst 4, 1) := by decide +kernel
theorem dX12_readsTurnip_31 : decode cX12_readsTurnip 31 = .ok (.bipush 6, 2) := by decide +kernel
theorem dX12_readsTurnip_33 : decode cX12_readsTurnip 33 = .ok (.aload_n 0, 1) := by decide +kernel
theorem dX12_readsTurnip_34 : decode cX12_readsTurnip 34 = .ok (.getfield 28, 3) := by decide +kernel
theorem dX12_readsTurnip_37 : decode cX12_readsTurnip 37 = .ok (.iconst 2, 1) := by decide +kernel
theorem dX12_readsTurnip_38 : decode cX12_readsTurnip 38 = .ok (.iaload, 1) := by decide +kernel
theorem dX12_readsTurnip_39 : decode cX12_readsTurnip 39 = .ok (.bipush 7, 2) := by decide +kernel
theorem dX12_readsTurnip_41 : decode cX12_readsTurnip 41 = .ok (.if_icmp .ge 12, 3) := by decide +kernel
theorem dX12_readsTurnip_44 : decode cX12_readsTurnip 44 = .ok (.aload_n 0, 1) := by decide +kernel
theorem dX12_readsTurnip_45 : decode cX12_readsTurnip 45 = .ok (.getfield 28, 3) := by decide +kernel
theorem dX12_readsTurnip_48 : decode cX12_readsTurnip 48 = .ok (.iconst 2, 1) := by decide +kernel
theorem dX12_readsTurnip_49 : decode cX12_readsTurnip 49 = .ok (.iaload, 1) := by decide +kernel
theorem dX12_readsTurnip_50 : decode cX12_readsTurnip 50 = .ok (.goto 4, 3) := by decide +kernel
theorem dX12_readsTurnip_53 : decode cX12_readsTurnip 53 = .ok (.iconst 0, 1) := by decide +kernel
theorem dX12_readsTurnip_54 : decode cX12_readsTurnip 54 = .ok (.imul, 1) := by decide +kernel
theorem dX12_readsTurnip_55 : decode cX12_readsTurnip 55 = .ok (.iadd, 1) := by decide +kernel
theorem dX12_readsTurnip_56 : decode cX12_readsTurnip 56 = .ok (.istore_n 2, 1) := by decide +kernel
theorem dX12_readsTurnip_57 : decode cX12_readsTurnip 57 = .ok (.aload_n 0, 1) := by decide +kernel
theorem dX12_readsTurnip_58 : decode cX12_readsTurnip 58 = .ok (.iconst 0, 1) := by decide +kernel
theorem dX12_readsTurnip_59 : decode cX12_readsTurnip 59 = .ok (.bipush 9, 2) := by decide +kernel
theorem dX12_readsTurnip_61 : decode cX12_readsTurnip 61 = .ok (.invokevirtual 124, 3) := by decide +kernel
theorem dX12_readsTurnip_64 : decode cX12_readsTurnip 64 = .ok (.istore_n 3, 1) := by decide +kernel
theorem dX12_readsTurnip_65 : decode cX12_readsTurnip 65 = .ok (.aload_n 0, 1) := by decide +kernel
theorem dX12_readsTurnip_66 : decode cX12_readsTurnip 66 = .ok (.iconst 0, 1) := by decide +kernel
theorem dX12_readsTurnip_67 : decode cX12_readsTurnip 67 = .ok (.bipush 9, 2) := by decide +kernel
theorem dX12_readsTurnip_69 : decode cX12_readsTurnip 69 = .ok (.invokevirtual 130, 3) := by decide +kernel
theorem dX12_readsTurnip_72 : decode cX12_readsTurnip 72 = .ok (.istore 4, 2) := by decide +kernel
theorem dX12_readsTurnip_74 : decode cX12_readsTurnip 74 = .ok (.aload_n 0, 1) := by decide +kernel
theorem dX12_readsTurnip_75 : decode cX12_readsTurnip 75 = .ok (.iconst 0, 1) := by decide +kernel
theorem dX12_readsTurnip_76 : decode cX12_readsTurnip 76 = .ok (.iconst 1, 1) := by decide +kernel
theorem dX12_readsTurnip_77 : decode cX12_readsTurnip 77 = .ok (.invokevirtual 130, 3) := by decide +kernel
theorem dX12_readsTurnip_80 : decode cX12_readsTurnip 80 = .ok (.istore 5, 2) := by decide +kernel
theorem dX12_readsTurnip_82 : decode cX12_readsTurnip 82 = .ok (.aload_n 0, 1) := by decide +kernel
theorem dX12_readsTurnip_83 : decode cX12_readsTurnip 83 = .ok (.aload_n 0, 1) := by decide +kernel
theorem dX12_readsTurnip_84 : decode cX12_readsTurnip 84 = .ok (.getfield 104, 3) := by decide +kernel
theorem dX12_readsTurnip_87 : decode cX12_readsTurnip 87 = .ok (.iconst 4, 1) := by decide +kernel
theorem dX12_readsTurnip_88 : decode cX12_readsTurnip 88 = .ok (.if_icmp .ne 7, 3) := by decide +kernel
theorem dX12_readsTurnip_91 : decode cX12_readsTurnip 91 = .ok (.iconst 1, 1) := by decide +kernel
theorem dX12_readsTurnip_92 : decode cX12_readsTurnip 92 = .ok (.goto 4, 3) := by decide +kernel
theorem dX12_readsTurnip_95 : decode cX12_readsTurnip 95 = .ok (.iconst 0, 1) := by decide +kernel
theorem dX12_readsTurnip_96 : decode cX12_readsTurnip 96 = .ok (.iconst 1, 1) := by decide +kernel
theorem dX12_readsTurnip_97 : decode cX12_readsTurnip 97 = .ok (.invokevirtual 120, 3) := by decide +kernel
theorem dX12_readsTurnip_100 : decode cX12_readsTurnip 100 = .ok (.pop, 1) := by decide +kernel
theorem dX12_readsTurnip_101 : decode cX12_readsTurnip 101 = .ok (.aload_n 0, 1) := by decide +kernel
theorem dX12_readsTurnip_102 : decode cX12_readsTurnip 102 = .ok (.invokevirtual 110, 3) := by decide +kernel
theorem dX12_readsTurnip_105 : decode cX12_readsTurnip 105 = .ok (.ifCond .eq 73, 3) := by decide +kernel
theorem dX12_readsTurnip_108 : decode cX12_readsTurnip 108 = .ok (.aload_n 0, 1) := by decide +kernel
theorem dX12_readsTurnip_109 : decode cX12_readsTurnip 109 = .ok (.getfield 28, 3) := by decide +kernel
theorem dX12_readsTurnip_112 : decode cX12_readsTurnip 112 = .ok (.iload_n 2, 1) := by decide +kernel
theorem dX12_readsTurnip_113 : decode cX12_readsTurnip 113 = .ok (.iload_n 1, 1) := by decide +kernel
theorem dX12_readsTurnip_114 : decode cX12_readsTurnip 114 = .ok (.iastore, 1) := by decide +kernel
theorem dX12_readsTurnip_115 : decode cX12_readsTurnip 115 = .ok (.aload_n 0, 1) := by decide +kernel
theorem dX12_readsTurnip_116 : decode cX12_readsTurnip 116 = .ok (.getfield 28, 3) := by decide +kernel
theorem dX12_readsTurnip_119 : decode cX12_readsTurnip 119 = .ok (.iload_n 2, 1) := by decide +kernel
theorem dX12_readsTurnip_120 : decode cX12_readsTurnip 120 = .ok (.iconst 1, 1) := by decide +kernel
theorem dX12_readsTurnip_121 : decode cX12_readsTurnip 121 = .ok (.iadd, 1) := by decide +kernel
theorem dX12_readsTurnip_122 : decode cX12_readsTurnip 122 = .ok (.iload_n 3, 1) := by decide +kernel
theorem dX12_readsTurnip_123 : decode cX12_readsTurnip 123 = .ok (.iastore, 1) := by decide +kernel
theorem dX12_readsTurnip_124 : decode cX12_readsTurnip 124 = .ok (.aload_n 0, 1) := by decide +kernel
theorem dX12_readsTurnip_125 : decode cX12_readsTurnip 125 = .ok (.getfield 28, 3) := by decide +kernel
theorem dX12_readsTurnip_128 : decode cX12_readsTurnip 128 = .ok (.iload_n 2, 1) := by decide +kernel
theorem dX12_readsTurnip_129 : decode cX12_readsTurnip 129 = .ok (.iconst 2, 1) := by decide +kernel
theorem dX12_readsTurnip_130 : decode cX12_readsTurnip 130 = .ok (.iadd, 1) := by decide +kernel
theorem dX12_readsTurnip_131 : decode cX12_readsTurnip 131 = .ok (.iload 4, 2) := by decide +kernel
theorem dX12_readsTurnip_133 : decode cX12_readsTurnip 133 = .ok (.iastore, 1) := by decide +kernel
theorem dX12_readsTurnip_134 : decode cX12_readsTurnip 134 = .ok (.aload_n 0, 1) := by decide +kernel
theorem dX12_readsTurnip_135 : decode cX12_readsTurnip 135 = .ok (.getfield 28, 3) := by decide +kernel
theorem dX12_readsTurnip_138 : decode cX12_readsTurnip 138 = .ok (.iload_n 2, 1) := by decide +kernel
theorem dX12_readsTurnip_139 : decode cX12_readsTurnip 139 = .ok (.iconst 3, 1) := by decide +kernel
theorem dX12_readsTurnip_140 : decode cX12_readsTurnip 140 = .ok (.iadd, 1) := by decide +kernel
theorem dX12_readsTurnip_141 : decode cX12_readsTurnip 141 = .ok (.aload_n 0, 1) := by decide +kernel
theorem dX12_readsTurnip_142 : decode cX12_readsTurnip 142 = .ok (.getfield 28, 3) := by decide +kernel
theorem dX12_readsTurnip_145 : decode cX12_readsTurnip 145 = .ok (.iconst 2, 1) := by decide +kernel
theorem dX12_readsTurnip_146 : decode cX12_readsTurnip 146 = .ok (.iaload, 1) := by decide +kernel
theorem dX12_readsTurnip_147 : decode cX12_readsTurnip 147 = .ok (.iastore, 1) := by decide +kernel
theorem dX12_readsTurnip_148 : decode cX12_readsTurnip 148 = .ok (.aload_n 0, 1) := by decide +kernel
theorem dX12_readsTurnip_149 : decode cX12_readsTurnip 149 = .ok (.getfield 28, 3) := by decide +kernel
theorem dX12_readsTurnip_152 : decode cX12_readsTurnip 152 = .ok (.iload_n 2, 1) := by decide +kernel
theorem dX12_readsTurnip_153 : decode cX12_readsTurnip 153 = .ok (.iconst 4, 1) := by decide +kernel
theorem dX12_readsTurnip_154 : decode cX12_readsTurnip 154 = .ok (.iadd, 1) := by decide +kernel
theorem dX12_readsTurnip_155 : decode cX12_readsTurnip 155 = .ok (.iload 5, 2) := by decide +kernel
theorem dX12_readsTurnip_157 : decode cX12_readsTurnip 157 = .ok (.iastore, 1) := by decide +kernel
theorem dX12_readsTurnip_158 : decode cX12_readsTurnip 158 = .ok (.aload_n 0, 1) := by decide +kernel
theorem dX12_readsTurnip_159 : decode cX12_readsTurnip 159 = .ok (.getfield 28, 3) := by decide +kernel
theorem dX12_readsTurnip_162 : decode cX12_readsTurnip 162 = .ok (.iload_n 2, 1) := by decide +kernel
theorem dX12_readsTurnip_163 : decode cX12_readsTurnip 163 = .ok (.iconst 5, 1) := by decide +kernel
theorem dX12_readsTurnip_164 : decode cX12_readsTurnip 164 = .ok (.iadd, 1) := by decide +kernel
theorem dX12_readsTurnip_165 : decode cX12_readsTurnip 165 = .ok (.ldc 56, 2) := by decide +kernel
theorem dX12_readsTurnip_167 : decode cX12_readsTurnip 167 = .ok (.iastore, 1) := by decide +kernel
theorem dX12_readsTurnip_168 : decode cX12_readsTurnip 168 = .ok (.aload_n 0, 1) := by decide +kernel
theorem dX12_readsTurnip_169 : decode cX12_readsTurnip 169 = .ok (.getfield 28, 3) := by decide +kernel
theorem dX12_readsTurnip_172 : decode cX12_readsTurnip 172 = .ok (.iconst 2, 1) := by decide +kernel
theorem dX12_readsTurnip_173 : decode cX12_readsTurnip 173 = .ok (.dup2, 1) := by decide +kernel
theorem dX12_readsTurnip_174 : decode cX12_readsTurnip 174 = .ok (.iaload, 1) := by decide +kernel
theorem dX12_readsTurnip_175 : decode cX12_readsTurnip 175 = .ok (.iconst 1, 1) := by decide +kernel
theorem dX12_readsTurnip_176 : decode cX12_readsTurnip 176 = .ok (.iadd, 1) := by decide +kernel
theorem dX12_readsTurnip_177 : decode cX12_readsTurnip 177 = .ok (.iastore, 1) := by decide +kernel
theorem dX12_readsTurnip_178 : decode cX12_readsTurnip 178 = .ok (.return_, 1) := by decide +kernel
set_option maxRecDepth 20000 in
theorem ggX12_must_X12_isWell : GoodIn wsX12_must wsX12_isWell := goodIn_r _ [5, 6, 29, 30, 31, 32, 33, 34, 35, 36, 37, 38, 39, 40, 41, 42, 43, 44, 45, 46, 47, 48, 49, 50, 51, 52, 53] (by decide +kernel) (by decide +kernel)
set_option maxRecDepth 20000 in
theorem gX12_must_X12_isWell : GoodIn wsX12_must (wsV RX12 110 RX12 yX12_isWell wsX12_isWell) := goodIn_app (goodIn_of _ (by decide +kernel)) ggX12_must_X12_isWell
set_option maxRecDepth 20000 in
theorem ggX12_must_X12_takes : GoodIn wsX12_must wsX12_takes := goodIn_r _ [10, 11, 6, 12, 13, 1, 2, 3, 4, 5, 14, 15, 16, 17, 18, 19, 20, 21, 22, 23, 24, 25, 26, 27, 28, 29, 30, 31, 32, 33, 34, 35, 36, 37, 38, 39, 40, 41, 42, 43, 44, 45, 46, 47, 48, 49, 50, 51, 52, 53] (by decide +kernel) (by decide +kernel)
set_option maxRecDepth 20000 in
theorem gX12_must_X12_takes : GoodIn wsX12_must (wsV RX12 120 RX12 yX12_takes wsX12_takes) := goodIn_app (goodIn_of _ (by decide +kernel)) ggX12_must_X12_takes
theorem dX12_must_0 : decode cX12_must 0 = .ok (.aload_n 0, 1) := by decide +kernel
theorem dX12_must_1 : decode cX12_must 1 = .ok (.invokevirtual 110, 3) := by decide +kernel
theorem dX12_must_4 : decode cX12_must 4 = .ok (.ifCond .eq 14, 3) := by decide +kernel
theorem dX12_must_7 : decode cX12_must 7 = .ok (.iload_n 1, 1) := by decide +kernel
theorem dX12_must_8 : decode cX12_must 8 = .ok (.ifCond .ne 10, 3) := by decide +kernel
theorem dX12_must_11 : decode cX12_must 11 = .ok (.aload_n 0, 1) := by decide +kernel
theorem dX12_must_12 : decode cX12_must 12 = .ok (.iconst 0, 1) := by decide +kernel
theorem dX12_must_13 : decode cX12_must 13 = .ok (.iconst 1, 1) := by decide +kernel
theorem dX12_must_14 : decode cX12_must 14 = .ok (.invokevirtual 120, 3) := by decide +kernel
theorem dX12_must_17 : decode cX12_must 17 = .ok (.pop, 1) := by decide +kernel
theorem dX12_must_18 : decode cX12_must 18 = .ok (.return_, 1) := by decide +kernel
set_option maxRecDepth 20000 in
theorem ggX12_field_X12_advances : GoodIn wsX12_field wsX12_advances := goodIn_r _ [14, 2, 15, 5, 4, 16, 17, 18, 13, 19, 6, 20, 21, 22, 23, 56, 57, 58, 59, 60, 61, 62, 63, 64, 65, 66, 67, 68, 69, 70, 71, 72, 73, 74, 75, 76, 77, 78, 79, 80] (by decide +kernel) (by decide +kernel)
set_option maxRecDepth 20000 in
theorem gX12_field_X12_advances : GoodIn wsX12_field (wsV RX12 117 RX12 yX12_advances wsX12_advances) := goodIn_app (goodIn_of _ (by decide +kernel)) ggX12_field_X12_advances
set_option maxRecDepth 20000 in
theorem ggX12_field_X12_takes : GoodIn wsX12_field wsX12_takes := goodIn_r _ [27, 15, 3, 28, 5, 29, 30, 31, 13, 32, 10, 11, 12, 14, 2, 4, 16, 17, 18, 19, 6, 20, 21, 22, 23, 56, 57, 58, 59, 60, 61, 62, 63, 64, 65, 66, 67, 68, 69, 70, 71, 72, 73, 74, 75, 76, 77, 78, 79, 80] (by decide +kernel) (by decide +kernel)
set_option maxRecDepth 20000 in
theorem gX12_field_X12_takes : GoodIn wsX12_field (wsV RX12 120 RX12 yX12_takes wsX12_takes) := goodIn_app (goodIn_of _ (by decide +kernel)) ggX12_field_X12_takes
set_option maxRecDepth 20000 in
theorem ggX12_field_X12_figure : GoodIn wsX12_field wsX12_figure := goodIn_r _ [36, 4, 5, 29, 30, 31, 13, 32, 3, 24, 25, 26, 27, 15, 28, 10, 11, 12, 14, 2, 16, 17, 18, 19, 6, 20, 21, 22, 23, 56, 57, 58, 59, 60, 61, 62, 63, 64, 65, 66, 67, 68, 69, 70, 71, 72, 73, 74, 75, 76, 77, 78, 79, 80] (by decide +kernel) (by decide +kernel)
set_option maxRecDepth 20000 in
theorem gX12_field_X12_figure : GoodIn wsX12_field (wsV RX12 124 RX12 yX12_figure wsX12_figure) := goodIn_app (goodIn_of _ (by decide +kernel)) ggX12_field_X12_figure
set_option maxRecDepth 20000 in
theorem ggX12_field_X12_follows : GoodIn wsX12_field wsX12_follows := goodIn_r _ [40, 4, 24, 25, 26, 13, 27, 15, 3, 28, 5, 29, 30, 31, 32, 10, 11, 12, 14, 2, 16, 17, 18, 19, 6, 20, 21, 22, 23, 33, 34, 35, 36, 56, 57, 58, 59, 60, 61, 62, 63, 64, 65, 66, 67, 68, 69, 70, 71, 72, 73, 74, 75, 76, 77, 78, 79, 80] (by decide +kernel) (by decide +kernel)
set_option maxRecDepth 20000 in
theorem gX12_field_X12_follows : GoodIn wsX12_field (wsV RX12 130 RX12 yX12_follows wsX12_follows) := goodIn_app (goodIn_of _ (by decide +kernel)) ggX12_field_X12_follows
set_option maxRecDepth 20000 in
theorem ggX12_field_X12_kindOf : GoodIn wsX12_field wsX12_kindOf := goodIn_r _ [43] (by decide +kernel) (by decide +kernel)
set_option maxRecDepth 20000 in
theorem gX12_field_X12_kindOf : GoodIn wsX12_field (va_wsS RX12 127 yX12_kindOf wsX12_kindOf) := goodIn_app (goodIn_of _ (by decide +kernel)) ggX12_field_X12_kindOf
set_option maxRecDepth 20000 in
theorem ggX12_field_X12_must : GoodIn wsX12_field wsX12_must := goodIn_r _ [47, 29, 30, 31, 13, 32, 3, 24, 25, 26, 27, 15, 28, 5, 10, 11, 12, 14, 2, 4, 16, 17, 18, 19, 6, 20, 21, 22, 23, 56, 57, 58, 59, 60, 61, 62, 63, 64, 65, 66, 67, 68, 69, 70, 71, 72, 73, 74, 75, 76, 77, 78, 79, 80] (by decide +kernel) (by decide +kernel)
set_option maxRecDepth 20000 in
theorem gX12_field_X12_must : GoodIn wsX12_field (wsV RX12 133 RX12 yX12_must wsX12_must) := goodIn_app (goodIn_of _ (by decide +kernel)) ggX12_field_X12_must
set_option maxRecDepth 20000 in
theorem ggX12_field_X12_isWell : GoodIn wsX12_field wsX12_isWell := goodIn_r _ [32, 3, 56, 57, 58, 59, 60, 61, 62, 63, 64, 65, 66, 67, 68, 69, 70, 71, 72, 73, 74, 75, 76, 77, 78, 79, 80] (by decide +kernel) (by decide +kernel)
set_option maxRecDepth 20000 in
theorem gX12_field_X12_isWell : GoodIn wsX12_field (wsV RX12 110 RX12 yX12_isWell wsX12_isWell) := goodIn_app (goodIn_of _ (by decide +kernel)) ggX12_field_X12_isWell
set_option maxRecDepth 20000 in
theorem ggX12_field_X12_readsTurnip : GoodIn wsX12_field wsX12_readsTurnip := goodIn_r _ [51, 5, 1, 4, 52, 41, 42, 13, 43, 24, 25, 26, 27, 15, 3, 28, 29, 30, 31, 32, 10, 11, 12, 14, 2, 16, 17, 18, 19, 6, 20, 21, 22, 23, 33, 34, 35, 36, 37, 38, 39, 40, 56, 57, 58, 59, 60, 61, 62, 63, 64, 65, 66, 67, 68, 69, 70, 71, 72, 73, 74, 75, 76, 77, 78, 79, 80] (by decide +kernel) (by decide +kernel)
set_option maxRecDepth 20000 in
theorem gX12_field_X12_readsTurnip : GoodIn wsX12_field (wsV RX12 137 RX12 yX12_readsTurnip wsX12_readsTurnip) := goodIn_app (goodIn_of _ (by decide +kernel)) ggX12_field_X12_readsTurnip
set_option maxRecDepth 20000 in
theorem ggX12_field_X12_copies : GoodIn wsX12_field wsX12_copies := goodIn_r _ [55] (by decide +kernel) (by decide +kernel)
set_option maxRecDepth 20000 in
theorem gX12_field_X12_copies : GoodIn wsX12_field (va_wsS RX12 141 yX12_copies wsX12_copies) := goodIn_app (goodIn_of _ (by decide +kernel)) ggX12_field_X12_copies
theorem dX12_field_0 : decode cX12_field 0 = .ok (.iconst 0, 1) := by decide +kernel
theorem dX12_field_1 : decode cX12_field 1 = .ok (.istore_n 1, 1) := by decide +kernel
theorem dX12_field_2 : decode cX12_field 2 = .ok (.iload_n 1, 1) := by decide +kernel
theorem dX12_field_3 : decode cX12_field 3 = .ok (.bipush 46, 2) := by decide +kernel
theorem dX12_field_5 : decode cX12_field 5 = .ok (.if_icmp .ge 16, 3) := by decide +kernel
theorem dX12_field_8 : decode cX12_field 8 = .ok (.aload_n 0, 1) := by decide +kernel
theorem dX12_field_9 : decode cX12_field 9 = .ok (.getfield 28, 3) := by decide +kernel
theorem dX12_field_12 : decode cX12_field 12 = .ok (.iload_n 1, 1) := by decide +kernel
theorem dX12_field_13 : decode cX12_field 13 = .ok (.iconst 0, 1) := by decide +kernel
theorem dX12_field_14 : decode cX12_field 14 = .ok (.iastore, 1) := by decide +kernel
theorem dX12_field_15 : decode cX12_field 15 = .ok (.iinc 1 1, 3) := by decide +kernel
theorem dX12_field_18 : decode cX12_field 18 = .ok (.goto (-16), 3) := by decide +kernel
theorem dX12_field_21 : decode cX12_field 21 = .ok (.aload_n 0, 1) := by decide +kernel
theorem dX12_field_22 : decode cX12_field 22 = .ok (.iconst 0, 1) := by decide +kernel
theorem dX12_field_23 : decode cX12_field 23 = .ok (.putfield 92, 3) := by decide +kernel
theorem dX12_field_26 : decode cX12_field 26 = .ok (.aload_n 0, 1) := by decide +kernel
theorem dX12_field_27 : decode cX12_field 27 = .ok (.iconst (-1), 1) := by decide +kernel
theorem dX12_field_28 : decode cX12_field 28 = .ok (.putfield 107, 3) := by decide +kernel
theorem dX12_field_31 : decode cX12_field 31 = .ok (.aload_n 0, 1) := by decide +kernel
theorem dX12_field_32 : decode cX12_field 32 = .ok (.invokevirtual 117, 3) := by decide +kernel
theorem dX12_field_35 : decode cX12_field 35 = .ok (.aload_n 0, 1) := by decide +kernel
theorem dX12_field_36 : decode cX12_field 36 = .ok (.aload_n 0, 1) := by decide +kernel
theorem dX12_field_37 : decode cX12_field 37 = .ok (.getfield 104, 3) := by decide +kernel
theorem dX12_field_40 : decode cX12_field 40 = .ok (.iconst 1, 1) := by decide +kernel
theorem dX12_field_41 : decode cX12_field 41 = .ok (.if_icmp .ne 16, 3) := by decide +kernel
theorem dX12_field_44 : decode cX12_field 44 = .ok (.aload_n 0, 1) := by decide +kernel
theorem dX12_field_45 : decode cX12_field 45 = .ok (.getfield 101, 3) := by decide +kernel
theorem dX12_field_48 : decode cX12_field 48 = .ok (.bipush 103, 2) := by decide +kernel
theorem dX12_field_50 : decode cX12_field 50 = .ok (.if_icmp .ne 7, 3) := by decide +kernel
theorem dX12_field_53 : decode cX12_field 53 = .ok (.iconst 1, 1) := by decide +kernel
theorem dX12_field_54 : decode cX12_field 54 = .ok (.goto 4, 3) := by decide +kernel
theorem dX12_field_57 : decode cX12_field 57 = .ok (.iconst 0, 1) := by decide +kernel
theorem dX12_field_58 : decode cX12_field 58 = .ok (.iconst 1, 1) := by decide +kernel
theorem dX12_field_59 : decode cX12_field 59 = .ok (.invokevirtual 120, 3) := by decide +kernel
theorem dX12_field_62 : decode cX12_field 62 = .ok (.pop, 1) := by decide +kernel
theorem dX12_field_63 : decode cX12_field 63 = .ok (.aload_n 0, 1) := by decide +kernel
theorem dX12_field_64 : decode cX12_field 64 = .ok (.getfield 28, 3) := by decide +kernel
theorem dX12_field_67 : decode cX12_field 67 = .ok (.iconst 0, 1) := by decide +kernel
theorem dX12_field_68 : decode cX12_field 68 = .ok (.aload_n 0, 1) := by decide +kernel
theorem dX12_field_69 : decode cX12_field 69 = .ok (.iconst 1, 1) := by decide +kernel
theorem dX12_field_70 : decode cX12_field 70 = .ok (.bipush 9, 2) := by decide +kernel
theorem dX12_field_72 : decode cX12_field 72 = .ok (.invokevirtual 124, 3) := by decide +kernel
theorem dX12_field_75 : decode cX12_field 75 = .ok (.iastore, 1) := by decide +kernel
theorem dX12_field_76 : decode cX12_field 76 = .ok (.aload_n 0, 1) := by decide +kernel
theorem dX12_field_77 : decode cX12_field 77 = .ok (.getfield 28, 3) := by decide +kernel
theorem dX12_field_80 : decode cX12_field 80 = .ok (.iconst 1, 1) := by decide +kernel
theorem dX12_field_81 : decode cX12_field 81 = .ok (.aload_n 0, 1) := by decide +kernel
theorem dX12_field_82 : decode cX12_field 82 = .ok (.iconst 0, 1) := by decide +kernel
theorem dX12_field_83 : decode cX12_field 83 = .ok (.bipush 15, 2) := by decide +kernel
theorem dX12_field_85 : decode cX12_field 85 = .ok (.invokevirtual 130, 3) := by decide +kernel
theorem dX12_field_88 : decode cX12_field 88 = .ok (.iastore, 1) := by decide +kernel
theorem dX12_field_89 : decode cX12_field 89 = .ok (.aload_n 0, 1) := by decide +kernel
theorem dX12_field_90 : decode cX12_field 90 = .ok (.aload_n 0, 1) := by decide +kernel
theorem dX12_field_91 : decode cX12_field 91 = .ok (.getfield 104, 3) := by decide +kernel
theorem dX12_field_94 : decode cX12_field 94 = .ok (.iconst 4, 1) := by decide +kernel
theorem dX12_field_95 : decode cX12_field 95 = .ok (.if_icmp .ne 7, 3) := by decide +kernel
theorem dX12_field_98 : decode cX12_field 98 = .ok (.iconst 1, 1) := by decide +kernel
theorem dX12_field_99 : decode cX12_field 99 = .ok (.goto 4, 3) := by decide +kernel
theorem dX12_field_102 : decode cX12_field 102 = .ok (.iconst 0, 1) := by decide +kernel
theorem dX12_field_103 : decode cX12_field 103 = .ok (.iconst 1, 1) := by decide +kernel
theorem dX12_field_104 : decode cX12_field 104 = .ok (.invokevirtual 120, 3) := by decide +kernel
theorem dX12_field_107 : decode cX12_field 107 = .ok (.pop, 1) := by decide +kernel
theorem dX12_field_108 : decode cX12_field 108 = .ok (.aload_n 0, 1) := by decide +kernel
theorem dX12_field_109 : decode cX12_field 109 = .ok (.aload_n 0, 1) := by decide +kernel
theorem dX12_field_110 : decode cX12_field 110 = .ok (.getfield 104, 3) := by decide +kernel
theorem dX12_field_113 : decode cX12_field 113 = .ok (.iconst 1, 1) := by decide +kernel
theorem dX12_field_114 : decode cX12_field 114 = .ok (.if_icmp .ne 17, 3) := by decide +kernel
theorem dX12_field_117 : decode cX12_field 117 = .ok (.aload_n 0, 1) := by decide +kernel
theorem dX12_field_118 : decode cX12_field 118 = .ok (.getfield 101, 3) := by decide +kernel
theorem dX12_field_121 : decode cX12_field 121 = .ok (.invokestatic 127, 3) := by decide +kernel
theorem dX12_field_124 : decode cX12_field 124 = .ok (.ifCond .le 7, 3) := by decide +kernel
theorem dX12_field_127 : decode cX12_field 127 = .ok (.iconst 1, 1) := by decide +kernel
theorem dX12_field_128 : decode cX12_field 128 = .ok (.goto 4, 3) := by decide +kernel
theorem dX12_field_131 : decode cX12_field 131 = .ok (.iconst 0, 1) := by decide +kernel
theorem dX12_field_132 : decode cX12_field 132 = .ok (.invokevirtual 133, 3) := by decide +kernel
theorem dX12_field_135 : decode cX12_field 135 = .ok (.aload_n 0, 1) := by decide +kernel
theorem dX12_field_136 : decode cX12_field 136 = .ok (.invokevirtual 110, 3) := by decide +kernel
theorem dX12_field_139 : decode cX12_field 139 = .ok (.ifCond .eq 28, 3) := by decide +kernel
theorem dX12_field_142 : decode cX12_field 142 = .ok (.aload_n 0, 1) := by decide +kernel
theorem dX12_field_143 : decode cX12_field 143 = .ok (.getfield 104, 3) := by decide +kernel
theorem dX12_field_146 : decode cX12_field 146 = .ok (.iconst 1, 1) := by decide +kernel
theorem dX12_field_147 : decode cX12_field 147 = .ok (.if_icmp .ne 20, 3) := by decide +kernel
theorem dX12_field_150 : decode cX12_field 150 = .ok (.aload_n 0, 1) := by decide +kernel
theorem dX12_field_151 : decode cX12_field 151 = .ok (.getfield 101, 3) := by decide +kernel
theorem dX12_field_154 : decode cX12_field 154 = .ok (.invokestatic 127, 3) := by decide +kernel
theorem dX12_field_157 : decode cX12_field 157 = .ok (.ifCond .le 10, 3) := by decide +kernel
theorem dX12_field_160 : decode cX12_field 160 = .ok (.aload_n 0, 1) := by decide +kernel
theorem dX12_field_161 : decode cX12_field 161 = .ok (.invokevirtual 137, 3) := by decide +kernel
theorem dX12_field_164 : decode cX12_field 164 = .ok (.goto (-29), 3) := by decide +kernel
theorem dX12_field_167 : decode cX12_field 167 = .ok (.aload_n 0, 1) := by decide +kernel
theorem dX12_field_168 : decode cX12_field 168 = .ok (.aload_n 0, 1) := by decide +kernel
theorem dX12_field_169 : decode cX12_field 169 = .ok (.getfield 104, 3) := by decide +kernel
theorem dX12_field_172 : decode cX12_field 172 = .ok (.ifCond .ne 7, 3) := by decide +kernel
theorem dX12_field_175 : decode cX12_field 175 = .ok (.iconst 1, 1) := by decide +kernel
theorem dX12_field_176 : decode cX12_field 176 = .ok (.goto 4, 3) := by decide +kernel
theorem dX12_field_179 : decode cX12_field 179 = .ok (.iconst 0, 1) := by decide +kernel
theorem dX12_field_180 : decode cX12_field 180 = .ok (.invokevirtual 133, 3) := by decide +kernel
theorem dX12_field_183 : decode cX12_field 183 = .ok (.aload_n 0, 1) := by decide +kernel
theorem dX12_field_184 : decode cX12_field 184 = .ok (.iconst 0, 1) := by decide +kernel
theorem dX12_field_185 : decode cX12_field 185 = .ok (.putfield 88, 3) := by decide +kernel
theorem dX12_field_188 : decode cX12_field 188 = .ok (.aload_n 0, 1) := by decide +kernel
theorem dX12_field_189 : decode cX12_field 189 = .ok (.invokevirtual 110, 3) := by decide +kernel
theorem dX12_field_192 : decode cX12_field 192 = .ok (.ifCond .ne 11, 3) := by decide +kernel
theorem dX12_field_195 : decode cX12_field 195 = .ok (.ldc 140, 2) := by decide +kernel
theorem dX12_field_197 : decode cX12_field 197 = .ok (.aload_n 0, 1) := by decide +kernel
theorem dX12_field_198 : decode cX12_field 198 = .ok (.getfield 107, 3) := by decide +kernel
theorem dX12_field_201 : decode cX12_field 201 = .ok (.isub, 1) := by decide +kernel
theorem dX12_field_202 : decode cX12_field 202 = .ok (.ireturn, 1) := by decide +kernel
theorem dX12_field_203 : decode cX12_field 203 = .ok (.aload_n 0, 1) := by decide +kernel
theorem dX12_field_204 : decode cX12_field 204 = .ok (.getfield 28, 3) := by decide +kernel
theorem dX12_field_207 : decode cX12_field 207 = .ok (.iconst 0, 1) := by decide +kernel
theorem dX12_field_208 : decode cX12_field 208 = .ok (.aload_n 0, 1) := by decide +kernel
theorem dX12_field_209 : decode cX12_field 209 = .ok (.getfield 25, 3) := by decide +kernel
theorem dX12_field_212 : decode cX12_field 212 = .ok (.iconst 0, 1) := by decide +kernel
theorem dX12_field_213 : decode cX12_field 213 = .ok (.invokestatic 141, 3) := by decide +kernel
theorem dX12_field_216 : decode cX12_field 216 = .ok (.aload_n 0, 1) := by decide +kernel
theorem dX12_field_217 : decode cX12_field 217 = .ok (.iconst 0, 1) := by decide +kernel
theorem dX12_field_218 : decode cX12_field 218 = .ok (.putfield 145, 3) := by decide +kernel
theorem dX12_field_221 : decode cX12_field 221 = .ok (.aload_n 0, 1) := by decide +kernel
theorem dX12_field_222 : decode cX12_field 222 = .ok (.getfield 25, 3) := by decide +kernel
theorem dX12_field_225 : decode cX12_field 225 = .ok (.iconst 2, 1) := by decide +kernel
theorem dX12_field_226 : decode cX12_field 226 = .ok (.iaload, 1) := by decide +kernel
theorem dX12_field_227 : decode cX12_field 227 = .ok (.ireturn, 1) := by decide +kernel
theorem dX12_fault_0 : decode cX12_fault 0 = .ok (.aload_n 0, 1) := by decide +kernel
theorem dX12_fault_1 : decode cX12_fault 1 = .ok (.getfield 114, 3) := by decide +kernel
theorem dX12_fault_4 : decode cX12_fault 4 = .ok (.ireturn, 1) := by decide +kernel
theorem dX12_isField_0 : decode cX12_isField 0 = .ok (.aload_n 0, 1) := by decide +kernel
theorem dX12_isField_1 : decode cX12_isField 1 = .ok (.getfield 25, 3) := by decide +kernel
theorem dX12_isField_4 : decode cX12_isField 4 = .ok (.iconst 0, 1) := by decide +kernel
theorem dX12_isField_5 : decode cX12_isField 5 = .ok (.iaload, 1) := by decide +kernel
theorem dX12_isField_6 : decode cX12_isField 6 = .ok (.ifCond .le 7, 3) := by decide +kernel
theorem dX12_isField_9 : decode cX12_isField 9 = .ok (.iconst 1, 1) := by decide +kernel
theorem dX12_isField_10 : decode cX12_isField 10 = .ok (.goto 4, 3) := by decide +kernel
theorem dX12_isField_13 : decode cX12_isField 13 = .ok (.iconst 0, 1) := by decide +kernel
theorem dX12_isField_14 : decode cX12_isField 14 = .ok (.ireturn, 1) := by decide +kernel
set_option maxRecDepth 20000 in
theorem ggX12_isTurnip_X12_in : GoodIn wsX12_isTurnip wsX12_in := goodIn_r _ [5] (by decide +kernel) (by decide +kernel)
set_option maxRecDepth 20000 in
theorem gX12_isTurnip_X12_in : GoodIn wsX12_isTurnip (va_wsS RX12 62 yX12_in wsX12_in) := goodIn_app (goodIn_of _ (by decide +kernel)) ggX12_isTurnip_X12_in
theorem dX12_isTurnip_0 : decode cX12_isTurnip 0 = .ok (.iload_n 1, 1) := by decide +kernel
theorem dX12_isTurnip_1 : decode cX12_isTurnip 1 = .ok (.iconst 0, 1) := by decide +kernel
theorem dX12_isTurnip_2 : decode cX12_isTurnip 2 = .ok (.aload_n 0, 1) := by decide +kernel
theorem dX12_isTurnip_3 : decode cX12_isTurnip 3 = .ok (.getfield 25, 3) := by decide +kernel
theorem dX12_isTurnip_6 : decode cX12_isTurnip 6 = .ok (.iconst 2, 1) := by decide +kernel
theorem dX12_isTurnip_7 : decode cX12_isTurnip 7 = .ok (.iaload, 1) := by decide +kernel
theorem dX12_isTurnip_8 : decode cX12_isTurnip 8 = .ok (.iconst 1, 1) := by decide +kernel
theorem dX12_isTurnip_9 : decode cX12_isTurnip 9 = .ok (.isub, 1) := by decide +kernel
theorem dX12_isTurnip_10 : decode cX12_isTurnip 10 = .ok (.invokestatic 62, 3) := by decide +kernel
theorem dX12_isTurnip_13 : decode cX12_isTurnip 13 = .ok (.ireturn, 1) := by decide +kernel
theorem dX12_inPlace_0 : decode cX12_inPlace 0 = .ok (.iconst 0, 1) := by decide +kernel
theorem dX12_inPlace_1 : decode cX12_inPlace 1 = .ok (.istore_n 2, 1) := by decide +kernel
theorem dX12_inPlace_2 : decode cX12_inPlace 2 = .ok (.iload_n 2, 1) := by decide +kernel
theorem dX12_inPlace_3 : decode cX12_inPlace 3 = .ok (.aload_n 0, 1) := by decide +kernel
theorem dX12_inPlace_4 : decode cX12_inPlace 4 = .ok (.iconst 2, 1) := by decide +kernel
theorem dX12_inPlace_5 : decode cX12_inPlace 5 = .ok (.iaload, 1) := by decide +kernel
theorem dX12_inPlace_6 : decode cX12_inPlace 6 = .ok (.if_icmp .ge 25, 3) := by decide +kernel
theorem dX12_inPlace_9 : decode cX12_inPlace 9 = .ok (.aload_n 0, 1) := by decide +kernel
theorem dX12_inPlace_10 : decode cX12_inPlace 10 = .ok (.iconst 4, 1) := by decide +kernel
theorem dX12_inPlace_11 : decode cX12_inPlace 11 = .ok (.bipush 6, 2) := by decide +kernel
theorem dX12_inPlace_13 : decode cX12_inPlace 13 = .ok (.iload_n 2, 1) := by decide +kernel
theorem dX12_inPlace_14 : decode cX12_inPlace 14 = .ok (.imul, 1) := by decide +kernel
theorem dX12_inPlace_15 : decode cX12_inPlace 15 = .ok (.iadd, 1) := by decide +kernel
theorem dX12_inPlace_16 : decode cX12_inPlace 16 = .ok (.iconst 3, 1) := by decide +kernel
theorem dX12_inPlace_17 : decode cX12_inPlace 17 = .ok (.iadd, 1) := by decide +kernel
theorem dX12_inPlace_18 : decode cX12_inPlace 18 = .ok (.iaload, 1) := by decide +kernel
theorem dX12_inPlace_19 : decode cX12_inPlace 19 = .ok (.iload_n 1, 1) := by decide +kernel
theorem dX12_inPlace_20 : decode cX12_inPlace 20 = .ok (.if_icmp .ne 5, 3) := by decide +kernel
theorem dX12_inPlace_23 : decode cX12_inPlace 23 = .ok (.iload_n 2, 1) := by decide +kernel
theorem dX12_inPlace_24 : decode cX12_inPlace 24 = .ok (.ireturn, 1) := by decide +kernel
theorem dX12_inPlace_25 : decode cX12_inPlace 25 = .ok (.iinc 2 1, 3) := by decide +kernel
theorem dX12_inPlace_28 : decode cX12_inPlace 28 = .ok (.goto (-26), 3) := by decide +kernel
theorem dX12_inPlace_31 : decode cX12_inPlace 31 = .ok (.ldc 56, 2) := by decide +kernel
theorem dX12_inPlace_33 : decode cX12_inPlace 33 = .ok (.ireturn, 1) := by decide +kernel
set_option maxRecDepth 20000 in
theorem ggX12_isHigher_X12_inPlace : GoodIn wsX12_isHigher wsX12_inPlace := goodIn_r _ [5, 1] (by decide +kernel) (by decide +kernel)
set_option maxRecDepth 20000 in
theorem gX12_isHigher_X12_inPlace : GoodIn wsX12_isHigher (va_wsS RX12 148 yX12_inPlace wsX12_inPlace) := goodIn_app (goodIn_of _ (by decide +kernel)) ggX12_isHigher_X12_inPlace
theorem dX12_isHigher_0 : decode cX12_isHigher 0 = .ok (.aload_n 0, 1) := by decide +kernel
theorem dX12_isHigher_1 : decode cX12_isHigher 1 = .ok (.iload_n 2, 1) := by decide +kernel
theorem dX12_isHigher_2 : decode cX12_isHigher 2 = .ok (.invokestatic 148, 3) := by decide +kernel
theorem dX12_isHigher_5 : decode cX12_isHigher 5 = .ok (.istore_n 3, 1) := by decide +kernel
theorem dX12_isHigher_6 : decode cX12_isHigher 6 = .ok (.iload_n 3, 1) := by decide +kernel
theorem dX12_isHigher_7 : decode cX12_isHigher 7 = .ok (.ldc 56, 2) := by decide +kernel
theorem dX12_isHigher_9 : decode cX12_isHigher 9 = .ok (.if_icmp .eq 30, 3) := by decide +kernel
theorem dX12_isHigher_12 : decode cX12_isHigher 12 = .ok (.aload_n 0, 1) := by decide +kernel
theorem dX12_isHigher_13 : decode cX12_isHigher 13 = .ok (.iconst 4, 1) := by decide +kernel
theorem dX12_isHigher_14 : decode cX12_isHigher 14 = .ok (.bipush 6, 2) := by decide +kernel
theorem dX12_isHigher_16 : decode cX12_isHigher 16 = .ok (.iload_n 3, 1) := by decide +kernel
theorem dX12_isHigher_17 : decode cX12_isHigher 17 = .ok (.imul, 1) := by decide +kernel
theorem dX12_isHigher_18 : decode cX12_isHigher 18 = .ok (.iadd, 1) := by decide +kernel
theorem dX12_isHigher_19 : decode cX12_isHigher 19 = .ok (.iconst 1, 1) := by decide +kernel
theorem dX12_isHigher_20 : decode cX12_isHigher 20 = .ok (.iadd, 1) := by decide +kernel
theorem dX12_isHigher_21 : decode cX12_isHigher 21 = .ok (.iaload, 1) := by decide +kernel
theorem dX12_isHigher_22 : decode cX12_isHigher 22 = .ok (.aload_n 0, 1) := by decide +kernel
theorem dX12_isHigher_23 : decode cX12_isHigher 23 = .ok (.iconst 4, 1) := by decide +kernel
theorem dX12_isHigher_24 : decode cX12_isHigher 24 = .ok (.bipush 6, 2) := by decide +kernel
theorem dX12_isHigher_26 : decode cX12_isHigher 26 = .ok (.iload_n 1, 1) := by decide +kernel
theorem dX12_isHigher_27 : decode cX12_isHigher 27 = .ok (.imul, 1) := by decide +kernel
theorem dX12_isHigher_28 : decode cX12_isHigher 28 = .ok (.iadd, 1) := by decide +kernel
theorem dX12_isHigher_29 : decode cX12_isHigher 29 = .ok (.iconst 1, 1) := by decide +kernel
theorem dX12_isHigher_30 : decode cX12_isHigher 30 = .ok (.iadd, 1) := by decide +kernel
theorem dX12_isHigher_31 : decode cX12_isHigher 31 = .ok (.iaload, 1) := by decide +kernel
theorem dX12_isHigher_32 : decode cX12_isHigher 32 = .ok (.if_icmp .le 7, 3) := by decide +kernel
theorem dX12_isHigher_35 : decode cX12_isHigher 35 = .ok (.iconst 1, 1) := by decide +kernel
theorem dX12_isHigher_36 : decode cX12_isHigher 36 = .ok (.goto 4, 3) := by decide +kernel
theorem dX12_isHigher_39 : decode cX12_isHigher 39 = .ok (.iconst 0, 1) := by decide +kernel
theorem dX12_isHigher_40 : decode cX12_isHigher 40 = .ok (.ireturn, 1) := by decide +kernel
set_option maxRecDepth 20000 in
theorem ggX12_higherBeside_X12_isHigher : GoodIn wsX12_higherBeside wsX12_isHigher := goodIn_r _ [4, 5, 6, 7, 3, 8] (by decide +kernel) (by decide +kernel)
set_option maxRecDepth 20000 in
theorem gX12_higherBeside_X12_isHigher : GoodIn wsX12_higherBeside (va_wsS RX12 152 yX12_isHigher wsX12_isHigher) := goodIn_app (goodIn_of _ (by decide +kernel)) ggX12_higherBeside_X12_isHigher
theorem dX12_higherBeside_0 : decode cX12_higherBeside 0 = .ok (.aload_n 0, 1) := by decide +kernel
theorem dX12_higherBeside_1 : decode cX12_higherBeside 1 = .ok (.iconst 4, 1) := by decide +kernel
theorem dX12_higherBeside_2 : decode cX12_higherBeside 2 = .ok (.bipush 6, 2) := by decide +kernel
theorem dX12_higherBeside_4 : decode cX12_higherBeside 4 = .ok (.iload_n 1, 1) := by decide +kernel
theorem dX12_higherBeside_5 : decode cX12_higherBeside 5 = .ok (.imul, 1) := by decide +kernel
theorem dX12_higherBeside_6 : decode cX12_higherBeside 6 = .ok (.iadd, 1) := by decide +kernel
theorem dX12_higherBeside_7 : decode cX12_higherBeside 7 = .ok (.iconst 3, 1) := by decide +kernel
theorem dX12_higherBeside_8 : decode cX12_higherBeside 8 = .ok (.iadd, 1) := by decide +kernel
theorem dX12_higherBeside_9 : decode cX12_higherBeside 9 = .ok (.iaload, 1) := by decide +kernel
theorem dX12_higherBeside_10 : decode cX12_higherBeside 10 = .ok (.istore_n 2, 1) := by decide +kernel
theorem dX12_higherBeside_11 : decode cX12_higherBeside 11 = .ok (.aload_n 0, 1) := by decide +kernel
theorem dX12_higherBeside_12 : decode cX12_higherBeside 12 = .ok (.iload_n 1, 1) := by decide +kernel
theorem dX12_higherBeside_13 : decode cX12_higherBeside 13 = .ok (.iload_n 2, 1) := by decide +kernel
theorem dX12_higherBeside_14 : decode cX12_higherBeside 14 = .ok (.iconst 1, 1) := by decide +kernel
theorem dX12_higherBeside_15 : decode cX12_higherBeside 15 = .ok (.isub, 1) := by decide +kernel
theorem dX12_higherBeside_16 : decode cX12_higherBeside 16 = .ok (.invokestatic 152, 3) := by decide +kernel
theorem dX12_higherBeside_19 : decode cX12_higherBeside 19 = .ok (.ifCond .eq 7, 3) := by decide +kernel
theorem dX12_higherBeside_22 : decode cX12_higherBeside 22 = .ok (.iconst 1, 1) := by decide +kernel
theorem dX12_higherBeside_23 : decode cX12_higherBeside 23 = .ok (.goto 4, 3) := by decide +kernel
theorem dX12_higherBeside_26 : decode cX12_higherBeside 26 = .ok (.iconst 0, 1) := by decide +kernel
theorem dX12_higherBeside_27 : decode cX12_higherBeside 27 = .ok (.aload_n 0, 1) := by decide +kernel
theorem dX12_higherBeside_28 : decode cX12_higherBeside 28 = .ok (.iload_n 1, 1) := by decide +kernel
theorem dX12_higherBeside_29 : decode cX12_higherBeside 29 = .ok (.iload_n 2, 1) := by decide +kernel
theorem dX12_higherBeside_30 : decode cX12_higherBeside 30 = .ok (.iconst 1, 1) := by decide +kernel
theorem dX12_higherBeside_31 : decode cX12_higherBeside 31 = .ok (.iadd, 1) := by decide +kernel
theorem dX12_higherBeside_32 : decode cX12_higherBeside 32 = .ok (.invokestatic 152, 3) := by decide +kernel
theorem dX12_higherBeside_35 : decode cX12_higherBeside 35 = .ok (.ifCond .eq 7, 3) := by decide +kernel
theorem dX12_higherBeside_38 : decode cX12_higherBeside 38 = .ok (.iconst 1, 1) := by decide +kernel
theorem dX12_higherBeside_39 : decode cX12_higherBeside 39 = .ok (.goto 4, 3) := by decide +kernel
theorem dX12_higherBeside_42 : decode cX12_higherBeside 42 = .ok (.iconst 0, 1) := by decide +kernel
theorem dX12_higherBeside_43 : decode cX12_higherBeside 43 = .ok (.iadd, 1) := by decide +kernel
theorem dX12_higherBeside_44 : decode cX12_higherBeside 44 = .ok (.ireturn, 1) := by decide +kernel
set_option maxRecDepth 20000 in
theorem ggX12_gainOf_X12_has : GoodIn wsX12_gainOf wsX12_has := goodIn_r _ [4] (by decide +kernel) (by decide +kernel)
set_option maxRecDepth 20000 in
theorem gX12_gainOf_X12_has : GoodIn wsX12_gainOf (va_wsS RX12 156 yX12_has wsX12_has) := goodIn_app (goodIn_of _ (by decide +kernel)) ggX12_gainOf_X12_has
set_option maxRecDepth 20000 in
theorem ggX12_gainOf_X12_higherBeside : GoodIn wsX12_gainOf wsX12_higherBeside := goodIn_r _ [7, 8, 9, 3, 10, 11, 12, 13, 14] (by decide +kernel) (by decide +kernel)
set_option maxRecDepth 20000 in
theorem gX12_gainOf_X12_higherBeside : GoodIn wsX12_gainOf (va_wsS RX12 160 yX12_higherBeside wsX12_higherBeside) := goodIn_app (goodIn_of _ (by decide +kernel)) ggX12_gainOf_X12_higherBeside
theorem dX12_gainOf_0 : decode cX12_gainOf 0 = .ok (.iconst 4, 1) := by decide +kernel
theorem dX12_gainOf_1 : decode cX12_gainOf 1 = .ok (.bipush 6, 2) := by decide +kernel
theorem dX12_gainOf_3 : decode cX12_gainOf 3 = .ok (.iload_n 1, 1) := by decide +kernel
theorem dX12_gainOf_4 : decode cX12_gainOf 4 = .ok (.imul, 1) := by decide +kernel
theorem dX12_gainOf_5 : decode cX12_gainOf 5 = .ok (.iadd, 1) := by decide +kernel
theorem dX12_gainOf_6 : decode cX12_gainOf 6 = .ok (.istore_n 2, 1) := by decide +kernel
theorem dX12_gainOf_7 : decode cX12_gainOf 7 = .ok (.aload_n 0, 1) := by decide +kernel
theorem dX12_gainOf_8 : decode cX12_gainOf 8 = .ok (.iconst 0, 1) := by decide +kernel
theorem dX12_gainOf_9 : decode cX12_gainOf 9 = .ok (.iaload, 1) := by decide +kernel
theorem dX12_gainOf_10 : decode cX12_gainOf 10 = .ok (.istore_n 3, 1) := by decide +kernel
theorem dX12_gainOf_11 : decode cX12_gainOf 11 = .ok (.aload_n 0, 1) := by decide +kernel
theorem dX12_gainOf_12 : decode cX12_gainOf 12 = .ok (.iload_n 2, 1) := by decide +kernel
theorem dX12_gainOf_13 : decode cX12_gainOf 13 = .ok (.iaload, 1) := by decide +kernel
theorem dX12_gainOf_14 : decode cX12_gainOf 14 = .ok (.tableswitch 79 1 4 #[30, 32, 54, 62], 30) := by decide +kernel
theorem dX12_gainOf_44 : decode cX12_gainOf 44 = .ok (.iload_n 3, 1) := by decide +kernel
theorem dX12_gainOf_45 : decode cX12_gainOf 45 = .ok (.ireturn, 1) := by decide +kernel
theorem dX12_gainOf_46 : decode cX12_gainOf 46 = .ok (.aload_n 0, 1) := by decide +kernel
theorem dX12_gainOf_47 : decode cX12_gainOf 47 = .ok (.iconst 1, 1) := by decide +kernel
theorem dX12_gainOf_48 : decode cX12_gainOf 48 = .ok (.iaload, 1) := by decide +kernel
theorem dX12_gainOf_49 : decode cX12_gainOf 49 = .ok (.aload_n 0, 1) := by decide +kernel
theorem dX12_gainOf_50 : decode cX12_gainOf 50 = .ok (.iconst 3, 1) := by decide +kernel
theorem dX12_gainOf_51 : decode cX12_gainOf 51 = .ok (.iaload, 1) := by decide +kernel
theorem dX12_gainOf_52 : decode cX12_gainOf 52 = .ok (.iconst 4, 1) := by decide +kernel
theorem dX12_gainOf_53 : decode cX12_gainOf 53 = .ok (.irem, 1) := by decide +kernel
theorem dX12_gainOf_54 : decode cX12_gainOf 54 = .ok (.invokestatic 156, 3) := by decide +kernel
theorem dX12_gainOf_57 : decode cX12_gainOf 57 = .ok (.ifCond .eq 7, 3) := by decide +kernel
theorem dX12_gainOf_60 : decode cX12_gainOf 60 = .ok (.iload_n 3, 1) := by decide +kernel
theorem dX12_gainOf_61 : decode cX12_gainOf 61 = .ok (.goto 6, 3) := by decide +kernel
theorem dX12_gainOf_64 : decode cX12_gainOf 64 = .ok (.iload_n 3, 1) := by decide +kernel
theorem dX12_gainOf_65 : decode cX12_gainOf 65 = .ok (.iconst 2, 1) := by decide +kernel
theorem dX12_gainOf_66 : decode cX12_gainOf 66 = .ok (.idiv, 1) := by decide +kernel
theorem dX12_gainOf_67 : decode cX12_gainOf 67 = .ok (.ireturn, 1) := by decide +kernel
theorem dX12_gainOf_68 : decode cX12_gainOf 68 = .ok (.iload_n 3, 1) := by decide +kernel
theorem dX12_gainOf_69 : decode cX12_gainOf 69 = .ok (.aload_n 0, 1) := by decide +kernel
theorem dX12_gainOf_70 : decode cX12_gainOf 70 = .ok (.iload_n 1, 1) := by decide +kernel
theorem dX12_gainOf_71 : decode cX12_gainOf 71 = .ok (.invokestatic 160, 3) := by decide +kernel
theorem dX12_gainOf_74 : decode cX12_gainOf 74 = .ok (.iadd, 1) := by decide +kernel
theorem dX12_gainOf_75 : decode cX12_gainOf 75 = .ok (.ireturn, 1) := by decide +kernel
theorem dX12_gainOf_76 : decode cX12_gainOf 76 = .ok (.aload_n 0, 1) := by decide +kernel
theorem dX12_gainOf_77 : decode cX12_gainOf 77 = .ok (.iload_n 2, 1) := by decide +kernel
theorem dX12_gainOf_78 : decode cX12_gainOf 78 = .ok (.iconst 1, 1) := by decide +kernel
theorem dX12_gainOf_79 : decode cX12_gainOf 79 = .ok (.iadd, 1) := by decide +kernel
theorem dX12_gainOf_80 : decode cX12_gainOf 80 = .ok (.iaload, 1) := by decide +kernel
theorem dX12_gainOf_81 : decode cX12_gainOf 81 = .ok (.iconst 3, 1) := by decide +kernel
theorem dX12_gainOf_82 : decode cX12_gainOf 82 = .ok (.if_icmp .ge 9, 3) := by decide +kernel
theorem dX12_gainOf_85 : decode cX12_gainOf 85 = .ok (.iconst 2, 1) := by decide +kernel
theorem dX12_gainOf_86 : decode cX12_gainOf 86 = .ok (.iload_n 3, 1) := by decide +kernel
theorem dX12_gainOf_87 : decode cX12_gainOf 87 = .ok (.imul, 1) := by decide +kernel
theorem dX12_gainOf_88 : decode cX12_gainOf 88 = .ok (.goto 4, 3) := by decide +kernel
theorem dX12_gainOf_91 : decode cX12_gainOf 91 = .ok (.iconst 0, 1) := by decide +kernel
theorem dX12_gainOf_92 : decode cX12_gainOf 92 = .ok (.ireturn, 1) := by decide +kernel
theorem dX12_gainOf_93 : decode cX12_gainOf 93 = .ok (.aload_n 0, 1) := by decide +kernel
theorem dX12_gainOf_94 : decode cX12_gainOf 94 = .ok (.iload_n 2, 1) := by decide +kernel
theorem dX12_gainOf_95 : decode cX12_gainOf 95 = .ok (.iconst 1, 1) := by decide +kernel
theorem dX12_gainOf_96 : decode cX12_gainOf 96 = .ok (.iadd, 1) := by decide +kernel
theorem dX12_gainOf_97 : decode cX12_gainOf 97 = .ok (.iaload, 1) := by decide +kernel
theorem dX12_gainOf_98 : decode cX12_gainOf 98 = .ok (.iconst 3, 1) := by decide +kernel
theorem dX12_gainOf_99 : decode cX12_gainOf 99 = .ok (.if_icmp .lt 11, 3) := by decide +kernel
theorem dX12_gainOf_102 : decode cX12_gainOf 102 = .ok (.aload_n 0, 1) := by decide +kernel
theorem dX12_gainOf_103 : decode cX12_gainOf 103 = .ok (.iload_n 1, 1) := by decide +kernel
theorem dX12_gainOf_104 : decode cX12_gainOf 104 = .ok (.invokestatic 160, 3) := by decide +kernel
theorem dX12_gainOf_107 : decode cX12_gainOf 107 = .ok (.ifCond .le 9, 3) := by decide +kernel
theorem dX12_gainOf_110 : decode cX12_gainOf 110 = .ok (.iconst 2, 1) := by decide +kernel
theorem dX12_gainOf_111 : decode cX12_gainOf 111 = .ok (.iload_n 3, 1) := by decide +kernel
theorem dX12_gainOf_112 : decode cX12_gainOf 112 = .ok (.imul, 1) := by decide +kernel
theorem dX12_gainOf_113 : decode cX12_gainOf 113 = .ok (.goto 4, 3) := by decide +kernel
theorem dX12_gainOf_116 : decode cX12_gainOf 116 = .ok (.iconst 0, 1) := by decide +kernel
theorem dX12_gainOf_117 : decode cX12_gainOf 117 = .ok (.ireturn, 1) := by decide +kernel
set_option maxRecDepth 20000 in
theorem ggX12_gain_X12_gainOf : GoodIn wsX12_gain wsX12_gainOf := goodIn_r _ [5, 6, 7, 4, 8, 9, 10, 11, 12, 13, 14, 1, 15, 16, 17] (by decide +kernel) (by decide +kernel)
set_option maxRecDepth 20000 in
theorem gX12_gain_X12_gainOf : GoodIn wsX12_gain (va_wsS RX12 163 yX12_gainOf wsX12_gainOf) := goodIn_app (goodIn_of _ (by decide +kernel)) ggX12_gain_X12_gainOf
set_option maxRecDepth 20000 in
theorem ggX12_gain_X12_isHigher : GoodIn wsX12_gain wsX12_isHigher := goodIn_r _ [14, 1, 15, 16, 4, 17] (by decide +kernel) (by decide +kernel)
set_option maxRecDepth 20000 in
theorem gX12_gain_X12_isHigher : GoodIn wsX12_gain (va_wsS RX12 152 yX12_isHigher wsX12_isHigher) := goodIn_app (goodIn_of _ (by decide +kernel)) ggX12_gain_X12_isHigher
theorem dX12_gain_0 : decode cX12_gain 0 = .ok (.iconst 4, 1) := by decide +kernel
theorem dX12_gain_1 : decode cX12_gain 1 = .ok (.bipush 6, 2) := by decide +kernel
theorem dX12_gain_3 : decode cX12_gain 3 = .ok (.iload_n 1, 1) := by decide +kernel
theorem dX12_gain_4 : decode cX12_gain 4 = .ok (.imul, 1) := by decide +kernel
theorem dX12_gain_5 : decode cX12_gain 5 = .ok (.iadd, 1) := by decide +kernel
theorem dX12_gain_6 : decode cX12_gain 6 = .ok (.istore_n 2, 1) := by decide +kernel
theorem dX12_gain_7 : decode cX12_gain 7 = .ok (.aload_n 0, 1) := by decide +kernel
theorem dX12_gain_8 : decode cX12_gain 8 = .ok (.iload_n 1, 1) := by decide +kernel
theorem dX12_gain_9 : decode cX12_gain 9 = .ok (.invokestatic 163, 3) := by decide +kernel
theorem dX12_gain_12 : decode cX12_gain 12 = .ok (.istore_n 3, 1) := by decide +kernel
theorem dX12_gain_13 : decode cX12_gain 13 = .ok (.aload_n 0, 1) := by decide +kernel
theorem dX12_gain_14 : decode cX12_gain 14 = .ok (.iload_n 2, 1) := by decide +kernel
theorem dX12_gain_15 : decode cX12_gain 15 = .ok (.iconst 5, 1) := by decide +kernel
theorem dX12_gain_16 : decode cX12_gain 16 = .ok (.iadd, 1) := by decide +kernel
theorem dX12_gain_17 : decode cX12_gain 17 = .ok (.iaload, 1) := by decide +kernel
theorem dX12_gain_18 : decode cX12_gain 18 = .ok (.ldc 56, 2) := by decide +kernel
theorem dX12_gain_20 : decode cX12_gain 20 = .ok (.if_icmp .eq 17, 3) := by decide +kernel
theorem dX12_gain_23 : decode cX12_gain 23 = .ok (.iload_n 3, 1) := by decide +kernel
theorem dX12_gain_24 : decode cX12_gain 24 = .ok (.aload_n 0, 1) := by decide +kernel
theorem dX12_gain_25 : decode cX12_gain 25 = .ok (.aload_n 0, 1) := by decide +kernel
theorem dX12_gain_26 : decode cX12_gain 26 = .ok (.iload_n 2, 1) := by decide +kernel
theorem dX12_gain_27 : decode cX12_gain 27 = .ok (.iconst 5, 1) := by decide +kernel
theorem dX12_gain_28 : decode cX12_gain 28 = .ok (.iadd, 1) := by decide +kernel
theorem dX12_gain_29 : decode cX12_gain 29 = .ok (.iaload, 1) := by decide +kernel
theorem dX12_gain_30 : decode cX12_gain 30 = .ok (.invokestatic 163, 3) := by decide +kernel
theorem dX12_gain_33 : decode cX12_gain 33 = .ok (.iadd, 1) := by decide +kernel
theorem dX12_gain_34 : decode cX12_gain 34 = .ok (.iconst 2, 1) := by decide +kernel
theorem dX12_gain_35 : decode cX12_gain 35 = .ok (.idiv, 1) := by decide +kernel
theorem dX12_gain_36 : decode cX12_gain 36 = .ok (.istore_n 3, 1) := by decide +kernel
theorem dX12_gain_37 : decode cX12_gain 37 = .ok (.iload_n 3, 1) := by decide +kernel
theorem dX12_gain_38 : decode cX12_gain 38 = .ok (.aload_n 0, 1) := by decide +kernel
theorem dX12_gain_39 : decode cX12_gain 39 = .ok (.iload_n 1, 1) := by decide +kernel
theorem dX12_gain_40 : decode cX12_gain 40 = .ok (.aload_n 0, 1) := by decide +kernel
theorem dX12_gain_41 : decode cX12_gain 41 = .ok (.iload_n 2, 1) := by decide +kernel
theorem dX12_gain_42 : decode cX12_gain 42 = .ok (.iconst 4, 1) := by decide +kernel
theorem dX12_gain_43 : decode cX12_gain 43 = .ok (.iadd, 1) := by decide +kernel
theorem dX12_gain_44 : decode cX12_gain 44 = .ok (.iaload, 1) := by decide +kernel
theorem dX12_gain_45 : decode cX12_gain 45 = .ok (.iconst 1, 1) := by decide +kernel
theorem dX12_gain_46 : decode cX12_gain 46 = .ok (.if_icmp .ne 13, 3) := by decide +kernel
theorem dX12_gain_49 : decode cX12_gain 49 = .ok (.aload_n 0, 1) := by decide +kernel
theorem dX12_gain_50 : decode cX12_gain 50 = .ok (.iload_n 2, 1) := by decide +kernel
theorem dX12_gain_51 : decode cX12_gain 51 = .ok (.iconst 3, 1) := by decide +kernel
theorem dX12_gain_52 : decode cX12_gain 52 = .ok (.iadd, 1) := by decide +kernel
theorem dX12_gain_53 : decode cX12_gain 53 = .ok (.iaload, 1) := by decide +kernel
theorem dX12_gain_54 : decode cX12_gain 54 = .ok (.iconst 1, 1) := by decide +kernel
theorem dX12_gain_55 : decode cX12_gain 55 = .ok (.iadd, 1) := by decide +kernel
theorem dX12_gain_56 : decode cX12_gain 56 = .ok (.goto 10, 3) := by decide +kernel
theorem dX12_gain_59 : decode cX12_gain 59 = .ok (.aload_n 0, 1) := by decide +kernel
theorem dX12_gain_60 : decode cX12_gain 60 = .ok (.iload_n 2, 1) := by decide +kernel
theorem dX12_gain_61 : decode cX12_gain 61 = .ok (.iconst 3, 1) := by decide +kernel
theorem dX12_gain_62 : decode cX12_gain 62 = .ok (.iadd, 1) := by decide +kernel
theorem dX12_gain_63 : decode cX12_gain 63 = .ok (.iaload, 1) := by decide +kernel
theorem dX12_gain_64 : decode cX12_gain 64 = .ok (.iconst 1, 1) := by decide +kernel
theorem dX12_gain_65 : decode cX12_gain 65 = .ok (.isub, 1) := by decide +kernel
theorem dX12_gain_66 : decode cX12_gain 66 = .ok (.invokestatic 152, 3) := by decide +kernel
theorem dX12_gain_69 : decode cX12_gain 69 = .ok (.ifCond .eq 7, 3) := by decide +kernel
theorem dX12_gain_72 : decode cX12_gain 72 = .ok (.iconst 1, 1) := by decide +kernel
theorem dX12_gain_73 : decode cX12_gain 73 = .ok (.goto 4, 3) := by decide +kernel
theorem dX12_gain_76 : decode cX12_gain 76 = .ok (.iconst 0, 1) := by decide +kernel
theorem dX12_gain_77 : decode cX12_gain 77 = .ok (.iadd, 1) := by decide +kernel
theorem dX12_gain_78 : decode cX12_gain 78 = .ok (.ireturn, 1) := by decide +kernel
theorem dX12_grows_0 : decode cX12_grows 0 = .ok (.iconst 4, 1) := by decide +kernel
theorem dX12_grows_1 : decode cX12_grows 1 = .ok (.bipush 6, 2) := by decide +kernel
theorem dX12_grows_3 : decode cX12_grows 3 = .ok (.iload_n 1, 1) := by decide +kernel
theorem dX12_grows_4 : decode cX12_grows 4 = .ok (.imul, 1) := by decide +kernel
theorem dX12_grows_5 : decode cX12_grows 5 = .ok (.iadd, 1) := by decide +kernel
theorem dX12_grows_6 : decode cX12_grows 6 = .ok (.istore_n 3, 1) := by decide +kernel
theorem dX12_grows_7 : decode cX12_grows 7 = .ok (.aload_n 0, 1) := by decide +kernel
theorem dX12_grows_8 : decode cX12_grows 8 = .ok (.iload_n 3, 1) := by decide +kernel
theorem dX12_grows_9 : decode cX12_grows 9 = .ok (.iconst 2, 1) := by decide +kernel
theorem dX12_grows_10 : decode cX12_grows 10 = .ok (.iadd, 1) := by decide +kernel
theorem dX12_grows_11 : decode cX12_grows 11 = .ok (.dup2, 1) := by decide +kernel
theorem dX12_grows_12 : decode cX12_grows 12 = .ok (.iaload, 1) := by decide +kernel
theorem dX12_grows_13 : decode cX12_grows 13 = .ok (.iload_n 2, 1) := by decide +kernel
theorem dX12_grows_14 : decode cX12_grows 14 = .ok (.iadd, 1) := by decide +kernel
theorem dX12_grows_15 : decode cX12_grows 15 = .ok (.iastore, 1) := by decide +kernel
theorem dX12_grows_16 : decode cX12_grows 16 = .ok (.aload_n 0, 1) := by decide +kernel
theorem dX12_grows_17 : decode cX12_grows 17 = .ok (.iload_n 3, 1) := by decide +kernel
theorem dX12_grows_18 : decode cX12_grows 18 = .ok (.iconst 2, 1) := by decide +kernel
theorem dX12_grows_19 : decode cX12_grows 19 = .ok (.iadd, 1) := by decide +kernel
theorem dX12_grows_20 : decode cX12_grows 20 = .ok (.iaload, 1) := by decide +kernel
theorem dX12_grows_21 : decode cX12_grows 21 = .ok (.bipush 9, 2) := by decide +kernel
theorem dX12_grows_23 : decode cX12_grows 23 = .ok (.if_icmp .le 35, 3) := by decide +kernel
theorem dX12_grows_26 : decode cX12_grows 26 = .ok (.aload_n 0, 1) := by decide +kernel
theorem dX12_grows_27 : decode cX12_grows 27 = .ok (.iload_n 3, 1) := by decide +kernel
theorem dX12_grows_28 : decode cX12_grows 28 = .ok (.iconst 1, 1) := by decide +kernel
theorem dX12_grows_29 : decode cX12_grows 29 = .ok (.iadd, 1) := by decide +kernel
theorem dX12_grows_30 : decode cX12_grows 30 = .ok (.iaload, 1) := by decide +kernel
theorem dX12_grows_31 : decode cX12_grows 31 = .ok (.bipush 9, 2) := by decide +kernel
theorem dX12_grows_33 : decode cX12_grows 33 = .ok (.if_icmp .ge 25, 3) := by decide +kernel
theorem dX12_grows_36 : decode cX12_grows 36 = .ok (.aload_n 0, 1) := by decide +kernel
theorem dX12_grows_37 : decode cX12_grows 37 = .ok (.iload_n 3, 1) := by decide +kernel
theorem dX12_grows_38 : decode cX12_grows 38 = .ok (.iconst 2, 1) := by decide +kernel
theorem dX12_grows_39 : decode cX12_grows 39 = .ok (.iadd, 1) := by decide +kernel
theorem dX12_grows_40 : decode cX12_grows 40 = .ok (.dup2, 1) := by decide +kernel
theorem dX12_grows_41 : decode cX12_grows 41 = .ok (.iaload, 1) := by decide +kernel
theorem dX12_grows_42 : decode cX12_grows 42 = .ok (.bipush 10, 2) := by decide +kernel
theorem dX12_grows_44 : decode cX12_grows 44 = .ok (.isub, 1) := by decide +kernel
theorem dX12_grows_45 : decode cX12_grows 45 = .ok (.iastore, 1) := by decide +kernel
theorem dX12_grows_46 : decode cX12_grows 46 = .ok (.aload_n 0, 1) := by decide +kernel
theorem dX12_grows_47 : decode cX12_grows 47 = .ok (.iload_n 3, 1) := by decide +kernel
theorem dX12_grows_48 : decode cX12_grows 48 = .ok (.iconst 1, 1) := by decide +kernel
theorem dX12_grows_49 : decode cX12_grows 49 = .ok (.iadd, 1) := by decide +kernel
theorem dX12_grows_50 : decode cX12_grows 50 = .ok (.dup2, 1) := by decide +kernel
theorem dX12_grows_51 : decode cX12_grows 51 = .ok (.iaload, 1) := by decide +kernel
theorem dX12_grows_52 : decode cX12_grows 52 = .ok (.iconst 1, 1) := by decide +kernel
theorem dX12_grows_53 : decode cX12_grows 53 = .ok (.iadd, 1) := by decide +kernel
theorem dX12_grows_54 : decode cX12_grows 54 = .ok (.iastore, 1) := by decide +kernel
theorem dX12_grows_55 : decode cX12_grows 55 = .ok (.goto (-39), 3) := by decide +kernel
theorem dX12_grows_58 : decode cX12_grows 58 = .ok (.aload_n 0, 1) := by decide +kernel
theorem dX12_grows_59 : decode cX12_grows 59 = .ok (.iload_n 3, 1) := by decide +kernel
theorem dX12_grows_60 : decode cX12_grows 60 = .ok (.iconst 2, 1) := by decide +kernel
theorem dX12_grows_61 : decode cX12_grows 61 = .ok (.iadd, 1) := by decide +kernel
theorem dX12_grows_62 : decode cX12_grows 62 = .ok (.aload_n 0, 1) := by decide +kernel
theorem dX12_grows_63 : decode cX12_grows 63 = .ok (.iload_n 3, 1) := by decide +kernel
theorem dX12_grows_64 : decode cX12_grows 64 = .ok (.iconst 2, 1) := by decide +kernel
theorem dX12_grows_65 : decode cX12_grows 65 = .ok (.iadd, 1) := by decide +kernel
theorem dX12_grows_66 : decode cX12_grows 66 = .ok (.iaload, 1) := by decide +kernel
theorem dX12_grows_67 : decode cX12_grows 67 = .ok (.bipush 9, 2) := by decide +kernel
theorem dX12_grows_69 : decode cX12_grows 69 = .ok (.if_icmp .le 8, 3) := by decide +kernel
theorem dX12_grows_72 : decode cX12_grows 72 = .ok (.bipush 9, 2) := by decide +kernel
theorem dX12_grows_74 : decode cX12_grows 74 = .ok (.goto 8, 3) := by decide +kernel
theorem dX12_grows_77 : decode cX12_grows 77 = .ok (.aload_n 0, 1) := by decide +kernel
theorem dX12_grows_78 : decode cX12_grows 78 = .ok (.iload_n 3, 1) := by decide +kernel
theorem dX12_grows_79 : decode cX12_grows 79 = .ok (.iconst 2, 1) := by decide +kernel
theorem dX12_grows_80 : decode cX12_grows 80 = .ok (.iadd, 1) := by decide +kernel
theorem dX12_grows_81 : decode cX12_grows 81 = .ok (.iaload, 1) := by decide +kernel
theorem dX12_grows_82 : decode cX12_grows 82 = .ok (.iastore, 1) := by decide +kernel
theorem dX12_grows_83 : decode cX12_grows 83 = .ok (.return_, 1) := by decide +kernel
set_option maxRecDepth 20000 in
theorem ggX12_passes_X12_gain : GoodIn wsX12_passes wsX12_gain := goodIn_r _ [5, 6, 7, 8, 4, 9, 10, 11, 12, 13, 14, 15, 16, 17, 18, 19, 20, 21] (by decide +kernel) (by decide +kernel)
set_option maxRecDepth 20000 in
theorem gX12_passes_X12_gain : GoodIn wsX12_passes (va_wsS RX12 166 yX12_gain wsX12_gain) := goodIn_app (goodIn_of _ (by decide +kernel)) ggX12_passes_X12_gain
set_option maxRecDepth 20000 in
theorem ggX12_passes_X12_grows : GoodIn wsX12_passes wsX12_grows := goodIn_r _ [24] (by decide +kernel) (by decide +kernel)
set_option maxRecDepth 20000 in
theorem gX12_passes_X12_grows : GoodIn wsX12_passes (va_wsS RX12 169 yX12_grows wsX12_grows) := goodIn_app (goodIn_of _ (by decide +kernel)) ggX12_passes_X12_grows
theorem dX12_passes_0 : decode cX12_passes 0 = .ok (.iconst 0, 1) := by decide +kernel
theorem dX12_passes_1 : decode cX12_passes 1 = .ok (.istore_n 2, 1) := by decide +kernel
theorem dX12_passes_2 : decode cX12_passes 2 = .ok (.iload_n 2, 1) := by decide +kernel
theorem dX12_passes_3 : decode cX12_passes 3 = .ok (.aload_n 1, 1) := by decide +kernel
theorem dX12_passes_4 : decode cX12_passes 4 = .ok (.iconst 2, 1) := by decide +kernel
theorem dX12_passes_5 : decode cX12_passes 5 = .ok (.iaload, 1) := by decide +kernel
theorem dX12_passes_6 : decode cX12_passes 6 = .ok (.if_icmp .ge 20, 3) := by decide +kernel
theorem dX12_passes_9 : decode cX12_passes 9 = .ok (.aload_n 0, 1) := by decide +kernel
theorem dX12_passes_10 : decode cX12_passes 10 = .ok (.getfield 44, 3) := by decide +kernel
theorem dX12_passes_13 : decode cX12_passes 13 = .ok (.iload_n 2, 1) := by decide +kernel
theorem dX12_passes_14 : decode cX12_passes 14 = .ok (.aload_n 1, 1) := by decide +kernel
theorem dX12_passes_15 : decode cX12_passes 15 = .ok (.iload_n 2, 1) := by decide +kernel
theorem dX12_passes_16 : decode cX12_passes 16 = .ok (.invokestatic 166, 3) := by decide +kernel
theorem dX12_passes_19 : decode cX12_passes 19 = .ok (.iastore, 1) := by decide +kernel
theorem dX12_passes_20 : decode cX12_passes 20 = .ok (.iinc 2 1, 3) := by decide +kernel
theorem dX12_passes_23 : decode cX12_passes 23 = .ok (.goto (-21), 3) := by decide +kernel
theorem dX12_passes_26 : decode cX12_passes 26 = .ok (.iconst 0, 1) := by decide +kernel
theorem dX12_passes_27 : decode cX12_passes 27 = .ok (.istore_n 2, 1) := by decide +kernel
theorem dX12_passes_28 : decode cX12_passes 28 = .ok (.iload_n 2, 1) := by decide +kernel
theorem dX12_passes_29 : decode cX12_passes 29 = .ok (.aload_n 1, 1) := by decide +kernel
theorem dX12_passes_30 : decode cX12_passes 30 = .ok (.iconst 2, 1) := by decide +kernel
theorem dX12_passes_31 : decode cX12_passes 31 = .ok (.iaload, 1) := by decide +kernel
theorem dX12_passes_32 : decode cX12_passes 32 = .ok (.if_icmp .ge 20, 3) := by decide +kernel
theorem dX12_passes_35 : decode cX12_passes 35 = .ok (.aload_n 1, 1) := by decide +kernel
theorem dX12_passes_36 : decode cX12_passes 36 = .ok (.iload_n 2, 1) := by decide +kernel
theorem dX12_passes_37 : decode cX12_passes 37 = .ok (.aload_n 0, 1) := by decide +kernel
theorem dX12_passes_38 : decode cX12_passes 38 = .ok (.getfield 44, 3) := by decide +kernel
theorem dX12_passes_41 : decode cX12_passes 41 = .ok (.iload_n 2, 1) := by decide +kernel
theorem dX12_passes_42 : decode cX12_passes 42 = .ok (.iaload, 1) := by decide +kernel
theorem dX12_passes_43 : decode cX12_passes 43 = .ok (.invokestatic 169, 3) := by decide +kernel
theorem dX12_passes_46 : decode cX12_passes 46 = .ok (.iinc 2 1, 3) := by decide +kernel
theorem dX12_passes_49 : decode cX12_passes 49 = .ok (.goto (-21), 3) := by decide +kernel
theorem dX12_passes_52 : decode cX12_passes 52 = .ok (.aload_n 1, 1) := by decide +kernel
theorem dX12_passes_53 : decode cX12_passes 53 = .ok (.iconst 3, 1) := by decide +kernel
theorem dX12_passes_54 : decode cX12_passes 54 = .ok (.dup2, 1) := by decide +kernel
theorem dX12_passes_55 : decode cX12_passes 55 = .ok (.iaload, 1) := by decide +kernel
theorem dX12_passes_56 : decode cX12_passes 56 = .ok (.iconst 1, 1) := by decide +kernel
theorem dX12_passes_57 : decode cX12_passes 57 = .ok (.iadd, 1) := by decide +kernel
theorem dX12_passes_58 : decode cX12_passes 58 = .ok (.iastore, 1) := by decide +kernel
theorem dX12_passes_59 : decode cX12_passes 59 = .ok (.return_, 1) := by decide +kernel
theorem dX12_sumOf_0 : decode cX12_sumOf 0 = .ok (.iconst 0, 1) := by decide +kernel
theorem dX12_sumOf_1 : decode cX12_sumOf 1 = .ok (.istore_n 2, 1) := by decide +kernel
theorem dX12_sumOf_2 : decode cX12_sumOf 2 = .ok (.iconst 0, 1) := by decide +kernel
theorem dX12_sumOf_3 : decode cX12_sumOf 3 = .ok (.istore_n 3, 1) := by decide +kernel
theorem dX12_sumOf_4 : decode cX12_sumOf 4 = .ok (.iload_n 3, 1) := by decide +kernel
theorem dX12_sumOf_5 : decode cX12_sumOf 5 = .ok (.aload_n 0, 1) := by decide +kernel
theorem dX12_sumOf_6 : decode cX12_sumOf 6 = .ok (.iconst 2, 1) := by decide +kernel
theorem dX12_sumOf_7 : decode cX12_sumOf 7 = .ok (.iaload, 1) := by decide +kernel
theorem dX12_sumOf_8 : decode cX12_sumOf 8 = .ok (.if_icmp .ge 22, 3) := by decide +kernel
theorem dX12_sumOf_11 : decode cX12_sumOf 11 = .ok (.iload_n 2, 1) := by decide +kernel
theorem dX12_sumOf_12 : decode cX12_sumOf 12 = .ok (.aload_n 0, 1) := by decide +kernel
theorem dX12_sumOf_13 : decode cX12_sumOf 13 = .ok (.iconst 4, 1) := by decide +kernel
theorem dX12_sumOf_14 : decode cX12_sumOf 14 = .ok (.bipush 6, 2) := by decide +kernel
theorem dX12_sumOf_16 : decode cX12_sumOf 16 = .ok (.iload_n 3, 1) := by decide +kernel
theorem dX12_sumOf_17 : decode cX12_sumOf 17 = .ok (.imul, 1) := by decide +kernel
theorem dX12_sumOf_18 : decode cX12_sumOf 18 = .ok (.iadd, 1) := by decide +kernel
theorem dX12_sumOf_19 : decode cX12_sumOf 19 = .ok (.iload_n 1, 1) := by decide +kernel
theorem dX12_sumOf_20 : decode cX12_sumOf 20 = .ok (.iadd, 1) := by decide +kernel
theorem dX12_sumOf_21 : decode cX12_sumOf 21 = .ok (.iaload, 1) := by decide +kernel
theorem dX12_sumOf_22 : decode cX12_sumOf 22 = .ok (.iadd, 1) := by decide +kernel
theorem dX12_sumOf_23 : decode cX12_sumOf 23 = .ok (.istore_n 2, 1) := by decide +kernel
theorem dX12_sumOf_24 : decode cX12_sumOf 24 = .ok (.iinc 3 1, 3) := by decide +kernel
theorem dX12_sumOf_27 : decode cX12_sumOf 27 = .ok (.goto (-23), 3) := by decide +kernel
theorem dX12_sumOf_30 : decode cX12_sumOf 30 = .ok (.iload_n 2, 1) := by decide +kernel
theorem dX12_sumOf_31 : decode cX12_sumOf 31 = .ok (.ireturn, 1) := by decide +kernel
theorem dX12_changes_0 : decode cX12_changes 0 = .ok (.aload_n 0, 1) := by decide +kernel
theorem dX12_changes_1 : decode cX12_changes 1 = .ok (.iconst 4, 1) := by decide +kernel
theorem dX12_changes_2 : decode cX12_changes 2 = .ok (.bipush 6, 2) := by decide +kernel
theorem dX12_changes_4 : decode cX12_changes 4 = .ok (.iload_n 1, 1) := by decide +kernel
theorem dX12_changes_5 : decode cX12_changes 5 = .ok (.imul, 1) := by decide +kernel
theorem dX12_changes_6 : decode cX12_changes 6 = .ok (.iadd, 1) := by decide +kernel
theorem dX12_changes_7 : decode cX12_changes 7 = .ok (.iconst 3, 1) := by decide +kernel
theorem dX12_changes_8 : decode cX12_changes 8 = .ok (.iadd, 1) := by decide +kernel
theorem dX12_changes_9 : decode cX12_changes 9 = .ok (.iaload, 1) := by decide +kernel
theorem dX12_changes_10 : decode cX12_changes 10 = .ok (.istore_n 3, 1) := by decide +kernel
theorem dX12_changes_11 : decode cX12_changes 11 = .ok (.aload_n 0, 1) := by decide +kernel
theorem dX12_changes_12 : decode cX12_changes 12 = .ok (.iconst 4, 1) := by decide +kernel
theorem dX12_changes_13 : decode cX12_changes 13 = .ok (.bipush 6, 2) := by decide +kernel
theorem dX12_changes_15 : decode cX12_changes 15 = .ok (.iload_n 1, 1) := by decide +kernel
theorem dX12_changes_16 : decode cX12_changes 16 = .ok (.imul, 1) := by decide +kernel
theorem dX12_changes_17 : decode cX12_changes 17 = .ok (.iadd, 1) := by decide +kernel
theorem dX12_changes_18 : decode cX12_changes 18 = .ok (.iconst 3, 1) := by decide +kernel
theorem dX12_changes_19 : decode cX12_changes 19 = .ok (.iadd, 1) := by decide +kernel
theorem dX12_changes_20 : decode cX12_changes 20 = .ok (.aload_n 0, 1) := by decide +kernel
theorem dX12_changes_21 : decode cX12_changes 21 = .ok (.iconst 4, 1) := by decide +kernel
theorem dX12_changes_22 : decode cX12_changes 22 = .ok (.bipush 6, 2) := by decide +kernel
theorem dX12_changes_24 : decode cX12_changes 24 = .ok (.iload_n 2, 1) := by decide +kernel
theorem dX12_changes_25 : decode cX12_changes 25 = .ok (.imul, 1) := by decide +kernel
theorem dX12_changes_26 : decode cX12_changes 26 = .ok (.iadd, 1) := by decide +kernel
theorem dX12_changes_27 : decode cX12_changes 27 = .ok (.iconst 3, 1) := by decide +kernel
theorem dX12_changes_28 : decode cX12_changes 28 = .ok (.iadd, 1) := by decide +kernel
theorem dX12_changes_29 : decode cX12_changes 29 = .ok (.iaload, 1) := by decide +kernel
theorem dX12_changes_30 : decode cX12_changes 30 = .ok (.iastore, 1) := by decide +kernel
theorem dX12_changes_31 : decode cX12_changes 31 = .ok (.aload_n 0, 1) := by decide +kernel
theorem dX12_changes_32 : decode cX12_changes 32 = .ok (.iconst 4, 1) := by decide +kernel
theorem dX12_changes_33 : decode cX12_changes 33 = .ok (.bipush 6, 2) := by decide +kernel
theorem dX12_changes_35 : decode cX12_changes 35 = .ok (.iload_n 2, 1) := by decide +kernel
theorem dX12_changes_36 : decode cX12_changes 36 = .ok (.imul, 1) := by decide +kernel
theorem dX12_changes_37 : decode cX12_changes 37 = .ok (.iadd, 1) := by decide +kernel
theorem dX12_changes_38 : decode cX12_changes 38 = .ok (.iconst 3, 1) := by decide +kernel
theorem dX12_changes_39 : decode cX12_changes 39 = .ok (.iadd, 1) := by decide +kernel
theorem dX12_changes_40 : decode cX12_changes 40 = .ok (.iload_n 3, 1) := by decide +kernel
theorem dX12_changes_41 : decode cX12_changes 41 = .ok (.iastore, 1) := by decide +kernel
theorem dX12_changes_42 : decode cX12_changes 42 = .ok (.return_, 1) := by decide +kernel
theorem dX12_married_0 : decode cX12_married 0 = .ok (.iconst 0, 1) := by decide +kernel
theorem dX12_married_1 : decode cX12_married 1 = .ok (.istore_n 1, 1) := by decide +kernel
theorem dX12_married_2 : decode cX12_married 2 = .ok (.iconst 0, 1) := by decide +kernel
theorem dX12_married_3 : decode cX12_married 3 = .ok (.istore_n 2, 1) := by decide +kernel
theorem dX12_married_4 : decode cX12_married 4 = .ok (.iload_n 2, 1) := by decide +kernel
theorem dX12_married_5 : decode cX12_married 5 = .ok (.aload_n 0, 1) := by decide +kernel
theorem dX12_married_6 : decode cX12_married 6 = .ok (.getfield 25, 3) := by decide +kernel
theorem dX12_married_9 : decode cX12_married 9 = .ok (.iconst 2, 1) := by decide +kernel
theorem dX12_married_10 : decode cX12_married 10 = .ok (.iaload, 1) := by decide +kernel
theorem dX12_married_11 : decode cX12_married 11 = .ok (.if_icmp .ge 35, 3) := by decide +kernel
theorem dX12_married_14 : decode cX12_married 14 = .ok (.iload_n 1, 1) := by decide +kernel
theorem dX12_married_15 : decode cX12_married 15 = .ok (.aload_n 0, 1) := by decide +kernel
theorem dX12_married_16 : decode cX12_married 16 = .ok (.getfield 25, 3) := by decide +kernel
theorem dX12_married_19 : decode cX12_married 19 = .ok (.iconst 4, 1) := by decide +kernel
theorem dX12_married_20 : decode cX12_married 20 = .ok (.bipush 6, 2) := by decide +kernel
theorem dX12_married_22 : decode cX12_married 22 = .ok (.iload_n 2, 1) := by decide +kernel
theorem dX12_married_23 : decode cX12_married 23 = .ok (.imul, 1) := by decide +kernel
theorem dX12_married_24 : decode cX12_married 24 = .ok (.iadd, 1) := by decide +kernel
theorem dX12_married_25 : decode cX12_married 25 = .ok (.iconst 5, 1) := by decide +kernel
theorem dX12_married_26 : decode cX12_married 26 = .ok (.iadd, 1) := by decide +kernel
theorem dX12_married_27 : decode cX12_married 27 = .ok (.iaload, 1) := by decide +kernel
theorem dX12_married_28 : decode cX12_married 28 = .ok (.ldc 56, 2) := by decide +kernel
theorem dX12_married_30 : decode cX12_married 30 = .ok (.if_icmp .ne 7, 3) := by decide +kernel
theorem dX12_married_33 : decode cX12_married 33 = .ok (.iconst 0, 1) := by decide +kernel
theorem dX12_married_34 : decode cX12_married 34 = .ok (.goto 4, 3) := by decide +kernel
theorem dX12_married_37 : decode cX12_married 37 = .ok (.iconst 1, 1) := by decide +kernel
theorem dX12_married_38 : decode cX12_married 38 = .ok (.iadd, 1) := by decide +kernel
theorem dX12_married_39 : decode cX12_married 39 = .ok (.istore_n 1, 1) := by decide +kernel
theorem dX12_married_40 : decode cX12_married 40 = .ok (.iinc 2 1, 3) := by decide +kernel
theorem dX12_married_43 : decode cX12_married 43 = .ok (.goto (-39), 3) := by decide +kernel
theorem dX12_married_46 : decode cX12_married 46 = .ok (.iload_n 1, 1) := by decide +kernel
theorem dX12_married_47 : decode cX12_married 47 = .ok (.ireturn, 1) := by decide +kernel
set_option maxRecDepth 20000 in
theorem ggX12_notes_X12_copies : GoodIn wsX12_notes wsX12_copies := goodIn_r _ [7] (by decide +kernel) (by decide +kernel)
set_option maxRecDepth 20000 in
theorem gX12_notes_X12_copies : GoodIn wsX12_notes (va_wsS RX12 141 yX12_copies wsX12_copies) := goodIn_app (goodIn_of _ (by decide +kernel)) ggX12_notes_X12_copies
theorem dX12_notes_0 : decode cX12_notes 0 = .ok (.aload_n 0, 1) := by decide +kernel
theorem dX12_notes_1 : decode cX12_notes 1 = .ok (.getfield 145, 3) := by decide +kernel
theorem dX12_notes_4 : decode cX12_notes 4 = .ok (.bipush 24, 2) := by decide +kernel
theorem dX12_notes_6 : decode cX12_notes 6 = .ok (.if_icmp .ne 43, 3) := by decide +kernel
theorem dX12_notes_9 : decode cX12_notes 9 = .ok (.iconst 0, 1) := by decide +kernel
theorem dX12_notes_10 : decode cX12_notes 10 = .ok (.istore_n 1, 1) := by decide +kernel
theorem dX12_notes_11 : decode cX12_notes 11 = .ok (.iload_n 1, 1) := by decide +kernel
theorem dX12_notes_12 : decode cX12_notes 12 = .ok (.sipush 1058, 3) := by decide +kernel
theorem dX12_notes_15 : decode cX12_notes 15 = .ok (.if_icmp .ge 24, 3) := by decide +kernel
theorem dX12_notes_18 : decode cX12_notes 18 = .ok (.aload_n 0, 1) := by decide +kernel
theorem dX12_notes_19 : decode cX12_notes 19 = .ok (.getfield 34, 3) := by decide +kernel
theorem dX12_notes_22 : decode cX12_notes 22 = .ok (.iload_n 1, 1) := by decide +kernel
theorem dX12_notes_23 : decode cX12_notes 23 = .ok (.aload_n 0, 1) := by decide +kernel
theorem dX12_notes_24 : decode cX12_notes 24 = .ok (.getfield 34, 3) := by decide +kernel
theorem dX12_notes_27 : decode cX12_notes 27 = .ok (.iload_n 1, 1) := by decide +kernel
theorem dX12_notes_28 : decode cX12_notes 28 = .ok (.bipush 46, 2) := by decide +kernel
theorem dX12_notes_30 : decode cX12_notes 30 = .ok (.iadd, 1) := by decide +kernel
theorem dX12_notes_31 : decode cX12_notes 31 = .ok (.iaload, 1) := by decide +kernel
theorem dX12_notes_32 : decode cX12_notes 32 = .ok (.iastore, 1) := by decide +kernel
theorem dX12_notes_33 : decode cX12_notes 33 = .ok (.iinc 1 1, 3) := by decide +kernel
theorem dX12_notes_36 : decode cX12_notes 36 = .ok (.goto (-25), 3) := by decide +kernel
theorem dX12_notes_39 : decode cX12_notes 39 = .ok (.aload_n 0, 1) := by decide +kernel
theorem dX12_notes_40 : decode cX12_notes 40 = .ok (.dup, 1) := by decide +kernel
theorem dX12_notes_41 : decode cX12_notes 41 = .ok (.getfield 145, 3) := by decide +kernel
theorem dX12_notes_44 : decode cX12_notes 44 = .ok (.iconst 1, 1) := by decide +kernel
theorem dX12_notes_45 : decode cX12_notes 45 = .ok (.isub, 1) := by decide +kernel
theorem dX12_notes_46 : decode cX12_notes 46 = .ok (.putfield 145, 3) := by decide +kernel
theorem dX12_notes_49 : decode cX12_notes 49 = .ok (.aload_n 0, 1) := by decide +kernel
theorem dX12_notes_50 : decode cX12_notes 50 = .ok (.getfield 25, 3) := by decide +kernel
theorem dX12_notes_53 : decode cX12_notes 53 = .ok (.iconst 0, 1) := by decide +kernel
theorem dX12_notes_54 : decode cX12_notes 54 = .ok (.aload_n 0, 1) := by decide +kernel
theorem dX12_notes_55 : decode cX12_notes 55 = .ok (.getfield 34, 3) := by decide +kernel
theorem dX12_notes_58 : decode cX12_notes 58 = .ok (.bipush 46, 2) := by decide +kernel
theorem dX12_notes_60 : decode cX12_notes 60 = .ok (.aload_n 0, 1) := by decide +kernel
theorem dX12_notes_61 : decode cX12_notes 61 = .ok (.getfield 145, 3) := by decide +kernel
theorem dX12_notes_64 : decode cX12_notes 64 = .ok (.imul, 1) := by decide +kernel
theorem dX12_notes_65 : decode cX12_notes 65 = .ok (.invokestatic 141, 3) := by decide +kernel
theorem dX12_notes_68 : decode cX12_notes 68 = .ok (.aload_n 0, 1) := by decide +kernel
theorem dX12_notes_69 : decode cX12_notes 69 = .ok (.dup, 1) := by decide +kernel
theorem dX12_notes_70 : decode cX12_notes 70 = .ok (.getfield 145, 3) := by decide +kernel
theorem dX12_notes_73 : decode cX12_notes 73 = .ok (.iconst 1, 1) := by decide +kernel
theorem dX12_notes_74 : decode cX12_notes 74 = .ok (.iadd, 1) := by decide +kernel
theorem dX12_notes_75 : decode cX12_notes 75 = .ok (.putfield 145, 3) := by decide +kernel
theorem dX12_notes_78 : decode cX12_notes 78 = .ok (.return_, 1) := by decide +kernel
set_option maxRecDepth 20000 in
theorem ggX12_years_X12_isField : GoodIn wsX12_years wsX12_isField := goodIn_r _ [9, 3, 52, 53, 54, 55, 56, 57, 58, 59, 60, 61, 62, 63, 64, 65, 66, 67, 68, 69, 70, 71, 72, 73, 74, 75, 76] (by decide +kernel) (by decide +kernel)
set_option maxRecDepth 20000 in
theorem gX12_years_X12_isField : GoodIn wsX12_years (wsV RX12 173 RX12 yX12_isField wsX12_isField) := goodIn_app (goodIn_of _ (by decide +kernel)) ggX12_years_X12_isField
set_option maxRecDepth 20000 in
theorem ggX12_years_X12_in : GoodIn wsX12_years wsX12_in := goodIn_r _ [12] (by decide +kernel) (by decide +kernel)
set_option maxRecDepth 20000 in
theorem gX12_years_X12_in : GoodIn wsX12_years (va_wsS RX12 62 yX12_in wsX12_in) := goodIn_app (goodIn_of _ (by decide +kernel)) ggX12_years_X12_in
set_option maxRecDepth 20000 in
theorem ggX12_years_X12_notes : GoodIn wsX12_years wsX12_notes := goodIn_r _ [16, 17, 18, 3, 19, 20, 8, 21, 52, 53, 54, 55, 56, 57, 58, 59, 60, 61, 62, 63, 64, 65, 66, 67, 68, 69, 70, 71, 72, 73, 74, 75, 76] (by decide +kernel) (by decide +kernel)
set_option maxRecDepth 20000 in
theorem gX12_years_X12_notes : GoodIn wsX12_years (wsV RX12 177 RX12 yX12_notes wsX12_notes) := goodIn_app (goodIn_of _ (by decide +kernel)) ggX12_years_X12_notes
set_option maxRecDepth 20000 in
theorem ggX12_years_X12_passes : GoodIn wsX12_years wsX12_passes := goodIn_r _ [25, 26, 27, 28, 8, 29, 30, 31, 32, 33, 34, 35, 36, 37, 38, 39, 40, 41, 42, 43, 44, 45, 46, 47, 48, 52, 53, 54, 55, 56, 57, 58, 59, 60, 61, 62, 63, 64, 65, 66, 67, 68, 69, 70, 71, 72, 73, 74, 75, 76] (by decide +kernel) (by decide +kernel)
set_option maxRecDepth 20000 in
theorem gX12_years_X12_passes : GoodIn wsX12_years (wsV RX12 180 RX12 yX12_passes wsX12_passes) := goodIn_app (goodIn_of _ (by decide +kernel)) ggX12_years_X12_passes
set_option maxRecDepth 20000 in
theorem ggX12_years_X12_sumOf : GoodIn wsX12_years wsX12_sumOf := goodIn_r _ [51] (by decide +kernel) (by decide +kernel)
set_option maxRecDepth 20000 in
theorem gX12_years_X12_sumOf : GoodIn wsX12_years (va_wsS RX12 184 yX12_sumOf wsX12_sumOf) := goodIn_app (goodIn_of _ (by decide +kernel)) ggX12_years_X12_sumOf
theorem dX12_years_0 : decode cX12_years 0 = .ok (.aload_n 0, 1) := by decide +kernel
theorem dX12_years_1 : decode cX12_years 1 = .ok (.invokevirtual 173, 3) := by decide +kernel
theorem dX12_years_4 : decode cX12_years 4 = .ok (.ifCond .ne 6, 3) := by decide +kernel
theorem dX12_years_7 : decode cX12_years 7 = .ok (.ldc 176, 2) := by decide +kernel
theorem dX12_years_9 : decode cX12_years 9 = .ok (.ireturn, 1) := by decide +kernel
theorem dX12_years_10 : decode cX12_years 10 = .ok (.iload_n 1, 1) := by decide +kernel
theorem dX12_years_11 : decode cX12_years 11 = .ok (.iconst 1, 1) := by decide +kernel
theorem dX12_years_12 : decode cX12_years 12 = .ok (.bipush 24, 2) := by decide +kernel
theorem dX12_years_14 : decode cX12_years 14 = .ok (.invokestatic 62, 3) := by decide +kernel
theorem dX12_years_17 : decode cX12_years 17 = .ok (.ifCond .ne 6, 3) := by decide +kernel
theorem dX12_years_20 : decode cX12_years 20 = .ok (.ldc 70, 2) := by decide +kernel
theorem dX12_years_22 : decode cX12_years 22 = .ok (.ireturn, 1) := by decide +kernel
theorem dX12_years_23 : decode cX12_years 23 = .ok (.aload_n 0, 1) := by decide +kernel
theorem dX12_years_24 : decode cX12_years 24 = .ok (.getfield 25, 3) := by decide +kernel
theorem dX12_years_27 : decode cX12_years 27 = .ok (.iconst 3, 1) := by decide +kernel
theorem dX12_years_28 : decode cX12_years 28 = .ok (.iaload, 1) := by decide +kernel
theorem dX12_years_29 : decode cX12_years 29 = .ok (.iload_n 1, 1) := by decide +kernel
theorem dX12_years_30 : decode cX12_years 30 = .ok (.iadd, 1) := by decide +kernel
theorem dX12_years_31 : decode cX12_years 31 = .ok (.sipush 9999, 3) := by decide +kernel
theorem dX12_years_34 : decode cX12_years 34 = .ok (.if_icmp .le 6, 3) := by decide +kernel
theorem dX12_years_37 : decode cX12_years 37 = .ok (.ldc 91, 2) := by decide +kernel
theorem dX12_years_39 : decode cX12_years 39 = .ok (.ireturn, 1) := by decide +kernel
theorem dX12_years_40 : decode cX12_years 40 = .ok (.iconst 0, 1) := by decide +kernel
theorem dX12_years_41 : decode cX12_years 41 = .ok (.istore_n 2, 1) := by decide +kernel
theorem dX12_years_42 : decode cX12_years 42 = .ok (.iload_n 2, 1) := by decide +kernel
theorem dX12_years_43 : decode cX12_years 43 = .ok (.iload_n 1, 1) := by decide +kernel
theorem dX12_years_44 : decode cX12_years 44 = .ok (.if_icmp .ge 21, 3) := by decide +kernel
theorem dX12_years_47 : decode cX12_years 47 = .ok (.aload_n 0, 1) := by decide +kernel
theorem dX12_years_48 : decode cX12_years 48 = .ok (.invokevirtual 177, 3) := by decide +kernel
theorem dX12_years_51 : decode cX12_years 51 = .ok (.aload_n 0, 1) := by decide +kernel
theorem dX12_years_52 : decode cX12_years 52 = .ok (.aload_n 0, 1) := by decide +kernel
theorem dX12_years_53 : decode cX12_years 53 = .ok (.getfield 25, 3) := by decide +kernel
theorem dX12_years_56 : decode cX12_years 56 = .ok (.invokevirtual 180, 3) := by decide +kernel
theorem dX12_years_59 : decode cX12_years 59 = .ok (.iinc 2 1, 3) := by decide +kernel
theorem dX12_years_62 : decode cX12_years 62 = .ok (.goto (-20), 3) := by decide +kernel
theorem dX12_years_65 : decode cX12_years 65 = .ok (.aload_n 0, 1) := by decide +kernel
theorem dX12_years_66 : decode cX12_years 66 = .ok (.getfield 25, 3) := by decide +kernel
theorem dX12_years_69 : decode cX12_years 69 = .ok (.iconst 1, 1) := by decide +kernel
theorem dX12_years_70 : decode cX12_years 70 = .ok (.invokestatic 184, 3) := by decide +kernel
theorem dX12_years_73 : decode cX12_years 73 = .ok (.ireturn, 1) := by decide +kernel
set_option maxRecDepth 20000 in
theorem ggX12_marry_X12_isTurnip : GoodIn wsX12_marry wsX12_isTurnip := goodIn_r _ [9, 2, 10, 11, 8, 12, 26, 27, 28, 29, 30, 31, 32, 33, 34, 35, 36, 37, 38, 39, 40, 41, 42, 43, 44, 45, 46, 47, 48, 49, 50] (by decide +kernel) (by decide +kernel)
set_option maxRecDepth 20000 in
theorem gX12_marry_X12_isTurnip : GoodIn wsX12_marry (wsV RX12 187 RX12 yX12_isTurnip wsX12_isTurnip) := goodIn_app (goodIn_of _ (by decide +kernel)) ggX12_marry_X12_isTurnip
set_option maxRecDepth 20000 in
theorem ggX12_marry_X12_notes : GoodIn wsX12_marry wsX12_notes := goodIn_r _ [16, 17, 18, 2, 19, 20, 8, 21, 26, 27, 28, 29, 30, 31, 32, 33, 34, 35, 36, 37, 38, 39, 40, 41, 42, 43, 44, 45, 46, 47, 48, 49, 50] (by decide +kernel) (by decide +kernel)
set_option maxRecDepth 20000 in
theorem gX12_marry_X12_notes : GoodIn wsX12_marry (wsV RX12 177 RX12 yX12_notes wsX12_notes) := goodIn_app (goodIn_of _ (by decide +kernel)) ggX12_marry_X12_notes
set_option maxRecDepth 20000 in
theorem ggX12_marry_X12_married : GoodIn wsX12_marry wsX12_married := goodIn_r _ [25, 2, 3, 26, 27, 28, 29, 30, 31, 32, 33, 34, 35, 36, 37, 38, 39, 40, 41, 42, 43, 44, 45, 46, 47, 48, 49, 50] (by decide +kernel) (by decide +kernel)
set_option maxRecDepth 20000 in
theorem gX12_marry_X12_married : GoodIn wsX12_marry (wsV RX12 190 RX12 yX12_married wsX12_married) := goodIn_app (goodIn_of _ (by decide +kernel)) ggX12_marry_X12_married
theorem dX12_marry_0 : decode cX12_marry 0 = .ok (.aload_n 0, 1) := by decide +kernel
theorem dX12_marry_1 : decode cX12_marry 1 = .ok (.iload_n 1, 1) := by decide +kernel
theorem dX12_marry_2 : decode cX12_marry 2 = .ok (.invokevirtual 187, 3) := by decide +kernel
theorem dX12_marry_5 : decode cX12_marry 5 = .ok (.ifCond .eq 16, 3) := by decide +kernel
theorem dX12_marry_8 : decode cX12_marry 8 = .ok (.aload_n 0, 1) := by decide +kernel
theorem dX12_marry_9 : decode cX12_marry 9 = .ok (.iload_n 2, 1) := by decide +kernel
theorem dX12_marry_10 : decode cX12_marry 10 = .ok (.invokevirtual 187, 3) := by decide +kernel
theorem dX12_marry_13 : decode cX12_marry 13 = .ok (.ifCond .eq 8, 3) := by decide +kernel
theorem dX12_marry_16 : decode cX12_marry 16 = .ok (.iload_n 1, 1) := by decide +kernel
theorem dX12_marry_17 : decode cX12_marry 17 = .ok (.iload_n 2, 1) := by decide +kernel
theorem dX12_marry_18 : decode cX12_marry 18 = .ok (.if_icmp .ne 6, 3) := by decide +kernel
theorem dX12_marry_21 : decode cX12_marry 21 = .ok (.ldc 70, 2) := by decide +kernel
theorem dX12_marry_23 : decode cX12_marry 23 = .ok (.ireturn, 1) := by decide +kernel
theorem dX12_marry_24 : decode cX12_marry 24 = .ok (.aload_n 0, 1) := by decide +kernel
theorem dX12_marry_25 : decode cX12_marry 25 = .ok (.getfield 25, 3) := by decide +kernel
theorem dX12_marry_28 : decode cX12_marry 28 = .ok (.iconst 4, 1) := by decide +kernel
theorem dX12_marry_29 : decode cX12_marry 29 = .ok (.bipush 6, 2) := by decide +kernel
theorem dX12_marry_31 : decode cX12_marry 31 = .ok (.iload_n 1, 1) := by decide +kernel
theorem dX12_marry_32 : decode cX12_marry 32 = .ok (.imul, 1) := by decide +kernel
theorem dX12_marry_33 : decode cX12_marry 33 = .ok (.iadd, 1) := by decide +kernel
theorem dX12_marry_34 : decode cX12_marry 34 = .ok (.iconst 5, 1) := by decide +kernel
theorem dX12_marry_35 : decode cX12_marry 35 = .ok (.iadd, 1) := by decide +kernel
theorem dX12_marry_36 : decode cX12_marry 36 = .ok (.iaload, 1) := by decide +kernel
theorem dX12_marry_37 : decode cX12_marry 37 = .ok (.ldc 56, 2) := by decide +kernel
theorem dX12_marry_39 : decode cX12_marry 39 = .ok (.if_icmp .ne 21, 3) := by decide +kernel
theorem dX12_marry_42 : decode cX12_marry 42 = .ok (.aload_n 0, 1) := by decide +kernel
theorem dX12_marry_43 : decode cX12_marry 43 = .ok (.getfield 25, 3) := by decide +kernel
theorem dX12_marry_46 : decode cX12_marry 46 = .ok (.iconst 4, 1) := by decide +kernel
theorem dX12_marry_47 : decode cX12_marry 47 = .ok (.bipush 6, 2) := by decide +kernel
theorem dX12_marry_49 : decode cX12_marry 49 = .ok (.iload_n 2, 1) := by decide +kernel
theorem dX12_marry_50 : decode cX12_marry 50 = .ok (.imul, 1) := by decide +kernel
theorem dX12_marry_51 : decode cX12_marry 51 = .ok (.iadd, 1) := by decide +kernel
theorem dX12_marry_52 : decode cX12_marry 52 = .ok (.iconst 5, 1) := by decide +kernel
theorem dX12_marry_53 : decode cX12_marry 53 = .ok (.iadd, 1) := by decide +kernel
theorem dX12_marry_54 : decode cX12_marry 54 = .ok (.iaload, 1) := by decide +kernel
theorem dX12_marry_55 : decode cX12_marry 55 = .ok (.ldc 56, 2) := by decide +kernel
theorem dX12_marry_57 : decode cX12_marry 57 = .ok (.if_icmp .eq 6, 3) := by decide +kernel
theorem dX12_marry_60 : decode cX12_marry 60 = .ok (.ldc 176, 2) := by decide +kernel
theorem dX12_marry_62 : decode cX12_marry 62 = .ok (.ireturn, 1) := by decide +kernel
theorem dX12_marry_63 : decode cX12_marry 63 = .ok (.aload_n 0, 1) := by decide +kernel
theorem dX12_marry_64 : decode cX12_marry 64 = .ok (.invokevirtual 177, 3) := by decide +kernel
theorem dX12_marry_67 : decode cX12_marry 67 = .ok (.aload_n 0, 1) := by decide +kernel
theorem dX12_marry_68 : decode cX12_marry 68 = .ok (.getfield 25, 3) := by decide +kernel
theorem dX12_marry_71 : decode cX12_marry 71 = .ok (.iconst 4, 1) := by decide +kernel
theorem dX12_marry_72 : decode cX12_marry 72 = .ok (.bipush 6, 2) := by decide +kernel
theorem dX12_marry_74 : decode cX12_marry 74 = .ok (.iload_n 1, 1) := by decide +kernel
theorem dX12_marry_75 : decode cX12_marry 75 = .ok (.imul, 1) := by decide +kernel
theorem dX12_marry_76 : decode cX12_marry 76 = .ok (.iadd, 1) := by decide +kernel
theorem dX12_marry_77 : decode cX12_marry 77 = .ok (.iconst 5, 1) := by decide +kernel
theorem dX12_marry_78 : decode cX12_marry 78 = .ok (.iadd, 1) := by decide +kernel
theorem dX12_marry_79 : decode cX12_marry 79 = .ok (.iload_n 2, 1) := by decide +kernel
theorem dX12_marry_80 : decode cX12_marry 80 = .ok (.iastore, 1) := by decide +kernel
theorem dX12_marry_81 : decode cX12_marry 81 = .ok (.aload_n 0, 1) := by decide +kernel
theorem dX12_marry_82 : decode cX12_marry 82 = .ok (.getfield 25, 3) := by decide +kernel
theorem dX12_marry_85 : decode cX12_marry 85 = .ok (.iconst 4, 1) := by decide +kernel
theorem dX12_marry_86 : decode cX12_marry 86 = .ok (.bipush 6, 2) := by decide +kernel
theorem dX12_marry_88 : decode cX12_marry 88 = .ok (.iload_n 2, 1) := by decide +kernel
theorem dX12_marry_89 : decode cX12_marry 89 = .ok (.imul, 1) := by decide +kernel
theorem dX12_marry_90 : decode cX12_marry 90 = .ok (.iadd, 1) := by decide +kernel
theorem dX12_marry_91 : decode cX12_marry 91 = .ok (.iconst 5, 1) := by decide +kernel
theorem dX12_marry_92 : decode cX12_marry 92 = .ok (.iadd, 1) := by decide +kernel
theorem dX12_marry_93 : decode cX12_marry 93 = .ok (.iload_n 1, 1) := by decide +kernel
theorem dX12_marry_94 : decode cX12_marry 94 = .ok (.iastore, 1) := by decide +kernel
theorem dX12_marry_95 : decode cX12_marry 95 = .ok (.aload_n 0, 1) := by decide +kernel
theorem dX12_marry_96 : decode cX12_marry 96 = .ok (.invokevirtual 190, 3) := by decide +kernel
theorem dX12_marry_99 : decode cX12_marry 99 = .ok (.ireturn, 1) := by decide +kernel
set_option maxRecDepth 20000 in
theorem ggX12_part_X12_isTurnip : GoodIn wsX12_part wsX12_isTurnip := goodIn_r _ [9, 2, 10, 11, 8, 12, 22, 23, 24, 25, 26, 27, 28, 29, 30, 31, 32, 33, 34, 35, 36, 37, 38, 39, 40, 41, 42, 43, 44, 45, 46] (by decide +kernel) (by decide +kernel)
set_option maxRecDepth 20000 in
theorem gX12_part_X12_isTurnip : GoodIn wsX12_part (wsV RX12 187 RX12 yX12_isTurnip wsX12_isTurnip) := goodIn_app (goodIn_of _ (by decide +kernel)) ggX12_part_X12_isTurnip
set_option maxRecDepth 20000 in
theorem ggX12_part_X12_notes : GoodIn wsX12_part wsX12_notes := goodIn_r _ [16, 17, 18, 2, 19, 20, 8, 21, 22, 23, 24, 25, 26, 27, 28, 29, 30, 31, 32, 33, 34, 35, 36, 37, 38, 39, 40, 41, 42, 43, 44, 45, 46] (by decide +kernel) (by decide +kernel)
set_option maxRecDepth 20000 in
theorem gX12_part_X12_notes : GoodIn wsX12_part (wsV RX12 177 RX12 yX12_notes wsX12_notes) := goodIn_app (goodIn_of _ (by decide +kernel)) ggX12_part_X12_notes
theorem dX12_part_0 : decode cX12_part 0 = .ok (.aload_n 0, 1) := by decide +kernel
theorem dX12_part_1 : decode cX12_part 1 = .ok (.iload_n 1, 1) := by decide +kernel
theorem dX12_part_2 : decode cX12_part 2 = .ok (.invokevirtual 187, 3) := by decide +kernel
theorem dX12_part_5 : decode cX12_part 5 = .ok (.ifCond .ne 6, 3) := by decide +kernel
theorem dX12_part_8 : decode cX12_part 8 = .ok (.ldc 70, 2) := by decide +kernel
theorem dX12_part_10 : decode cX12_part 10 = .ok (.ireturn, 1) := by decide +kernel
theorem dX12_part_11 : decode cX12_part 11 = .ok (.aload_n 0, 1) := by decide +kernel
theorem dX12_part_12 : decode cX12_part 12 = .ok (.getfield 25, 3) := by decide +kernel
theorem dX12_part_15 : decode cX12_part 15 = .ok (.iconst 4, 1) := by decide +kernel
theorem dX12_part_16 : decode cX12_part 16 = .ok (.bipush 6, 2) := by decide +kernel
theorem dX12_part_18 : decode cX12_part 18 = .ok (.iload_n 1, 1) := by decide +kernel
theorem dX12_part_19 : decode cX12_part 19 = .ok (.imul, 1) := by decide +kernel
theorem dX12_part_20 : decode cX12_part 20 = .ok (.iadd, 1) := by decide +kernel
theorem dX12_part_21 : decode cX12_part 21 = .ok (.iconst 5, 1) := by decide +kernel
theorem dX12_part_22 : decode cX12_part 22 = .ok (.iadd, 1) := by decide +kernel
theorem dX12_part_23 : decode cX12_part 23 = .ok (.iaload, 1) := by decide +kernel
theorem dX12_part_24 : decode cX12_part 24 = .ok (.istore_n 2, 1) := by decide +kernel
theorem dX12_part_25 : decode cX12_part 25 = .ok (.iload_n 2, 1) := by decide +kernel
theorem dX12_part_26 : decode cX12_part 26 = .ok (.ldc 56, 2) := by decide +kernel
theorem dX12_part_28 : decode cX12_part 28 = .ok (.if_icmp .ne 6, 3) := by decide +kernel
theorem dX12_part_31 : decode cX12_part 31 = .ok (.ldc 176, 2) := by decide +kernel
theorem dX12_part_33 : decode cX12_part 33 = .ok (.ireturn, 1) := by decide +kernel
theorem dX12_part_34 : decode cX12_part 34 = .ok (.aload_n 0, 1) := by decide +kernel
theorem dX12_part_35 : decode cX12_part 35 = .ok (.invokevirtual 177, 3) := by decide +kernel
theorem dX12_part_38 : decode cX12_part 38 = .ok (.aload_n 0, 1) := by decide +kernel
theorem dX12_part_39 : decode cX12_part 39 = .ok (.getfield 25, 3) := by decide +kernel
theorem dX12_part_42 : decode cX12_part 42 = .ok (.iconst 4, 1) := by decide +kernel
theorem dX12_part_43 : decode cX12_part 43 = .ok (.bipush 6, 2) := by decide +kernel
theorem dX12_part_45 : decode cX12_part 45 = .ok (.iload_n 1, 1) := by decide +kernel
theorem dX12_part_46 : decode cX12_part 46 = .ok (.imul, 1) := by decide +kernel
theorem dX12_part_47 : decode cX12_part 47 = .ok (.iadd, 1) := by decide +kernel
theorem dX12_part_48 : decode cX12_part 48 = .ok (.iconst 5, 1) := by decide +kernel
theorem dX12_part_49 : decode cX12_part 49 = .ok (.iadd, 1) := by decide +kernel
theorem dX12_part_50 : decode cX12_part 50 = .ok (.ldc 56, 2) := by decide +kernel
theorem dX12_part_52 : decode cX12_part 52 = .ok (.iastore, 1) := by decide +kernel
theorem dX12_part_53 : decode cX12_part 53 = .ok (.aload_n 0, 1) := by decide +kernel
theorem dX12_part_54 : decode cX12_part 54 = .ok (.getfield 25, 3) := by decide +kernel
theorem dX12_part_57 : decode cX12_part 57 = .ok (.iconst 4, 1) := by decide +kernel
theorem dX12_part_58 : decode cX12_part 58 = .ok (.bipush 6, 2) := by decide +kernel
theorem dX12_part_60 : decode cX12_part 60 = .ok (.iload_n 2, 1) := by decide +kernel
theorem dX12_part_61 : decode cX12_part 61 = .ok (.imul, 1) := by decide +kernel
theorem dX12_part_62 : decode cX12_part 62 = .ok (.iadd, 1) := by decide +kernel
theorem dX12_part_63 : decode cX12_part 63 = .ok (.iconst 5, 1) := by decide +kernel
theorem dX12_part_64 : decode cX12_part 64 = .ok (.iadd, 1) := by decide +kernel
theorem dX12_part_65 : decode cX12_part 65 = .ok (.ldc 56, 2) := by decide +kernel
theorem dX12_part_67 : decode cX12_part 67 = .ok (.iastore, 1) := by decide +kernel
theorem dX12_part_68 : decode cX12_part 68 = .ok (.iload_n 2, 1) := by decide +kernel
theorem dX12_part_69 : decode cX12_part 69 = .ok (.ireturn, 1) := by decide +kernel
set_option maxRecDepth 20000 in
theorem ggX12_swap_X12_isTurnip : GoodIn wsX12_swap wsX12_isTurnip := goodIn_r _ [7, 2, 8, 9, 6, 10, 23, 24, 25, 26, 27, 28, 29, 30, 31, 32, 33, 34, 35, 36, 37, 38, 39, 40, 41, 42, 43, 44, 45, 46, 47] (by decide +kernel) (by decide +kernel)
set_option maxRecDepth 20000 in
theorem gX12_swap_X12_isTurnip : GoodIn wsX12_swap (wsV RX12 187 RX12 yX12_isTurnip wsX12_isTurnip) := goodIn_app (goodIn_of _ (by decide +kernel)) ggX12_swap_X12_isTurnip
set_option maxRecDepth 20000 in
theorem ggX12_swap_X12_notes : GoodIn wsX12_swap wsX12_notes := goodIn_r _ [14, 15, 16, 2, 17, 18, 6, 19, 23, 24, 25, 26, 27, 28, 29, 30, 31, 32, 33, 34, 35, 36, 37, 38, 39, 40, 41, 42, 43, 44, 45, 46, 47] (by decide +kernel) (by decide +kernel)
set_option maxRecDepth 20000 in
theorem gX12_swap_X12_notes : GoodIn wsX12_swap (wsV RX12 177 RX12 yX12_notes wsX12_notes) := goodIn_app (goodIn_of _ (by decide +kernel)) ggX12_swap_X12_notes
set_option maxRecDepth 20000 in
theorem ggX12_swap_X12_changes : GoodIn wsX12_swap wsX12_changes := goodIn_r _ [22] (by decide +kernel) (by decide +kernel)
set_option maxRecDepth 20000 in
theorem gX12_swap_X12_changes : GoodIn wsX12_swap (va_wsS RX12 194 yX12_changes wsX12_changes) := goodIn_app (goodIn_of _ (by decide +kernel)) ggX12_swap_X12_changes
theorem dX12_swap_0 : decode cX12_swap 0 = .ok (.aload_n 0, 1) := by decide +kernel
theorem dX12_swap_1 : decode cX12_swap 1 = .ok (.iload_n 1, 1) := by decide +kernel
theorem dX12_swap_2 : decode cX12_swap 2 = .ok (.invokevirtual 187, 3) := by decide +kernel
theorem dX12_swap_5 : decode cX12_swap 5 = .ok (.ifCond .eq 16, 3) := by decide +kernel
theorem dX12_swap_8 : decode cX12_swap 8 = .ok (.aload_n 0, 1) := by decide +kernel
theorem dX12_swap_9 : decode cX12_swap 9 = .ok (.iload_n 2, 1) := by decide +kernel
theorem dX12_swap_10 : decode cX12_swap 10 = .ok (.invokevirtual 187, 3) := by decide +kernel
theorem dX12_swap_13 : decode cX12_swap 13 = .ok (.ifCond .eq 8, 3) := by decide +kernel
theorem dX12_swap_16 : decode cX12_swap 16 = .ok (.iload_n 1, 1) := by decide +kernel
theorem dX12_swap_17 : decode cX12_swap 17 = .ok (.iload_n 2, 1) := by decide +kernel
theorem dX12_swap_18 : decode cX12_swap 18 = .ok (.if_icmp .ne 6, 3) := by decide +kernel
theorem dX12_swap_21 : decode cX12_swap 21 = .ok (.ldc 70, 2) := by decide +kernel
theorem dX12_swap_23 : decode cX12_swap 23 = .ok (.ireturn, 1) := by decide +kernel
theorem dX12_swap_24 : decode cX12_swap 24 = .ok (.aload_n 0, 1) := by decide +kernel
theorem dX12_swap_25 : decode cX12_swap 25 = .ok (.invokevirtual 177, 3) := by decide +kernel
theorem dX12_swap_28 : decode cX12_swap 28 = .ok (.aload_n 0, 1) := by decide +kernel
theorem dX12_swap_29 : decode cX12_swap 29 = .ok (.getfield 25, 3) := by decide +kernel
theorem dX12_swap_32 : decode cX12_swap 32 = .ok (.iload_n 1, 1) := by decide +kernel
theorem dX12_swap_33 : decode cX12_swap 33 = .ok (.iload_n 2, 1) := by decide +kernel
theorem dX12_swap_34 : decode cX12_swap 34 = .ok (.invokestatic 194, 3) := by decide +kernel
theorem dX12_swap_37 : decode cX12_swap 37 = .ok (.aload_n 0, 1) := by decide +kernel
theorem dX12_swap_38 : decode cX12_swap 38 = .ok (.getfield 25, 3) := by decide +kernel
theorem dX12_swap_41 : decode cX12_swap 41 = .ok (.iconst 4, 1) := by decide +kernel
theorem dX12_swap_42 : decode cX12_swap 42 = .ok (.bipush 6, 2) := by decide +kernel
theorem dX12_swap_44 : decode cX12_swap 44 = .ok (.iload_n 1, 1) := by decide +kernel
theorem dX12_swap_45 : decode cX12_swap 45 = .ok (.imul, 1) := by decide +kernel
theorem dX12_swap_46 : decode cX12_swap 46 = .ok (.iadd, 1) := by decide +kernel
theorem dX12_swap_47 : decode cX12_swap 47 = .ok (.iconst 3, 1) := by decide +kernel
theorem dX12_swap_48 : decode cX12_swap 48 = .ok (.iadd, 1) := by decide +kernel
theorem dX12_swap_49 : decode cX12_swap 49 = .ok (.iaload, 1) := by decide +kernel
theorem dX12_swap_50 : decode cX12_swap 50 = .ok (.ireturn, 1) := by decide +kernel
set_option maxRecDepth 20000 in
theorem ggX12_lean_X12_isTurnip : GoodIn wsX12_lean wsX12_isTurnip := goodIn_r _ [7, 2, 8, 9, 6, 10, 20, 21, 22, 23, 24, 25, 26, 27, 28, 29, 30, 31, 32, 33, 34, 35, 36, 37, 38, 39, 40, 41, 42, 43, 44] (by decide +kernel) (by decide +kernel)
set_option maxRecDepth 20000 in
theorem gX12_lean_X12_isTurnip : GoodIn wsX12_lean (wsV RX12 187 RX12 yX12_isTurnip wsX12_isTurnip) := goodIn_app (goodIn_of _ (by decide +kernel)) ggX12_lean_X12_isTurnip
set_option maxRecDepth 20000 in
theorem ggX12_lean_X12_notes : GoodIn wsX12_lean wsX12_notes := goodIn_r _ [14, 15, 16, 2, 17, 18, 6, 19, 20, 21, 22, 23, 24, 25, 26, 27, 28, 29, 30, 31, 32, 33, 34, 35, 36, 37, 38, 39, 40, 41, 42, 43, 44] (by decide +kernel) (by decide +kernel)
set_option maxRecDepth 20000 in
theorem gX12_lean_X12_notes : GoodIn wsX12_lean (wsV RX12 177 RX12 yX12_notes wsX12_notes) := goodIn_app (goodIn_of _ (by decide +kernel)) ggX12_lean_X12_notes
theorem dX12_lean_0 : decode cX12_lean 0 = .ok (.aload_n 0, 1) := by decide +kernel
theorem dX12_lean_1 : decode cX12_lean 1 = .ok (.iload_n 1, 1) := by decide +kernel
theorem dX12_lean_2 : decode cX12_lean 2 = .ok (.invokevirtual 187, 3) := by decide +kernel
theorem dX12_lean_5 : decode cX12_lean 5 = .ok (.ifCond .ne 6, 3) := by decide +kernel
theorem dX12_lean_8 : decode cX12_lean 8 = .ok (.ldc 70, 2) := by decide +kernel
theorem dX12_lean_10 : decode cX12_lean 10 = .ok (.ireturn, 1) := by decide +kernel
theorem dX12_lean_11 : decode cX12_lean 11 = .ok (.aload_n 0, 1) := by decide +kernel
theorem dX12_lean_12 : decode cX12_lean 12 = .ok (.invokevirtual 177, 3) := by decide +kernel
theorem dX12_lean_15 : decode cX12_lean 15 = .ok (.aload_n 0, 1) := by decide +kernel
theorem dX12_lean_16 : decode cX12_lean 16 = .ok (.getfield 25, 3) := by decide +kernel
theorem dX12_lean_19 : decode cX12_lean 19 = .ok (.iconst 4, 1) := by decide +kernel
theorem dX12_lean_20 : decode cX12_lean 20 = .ok (.bipush 6, 2) := by decide +kernel
theorem dX12_lean_22 : decode cX12_lean 22 = .ok (.iload_n 1, 1) := by decide +kernel
theorem dX12_lean_23 : decode cX12_lean 23 = .ok (.imul, 1) := by decide +kernel
theorem dX12_lean_24 : decode cX12_lean 24 = .ok (.iadd, 1) := by decide +kernel
theorem dX12_lean_25 : decode cX12_lean 25 = .ok (.iconst 4, 1) := by decide +kernel
theorem dX12_lean_26 : decode cX12_lean 26 = .ok (.iadd, 1) := by decide +kernel
theorem dX12_lean_27 : decode cX12_lean 27 = .ok (.iconst 1, 1) := by decide +kernel
theorem dX12_lean_28 : decode cX12_lean 28 = .ok (.aload_n 0, 1) := by decide +kernel
theorem dX12_lean_29 : decode cX12_lean 29 = .ok (.getfield 25, 3) := by decide +kernel
theorem dX12_lean_32 : decode cX12_lean 32 = .ok (.iconst 4, 1) := by decide +kernel
theorem dX12_lean_33 : decode cX12_lean 33 = .ok (.bipush 6, 2) := by decide +kernel
