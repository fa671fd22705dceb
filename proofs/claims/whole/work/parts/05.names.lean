theorem dX12_lean_35 : decode cX12_lean 35 = .ok (.iload_n 1, 1) := by decide +kernel
theorem dX12_lean_36 : decode cX12_lean 36 = .ok (.imul, 1) := by decide +kernel
theorem dX12_lean_37 : decode cX12_lean 37 = .ok (.iadd, 1) := by decide +kernel
theorem dX12_lean_38 : decode cX12_lean 38 = .ok (.iconst 4, 1) := by decide +kernel
theorem dX12_lean_39 : decode cX12_lean 39 = .ok (.iadd, 1) := by decide +kernel
theorem dX12_lean_40 : decode cX12_lean 40 = .ok (.iaload, 1) := by decide +kernel
theorem dX12_lean_41 : decode cX12_lean 41 = .ok (.isub, 1) := by decide +kernel
theorem dX12_lean_42 : decode cX12_lean 42 = .ok (.iastore, 1) := by decide +kernel
theorem dX12_lean_43 : decode cX12_lean 43 = .ok (.aload_n 0, 1) := by decide +kernel
theorem dX12_lean_44 : decode cX12_lean 44 = .ok (.getfield 25, 3) := by decide +kernel
theorem dX12_lean_47 : decode cX12_lean 47 = .ok (.iconst 4, 1) := by decide +kernel
theorem dX12_lean_48 : decode cX12_lean 48 = .ok (.bipush 6, 2) := by decide +kernel
theorem dX12_lean_50 : decode cX12_lean 50 = .ok (.iload_n 1, 1) := by decide +kernel
theorem dX12_lean_51 : decode cX12_lean 51 = .ok (.imul, 1) := by decide +kernel
theorem dX12_lean_52 : decode cX12_lean 52 = .ok (.iadd, 1) := by decide +kernel
theorem dX12_lean_53 : decode cX12_lean 53 = .ok (.iconst 4, 1) := by decide +kernel
theorem dX12_lean_54 : decode cX12_lean 54 = .ok (.iadd, 1) := by decide +kernel
theorem dX12_lean_55 : decode cX12_lean 55 = .ok (.iaload, 1) := by decide +kernel
theorem dX12_lean_56 : decode cX12_lean 56 = .ok (.ireturn, 1) := by decide +kernel
set_option maxRecDepth 20000 in
theorem ggX12_ground_X12_isField : GoodIn wsX12_ground wsX12_isField := goodIn_r _ [8, 3, 21, 22, 23, 24, 25, 26, 27, 28, 29, 30, 31, 32, 33, 34, 35, 36, 37, 38, 39, 40, 41, 42, 43, 44, 45] (by decide +kernel) (by decide +kernel)
set_option maxRecDepth 20000 in
theorem gX12_ground_X12_isField : GoodIn wsX12_ground (wsV RX12 173 RX12 yX12_isField wsX12_isField) := goodIn_app (goodIn_of _ (by decide +kernel)) ggX12_ground_X12_isField
set_option maxRecDepth 20000 in
theorem ggX12_ground_X12_in : GoodIn wsX12_ground wsX12_in := goodIn_r _ [11] (by decide +kernel) (by decide +kernel)
set_option maxRecDepth 20000 in
theorem gX12_ground_X12_in : GoodIn wsX12_ground (va_wsS RX12 62 yX12_in wsX12_in) := goodIn_app (goodIn_of _ (by decide +kernel)) ggX12_ground_X12_in
set_option maxRecDepth 20000 in
theorem ggX12_ground_X12_notes : GoodIn wsX12_ground wsX12_notes := goodIn_r _ [15, 16, 17, 3, 18, 19, 7, 20, 21, 22, 23, 24, 25, 26, 27, 28, 29, 30, 31, 32, 33, 34, 35, 36, 37, 38, 39, 40, 41, 42, 43, 44, 45] (by decide +kernel) (by decide +kernel)
set_option maxRecDepth 20000 in
theorem gX12_ground_X12_notes : GoodIn wsX12_ground (wsV RX12 177 RX12 yX12_notes wsX12_notes) := goodIn_app (goodIn_of _ (by decide +kernel)) ggX12_ground_X12_notes
theorem dX12_ground_0 : decode cX12_ground 0 = .ok (.aload_n 0, 1) := by decide +kernel
theorem dX12_ground_1 : decode cX12_ground 1 = .ok (.invokevirtual 173, 3) := by decide +kernel
theorem dX12_ground_4 : decode cX12_ground 4 = .ok (.ifCond .ne 6, 3) := by decide +kernel
theorem dX12_ground_7 : decode cX12_ground 7 = .ok (.ldc 176, 2) := by decide +kernel
theorem dX12_ground_9 : decode cX12_ground 9 = .ok (.ireturn, 1) := by decide +kernel
theorem dX12_ground_10 : decode cX12_ground 10 = .ok (.iload_n 1, 1) := by decide +kernel
theorem dX12_ground_11 : decode cX12_ground 11 = .ok (.iconst 1, 1) := by decide +kernel
theorem dX12_ground_12 : decode cX12_ground 12 = .ok (.bipush 9, 2) := by decide +kernel
theorem dX12_ground_14 : decode cX12_ground 14 = .ok (.invokestatic 62, 3) := by decide +kernel
theorem dX12_ground_17 : decode cX12_ground 17 = .ok (.ifCond .ne 6, 3) := by decide +kernel
theorem dX12_ground_20 : decode cX12_ground 20 = .ok (.ldc 70, 2) := by decide +kernel
theorem dX12_ground_22 : decode cX12_ground 22 = .ok (.ireturn, 1) := by decide +kernel
theorem dX12_ground_23 : decode cX12_ground 23 = .ok (.aload_n 0, 1) := by decide +kernel
theorem dX12_ground_24 : decode cX12_ground 24 = .ok (.invokevirtual 177, 3) := by decide +kernel
theorem dX12_ground_27 : decode cX12_ground 27 = .ok (.aload_n 0, 1) := by decide +kernel
theorem dX12_ground_28 : decode cX12_ground 28 = .ok (.getfield 25, 3) := by decide +kernel
theorem dX12_ground_31 : decode cX12_ground 31 = .ok (.iconst 0, 1) := by decide +kernel
theorem dX12_ground_32 : decode cX12_ground 32 = .ok (.iaload, 1) := by decide +kernel
theorem dX12_ground_33 : decode cX12_ground 33 = .ok (.istore_n 2, 1) := by decide +kernel
theorem dX12_ground_34 : decode cX12_ground 34 = .ok (.aload_n 0, 1) := by decide +kernel
theorem dX12_ground_35 : decode cX12_ground 35 = .ok (.getfield 25, 3) := by decide +kernel
theorem dX12_ground_38 : decode cX12_ground 38 = .ok (.iconst 0, 1) := by decide +kernel
theorem dX12_ground_39 : decode cX12_ground 39 = .ok (.iload_n 1, 1) := by decide +kernel
theorem dX12_ground_40 : decode cX12_ground 40 = .ok (.iastore, 1) := by decide +kernel
theorem dX12_ground_41 : decode cX12_ground 41 = .ok (.iload_n 2, 1) := by decide +kernel
theorem dX12_ground_42 : decode cX12_ground 42 = .ok (.ireturn, 1) := by decide +kernel
set_option maxRecDepth 20000 in
theorem ggX12_undo_X12_copies : GoodIn wsX12_undo wsX12_copies := goodIn_r _ [8] (by decide +kernel) (by decide +kernel)
set_option maxRecDepth 20000 in
theorem gX12_undo_X12_copies : GoodIn wsX12_undo (va_wsS RX12 141 yX12_copies wsX12_copies) := goodIn_app (goodIn_of _ (by decide +kernel)) ggX12_undo_X12_copies
theorem dX12_undo_0 : decode cX12_undo 0 = .ok (.aload_n 0, 1) := by decide +kernel
theorem dX12_undo_1 : decode cX12_undo 1 = .ok (.getfield 145, 3) := by decide +kernel
theorem dX12_undo_4 : decode cX12_undo 4 = .ok (.ifCond .ne 6, 3) := by decide +kernel
theorem dX12_undo_7 : decode cX12_undo 7 = .ok (.ldc 176, 2) := by decide +kernel
theorem dX12_undo_9 : decode cX12_undo 9 = .ok (.ireturn, 1) := by decide +kernel
theorem dX12_undo_10 : decode cX12_undo 10 = .ok (.aload_n 0, 1) := by decide +kernel
theorem dX12_undo_11 : decode cX12_undo 11 = .ok (.dup, 1) := by decide +kernel
theorem dX12_undo_12 : decode cX12_undo 12 = .ok (.getfield 145, 3) := by decide +kernel
theorem dX12_undo_15 : decode cX12_undo 15 = .ok (.iconst 1, 1) := by decide +kernel
theorem dX12_undo_16 : decode cX12_undo 16 = .ok (.isub, 1) := by decide +kernel
theorem dX12_undo_17 : decode cX12_undo 17 = .ok (.putfield 145, 3) := by decide +kernel
theorem dX12_undo_20 : decode cX12_undo 20 = .ok (.aload_n 0, 1) := by decide +kernel
theorem dX12_undo_21 : decode cX12_undo 21 = .ok (.getfield 34, 3) := by decide +kernel
theorem dX12_undo_24 : decode cX12_undo 24 = .ok (.bipush 46, 2) := by decide +kernel
theorem dX12_undo_26 : decode cX12_undo 26 = .ok (.aload_n 0, 1) := by decide +kernel
theorem dX12_undo_27 : decode cX12_undo 27 = .ok (.getfield 145, 3) := by decide +kernel
theorem dX12_undo_30 : decode cX12_undo 30 = .ok (.imul, 1) := by decide +kernel
theorem dX12_undo_31 : decode cX12_undo 31 = .ok (.aload_n 0, 1) := by decide +kernel
theorem dX12_undo_32 : decode cX12_undo 32 = .ok (.getfield 25, 3) := by decide +kernel
theorem dX12_undo_35 : decode cX12_undo 35 = .ok (.iconst 0, 1) := by decide +kernel
theorem dX12_undo_36 : decode cX12_undo 36 = .ok (.invokestatic 141, 3) := by decide +kernel
theorem dX12_undo_39 : decode cX12_undo 39 = .ok (.aload_n 0, 1) := by decide +kernel
theorem dX12_undo_40 : decode cX12_undo 40 = .ok (.getfield 145, 3) := by decide +kernel
theorem dX12_undo_43 : decode cX12_undo 43 = .ok (.ireturn, 1) := by decide +kernel
set_option maxRecDepth 20000 in
theorem ggX12_turnip_X12_isTurnip : GoodIn wsX12_turnip wsX12_isTurnip := goodIn_r _ [7, 2, 8, 9, 6, 10, 30, 31, 32, 33, 34, 35, 36, 37, 38, 39, 40, 41, 42, 43, 44, 45, 46, 47, 48, 49, 50, 51, 52, 53, 54] (by decide +kernel) (by decide +kernel)
set_option maxRecDepth 20000 in
theorem gX12_turnip_X12_isTurnip : GoodIn wsX12_turnip (wsV RX12 187 RX12 yX12_isTurnip wsX12_isTurnip) := goodIn_app (goodIn_of _ (by decide +kernel)) ggX12_turnip_X12_isTurnip
set_option maxRecDepth 20000 in
theorem ggX12_turnip_X12_in : GoodIn wsX12_turnip wsX12_in := goodIn_r _ [10] (by decide +kernel) (by decide +kernel)
set_option maxRecDepth 20000 in
theorem gX12_turnip_X12_in : GoodIn wsX12_turnip (va_wsS RX12 62 yX12_in wsX12_in) := goodIn_app (goodIn_of _ (by decide +kernel)) ggX12_turnip_X12_in
set_option maxRecDepth 20000 in
theorem ggX12_turnip_X12_gain : GoodIn wsX12_turnip wsX12_gain := goodIn_r _ [13, 14, 15, 16, 6, 17, 18, 19, 20, 21, 22, 23, 24, 25, 26, 27, 28, 29] (by decide +kernel) (by decide +kernel)
set_option maxRecDepth 20000 in
theorem gX12_turnip_X12_gain : GoodIn wsX12_turnip (va_wsS RX12 166 yX12_gain wsX12_gain) := goodIn_app (goodIn_of _ (by decide +kernel)) ggX12_turnip_X12_gain
theorem dX12_turnip_0 : decode cX12_turnip 0 = .ok (.aload_n 0, 1) := by decide +kernel
theorem dX12_turnip_1 : decode cX12_turnip 1 = .ok (.iload_n 1, 1) := by decide +kernel
theorem dX12_turnip_2 : decode cX12_turnip 2 = .ok (.invokevirtual 187, 3) := by decide +kernel
theorem dX12_turnip_5 : decode cX12_turnip 5 = .ok (.ifCond .eq 12, 3) := by decide +kernel
theorem dX12_turnip_8 : decode cX12_turnip 8 = .ok (.iload_n 2, 1) := by decide +kernel
theorem dX12_turnip_9 : decode cX12_turnip 9 = .ok (.iconst 0, 1) := by decide +kernel
theorem dX12_turnip_10 : decode cX12_turnip 10 = .ok (.iconst 5, 1) := by decide +kernel
theorem dX12_turnip_11 : decode cX12_turnip 11 = .ok (.invokestatic 62, 3) := by decide +kernel
theorem dX12_turnip_14 : decode cX12_turnip 14 = .ok (.ifCond .ne 6, 3) := by decide +kernel
theorem dX12_turnip_17 : decode cX12_turnip 17 = .ok (.ldc 70, 2) := by decide +kernel
theorem dX12_turnip_19 : decode cX12_turnip 19 = .ok (.ireturn, 1) := by decide +kernel
theorem dX12_turnip_20 : decode cX12_turnip 20 = .ok (.iload_n 2, 1) := by decide +kernel
theorem dX12_turnip_21 : decode cX12_turnip 21 = .ok (.iconst 5, 1) := by decide +kernel
theorem dX12_turnip_22 : decode cX12_turnip 22 = .ok (.if_icmp .ne 14, 3) := by decide +kernel
theorem dX12_turnip_25 : decode cX12_turnip 25 = .ok (.aload_n 0, 1) := by decide +kernel
theorem dX12_turnip_26 : decode cX12_turnip 26 = .ok (.getfield 25, 3) := by decide +kernel
theorem dX12_turnip_29 : decode cX12_turnip 29 = .ok (.iload_n 1, 1) := by decide +kernel
theorem dX12_turnip_30 : decode cX12_turnip 30 = .ok (.invokestatic 166, 3) := by decide +kernel
theorem dX12_turnip_33 : decode cX12_turnip 33 = .ok (.goto 18, 3) := by decide +kernel
theorem dX12_turnip_36 : decode cX12_turnip 36 = .ok (.aload_n 0, 1) := by decide +kernel
theorem dX12_turnip_37 : decode cX12_turnip 37 = .ok (.getfield 25, 3) := by decide +kernel
theorem dX12_turnip_40 : decode cX12_turnip 40 = .ok (.iconst 4, 1) := by decide +kernel
theorem dX12_turnip_41 : decode cX12_turnip 41 = .ok (.bipush 6, 2) := by decide +kernel
theorem dX12_turnip_43 : decode cX12_turnip 43 = .ok (.iload_n 1, 1) := by decide +kernel
theorem dX12_turnip_44 : decode cX12_turnip 44 = .ok (.imul, 1) := by decide +kernel
theorem dX12_turnip_45 : decode cX12_turnip 45 = .ok (.iadd, 1) := by decide +kernel
theorem dX12_turnip_46 : decode cX12_turnip 46 = .ok (.iconst 1, 1) := by decide +kernel
theorem dX12_turnip_47 : decode cX12_turnip 47 = .ok (.iadd, 1) := by decide +kernel
theorem dX12_turnip_48 : decode cX12_turnip 48 = .ok (.iload_n 2, 1) := by decide +kernel
theorem dX12_turnip_49 : decode cX12_turnip 49 = .ok (.iadd, 1) := by decide +kernel
theorem dX12_turnip_50 : decode cX12_turnip 50 = .ok (.iaload, 1) := by decide +kernel
theorem dX12_turnip_51 : decode cX12_turnip 51 = .ok (.ireturn, 1) := by decide +kernel
set_option maxRecDepth 20000 in
theorem ggX12_place_X12_isTurnip : GoodIn wsX12_place wsX12_isTurnip := goodIn_r _ [7, 1, 8, 9, 6, 10, 15, 16, 17, 18, 19, 20, 21, 22, 23, 24, 25, 26, 27, 28, 29, 30, 31, 32, 33, 34, 35, 36, 37, 38, 39] (by decide +kernel) (by decide +kernel)
set_option maxRecDepth 20000 in
theorem gX12_place_X12_isTurnip : GoodIn wsX12_place (wsV RX12 187 RX12 yX12_isTurnip wsX12_isTurnip) := goodIn_app (goodIn_of _ (by decide +kernel)) ggX12_place_X12_isTurnip
set_option maxRecDepth 20000 in
theorem ggX12_place_X12_inPlace : GoodIn wsX12_place wsX12_inPlace := goodIn_r _ [13, 14] (by decide +kernel) (by decide +kernel)
set_option maxRecDepth 20000 in
theorem gX12_place_X12_inPlace : GoodIn wsX12_place (va_wsS RX12 148 yX12_inPlace wsX12_inPlace) := goodIn_app (goodIn_of _ (by decide +kernel)) ggX12_place_X12_inPlace
theorem dX12_place_0 : decode cX12_place 0 = .ok (.aload_n 0, 1) := by decide +kernel
theorem dX12_place_1 : decode cX12_place 1 = .ok (.iload_n 1, 1) := by decide +kernel
theorem dX12_place_2 : decode cX12_place 2 = .ok (.invokevirtual 187, 3) := by decide +kernel
theorem dX12_place_5 : decode cX12_place 5 = .ok (.ifCond .eq 14, 3) := by decide +kernel
theorem dX12_place_8 : decode cX12_place 8 = .ok (.aload_n 0, 1) := by decide +kernel
theorem dX12_place_9 : decode cX12_place 9 = .ok (.getfield 25, 3) := by decide +kernel
theorem dX12_place_12 : decode cX12_place 12 = .ok (.iload_n 1, 1) := by decide +kernel
theorem dX12_place_13 : decode cX12_place 13 = .ok (.invokestatic 148, 3) := by decide +kernel
theorem dX12_place_16 : decode cX12_place 16 = .ok (.goto 5, 3) := by decide +kernel
theorem dX12_place_19 : decode cX12_place 19 = .ok (.ldc 70, 2) := by decide +kernel
theorem dX12_place_21 : decode cX12_place 21 = .ok (.ireturn, 1) := by decide +kernel
set_option maxRecDepth 20000 in
theorem ggX12_goesOn_X12_passes : GoodIn wsX12_goesOn wsX12_passes := goodIn_r _ [6, 7, 8, 9, 5, 10, 11, 12, 13, 14, 15, 16, 17, 18, 19, 20, 21, 22, 23, 24, 25, 26, 27, 28, 29, 30, 31, 32, 33, 34, 35, 36, 37, 38, 39, 40, 41, 42, 43, 44, 45, 46, 47, 48, 49, 50, 51, 52, 53, 54] (by decide +kernel) (by decide +kernel)
set_option maxRecDepth 20000 in
theorem gX12_goesOn_X12_passes : GoodIn wsX12_goesOn (wsV RX12 180 RX12 yX12_passes wsX12_passes) := goodIn_app (goodIn_of _ (by decide +kernel)) ggX12_goesOn_X12_passes
theorem dX12_goesOn_0 : decode cX12_goesOn 0 = .ok (.iconst 0, 1) := by decide +kernel
theorem dX12_goesOn_1 : decode cX12_goesOn 1 = .ok (.istore_n 2, 1) := by decide +kernel
theorem dX12_goesOn_2 : decode cX12_goesOn 2 = .ok (.iload_n 2, 1) := by decide +kernel
theorem dX12_goesOn_3 : decode cX12_goesOn 3 = .ok (.iload_n 1, 1) := by decide +kernel
theorem dX12_goesOn_4 : decode cX12_goesOn 4 = .ok (.if_icmp .ge 17, 3) := by decide +kernel
theorem dX12_goesOn_7 : decode cX12_goesOn 7 = .ok (.aload_n 0, 1) := by decide +kernel
theorem dX12_goesOn_8 : decode cX12_goesOn 8 = .ok (.aload_n 0, 1) := by decide +kernel
theorem dX12_goesOn_9 : decode cX12_goesOn 9 = .ok (.getfield 31, 3) := by decide +kernel
theorem dX12_goesOn_12 : decode cX12_goesOn 12 = .ok (.invokevirtual 180, 3) := by decide +kernel
theorem dX12_goesOn_15 : decode cX12_goesOn 15 = .ok (.iinc 2 1, 3) := by decide +kernel
theorem dX12_goesOn_18 : decode cX12_goesOn 18 = .ok (.goto (-16), 3) := by decide +kernel
theorem dX12_goesOn_21 : decode cX12_goesOn 21 = .ok (.return_, 1) := by decide +kernel
set_option maxRecDepth 20000 in
theorem ggX12_ahead_X12_isTurnip : GoodIn wsX12_ahead wsX12_isTurnip := goodIn_r _ [8, 2, 9, 10, 7, 11, 46, 47, 48, 49, 50, 51, 52, 53, 54, 55, 56, 57, 58, 59, 60, 61, 62, 63, 64, 65, 66, 67, 68, 69, 70] (by decide +kernel) (by decide +kernel)
set_option maxRecDepth 20000 in
theorem gX12_ahead_X12_isTurnip : GoodIn wsX12_ahead (wsV RX12 187 RX12 yX12_isTurnip wsX12_isTurnip) := goodIn_app (goodIn_of _ (by decide +kernel)) ggX12_ahead_X12_isTurnip
set_option maxRecDepth 20000 in
theorem ggX12_ahead_X12_in : GoodIn wsX12_ahead wsX12_in := goodIn_r _ [11] (by decide +kernel) (by decide +kernel)
set_option maxRecDepth 20000 in
theorem gX12_ahead_X12_in : GoodIn wsX12_ahead (va_wsS RX12 62 yX12_in wsX12_in) := goodIn_app (goodIn_of _ (by decide +kernel)) ggX12_ahead_X12_in
set_option maxRecDepth 20000 in
theorem ggX12_ahead_X12_copies : GoodIn wsX12_ahead wsX12_copies := goodIn_r _ [14] (by decide +kernel) (by decide +kernel)
set_option maxRecDepth 20000 in
theorem gX12_ahead_X12_copies : GoodIn wsX12_ahead (va_wsS RX12 141 yX12_copies wsX12_copies) := goodIn_app (goodIn_of _ (by decide +kernel)) ggX12_ahead_X12_copies
set_option maxRecDepth 20000 in
theorem ggX12_ahead_X12_goesOn : GoodIn wsX12_ahead wsX12_goesOn := goodIn_r _ [18, 3, 19, 20, 21, 7, 22, 23, 24, 25, 26, 27, 28, 29, 30, 31, 32, 33, 34, 35, 36, 37, 38, 39, 40, 41, 42, 43, 44, 45, 46, 47, 48, 49, 50, 51, 52, 53, 54, 55, 56, 57, 58, 59, 60, 61, 62, 63, 64, 65, 66, 67, 68, 69, 70] (by decide +kernel) (by decide +kernel)
set_option maxRecDepth 20000 in
theorem gX12_ahead_X12_goesOn : GoodIn wsX12_ahead (wsV RX12 197 RX12 yX12_goesOn wsX12_goesOn) := goodIn_app (goodIn_of _ (by decide +kernel)) ggX12_ahead_X12_goesOn
theorem dX12_ahead_0 : decode cX12_ahead 0 = .ok (.aload_n 0, 1) := by decide +kernel
theorem dX12_ahead_1 : decode cX12_ahead 1 = .ok (.iload_n 1, 1) := by decide +kernel
theorem dX12_ahead_2 : decode cX12_ahead 2 = .ok (.invokevirtual 187, 3) := by decide +kernel
theorem dX12_ahead_5 : decode cX12_ahead 5 = .ok (.ifCond .eq 22, 3) := by decide +kernel
theorem dX12_ahead_8 : decode cX12_ahead 8 = .ok (.iload_n 2, 1) := by decide +kernel
theorem dX12_ahead_9 : decode cX12_ahead 9 = .ok (.iconst 0, 1) := by decide +kernel
theorem dX12_ahead_10 : decode cX12_ahead 10 = .ok (.bipush 60, 2) := by decide +kernel
theorem dX12_ahead_12 : decode cX12_ahead 12 = .ok (.invokestatic 62, 3) := by decide +kernel
theorem dX12_ahead_15 : decode cX12_ahead 15 = .ok (.ifCond .eq 12, 3) := by decide +kernel
theorem dX12_ahead_18 : decode cX12_ahead 18 = .ok (.iload_n 3, 1) := by decide +kernel
theorem dX12_ahead_19 : decode cX12_ahead 19 = .ok (.iconst 0, 1) := by decide +kernel
theorem dX12_ahead_20 : decode cX12_ahead 20 = .ok (.iconst 1, 1) := by decide +kernel
theorem dX12_ahead_21 : decode cX12_ahead 21 = .ok (.invokestatic 62, 3) := by decide +kernel
theorem dX12_ahead_24 : decode cX12_ahead 24 = .ok (.ifCond .ne 6, 3) := by decide +kernel
theorem dX12_ahead_27 : decode cX12_ahead 27 = .ok (.ldc 70, 2) := by decide +kernel
theorem dX12_ahead_29 : decode cX12_ahead 29 = .ok (.ireturn, 1) := by decide +kernel
theorem dX12_ahead_30 : decode cX12_ahead 30 = .ok (.aload_n 0, 1) := by decide +kernel
theorem dX12_ahead_31 : decode cX12_ahead 31 = .ok (.getfield 25, 3) := by decide +kernel
theorem dX12_ahead_34 : decode cX12_ahead 34 = .ok (.iconst 0, 1) := by decide +kernel
theorem dX12_ahead_35 : decode cX12_ahead 35 = .ok (.aload_n 0, 1) := by decide +kernel
theorem dX12_ahead_36 : decode cX12_ahead 36 = .ok (.getfield 31, 3) := by decide +kernel
theorem dX12_ahead_39 : decode cX12_ahead 39 = .ok (.iconst 0, 1) := by decide +kernel
theorem dX12_ahead_40 : decode cX12_ahead 40 = .ok (.invokestatic 141, 3) := by decide +kernel
theorem dX12_ahead_43 : decode cX12_ahead 43 = .ok (.aload_n 0, 1) := by decide +kernel
theorem dX12_ahead_44 : decode cX12_ahead 44 = .ok (.iload_n 2, 1) := by decide +kernel
theorem dX12_ahead_45 : decode cX12_ahead 45 = .ok (.invokevirtual 197, 3) := by decide +kernel
theorem dX12_ahead_48 : decode cX12_ahead 48 = .ok (.aload_n 0, 1) := by decide +kernel
theorem dX12_ahead_49 : decode cX12_ahead 49 = .ok (.getfield 31, 3) := by decide +kernel
theorem dX12_ahead_52 : decode cX12_ahead 52 = .ok (.iconst 4, 1) := by decide +kernel
theorem dX12_ahead_53 : decode cX12_ahead 53 = .ok (.bipush 6, 2) := by decide +kernel
theorem dX12_ahead_55 : decode cX12_ahead 55 = .ok (.iload_n 1, 1) := by decide +kernel
theorem dX12_ahead_56 : decode cX12_ahead 56 = .ok (.imul, 1) := by decide +kernel
theorem dX12_ahead_57 : decode cX12_ahead 57 = .ok (.iadd, 1) := by decide +kernel
theorem dX12_ahead_58 : decode cX12_ahead 58 = .ok (.iload_n 3, 1) := by decide +kernel
theorem dX12_ahead_59 : decode cX12_ahead 59 = .ok (.ifCond .ne 7, 3) := by decide +kernel
theorem dX12_ahead_62 : decode cX12_ahead 62 = .ok (.iconst 1, 1) := by decide +kernel
theorem dX12_ahead_63 : decode cX12_ahead 63 = .ok (.goto 4, 3) := by decide +kernel
theorem dX12_ahead_66 : decode cX12_ahead 66 = .ok (.iconst 2, 1) := by decide +kernel
theorem dX12_ahead_67 : decode cX12_ahead 67 = .ok (.iadd, 1) := by decide +kernel
theorem dX12_ahead_68 : decode cX12_ahead 68 = .ok (.iaload, 1) := by decide +kernel
theorem dX12_ahead_69 : decode cX12_ahead 69 = .ok (.ireturn, 1) := by decide +kernel
set_option maxRecDepth 20000 in
theorem ggX12_risen_X12_isTurnip : GoodIn wsX12_risen wsX12_isTurnip := goodIn_r _ [9, 2, 10, 11, 8, 12, 42, 43, 44, 45, 46, 47, 48, 49, 50, 51, 52, 53, 54, 55, 56, 57, 58, 59, 60, 61, 62, 63, 64, 65, 66] (by decide +kernel) (by decide +kernel)
set_option maxRecDepth 20000 in
theorem gX12_risen_X12_isTurnip : GoodIn wsX12_risen (wsV RX12 187 RX12 yX12_isTurnip wsX12_isTurnip) := goodIn_app (goodIn_of _ (by decide +kernel)) ggX12_risen_X12_isTurnip
set_option maxRecDepth 20000 in
theorem ggX12_risen_X12_in : GoodIn wsX12_risen wsX12_in := goodIn_r _ [12] (by decide +kernel) (by decide +kernel)
set_option maxRecDepth 20000 in
theorem gX12_risen_X12_in : GoodIn wsX12_risen (va_wsS RX12 62 yX12_in wsX12_in) := goodIn_app (goodIn_of _ (by decide +kernel)) ggX12_risen_X12_in
set_option maxRecDepth 20000 in
theorem ggX12_risen_X12_copies : GoodIn wsX12_risen wsX12_copies := goodIn_r _ [15] (by decide +kernel) (by decide +kernel)
set_option maxRecDepth 20000 in
theorem gX12_risen_X12_copies : GoodIn wsX12_risen (va_wsS RX12 141 yX12_copies wsX12_copies) := goodIn_app (goodIn_of _ (by decide +kernel)) ggX12_risen_X12_copies
set_option maxRecDepth 20000 in
theorem ggX12_risen_X12_passes : GoodIn wsX12_risen wsX12_passes := goodIn_r _ [19, 20, 21, 22, 8, 23, 4, 24, 25, 26, 27, 28, 29, 30, 31, 32, 33, 34, 35, 36, 37, 38, 39, 40, 41, 42, 43, 44, 45, 46, 47, 48, 49, 50, 51, 52, 53, 54, 55, 56, 57, 58, 59, 60, 61, 62, 63, 64, 65, 66] (by decide +kernel) (by decide +kernel)
set_option maxRecDepth 20000 in
theorem gX12_risen_X12_passes : GoodIn wsX12_risen (wsV RX12 180 RX12 yX12_passes wsX12_passes) := goodIn_app (goodIn_of _ (by decide +kernel)) ggX12_risen_X12_passes
theorem dX12_risen_0 : decode cX12_risen 0 = .ok (.aload_n 0, 1) := by decide +kernel
theorem dX12_risen_1 : decode cX12_risen 1 = .ok (.iload_n 1, 1) := by decide +kernel
theorem dX12_risen_2 : decode cX12_risen 2 = .ok (.invokevirtual 187, 3) := by decide +kernel
theorem dX12_risen_5 : decode cX12_risen 5 = .ok (.ifCond .eq 13, 3) := by decide +kernel
theorem dX12_risen_8 : decode cX12_risen 8 = .ok (.iload_n 2, 1) := by decide +kernel
theorem dX12_risen_9 : decode cX12_risen 9 = .ok (.iconst 0, 1) := by decide +kernel
theorem dX12_risen_10 : decode cX12_risen 10 = .ok (.bipush 9, 2) := by decide +kernel
theorem dX12_risen_12 : decode cX12_risen 12 = .ok (.invokestatic 62, 3) := by decide +kernel
theorem dX12_risen_15 : decode cX12_risen 15 = .ok (.ifCond .ne 6, 3) := by decide +kernel
theorem dX12_risen_18 : decode cX12_risen 18 = .ok (.ldc 70, 2) := by decide +kernel
theorem dX12_risen_20 : decode cX12_risen 20 = .ok (.ireturn, 1) := by decide +kernel
theorem dX12_risen_21 : decode cX12_risen 21 = .ok (.aload_n 0, 1) := by decide +kernel
theorem dX12_risen_22 : decode cX12_risen 22 = .ok (.getfield 25, 3) := by decide +kernel
theorem dX12_risen_25 : decode cX12_risen 25 = .ok (.iconst 0, 1) := by decide +kernel
theorem dX12_risen_26 : decode cX12_risen 26 = .ok (.aload_n 0, 1) := by decide +kernel
theorem dX12_risen_27 : decode cX12_risen 27 = .ok (.getfield 31, 3) := by decide +kernel
theorem dX12_risen_30 : decode cX12_risen 30 = .ok (.iconst 0, 1) := by decide +kernel
theorem dX12_risen_31 : decode cX12_risen 31 = .ok (.invokestatic 141, 3) := by decide +kernel
theorem dX12_risen_34 : decode cX12_risen 34 = .ok (.iconst 0, 1) := by decide +kernel
theorem dX12_risen_35 : decode cX12_risen 35 = .ok (.istore_n 3, 1) := by decide +kernel
theorem dX12_risen_36 : decode cX12_risen 36 = .ok (.iload_n 3, 1) := by decide +kernel
theorem dX12_risen_37 : decode cX12_risen 37 = .ok (.bipush 61, 2) := by decide +kernel
theorem dX12_risen_39 : decode cX12_risen 39 = .ok (.if_icmp .ge 36, 3) := by decide +kernel
theorem dX12_risen_42 : decode cX12_risen 42 = .ok (.aload_n 0, 1) := by decide +kernel
theorem dX12_risen_43 : decode cX12_risen 43 = .ok (.getfield 31, 3) := by decide +kernel
theorem dX12_risen_46 : decode cX12_risen 46 = .ok (.iconst 4, 1) := by decide +kernel
theorem dX12_risen_47 : decode cX12_risen 47 = .ok (.bipush 6, 2) := by decide +kernel
theorem dX12_risen_49 : decode cX12_risen 49 = .ok (.iload_n 1, 1) := by decide +kernel
theorem dX12_risen_50 : decode cX12_risen 50 = .ok (.imul, 1) := by decide +kernel
theorem dX12_risen_51 : decode cX12_risen 51 = .ok (.iadd, 1) := by decide +kernel
theorem dX12_risen_52 : decode cX12_risen 52 = .ok (.iconst 1, 1) := by decide +kernel
theorem dX12_risen_53 : decode cX12_risen 53 = .ok (.iadd, 1) := by decide +kernel
theorem dX12_risen_54 : decode cX12_risen 54 = .ok (.iaload, 1) := by decide +kernel
theorem dX12_risen_55 : decode cX12_risen 55 = .ok (.iload_n 2, 1) := by decide +kernel
theorem dX12_risen_56 : decode cX12_risen 56 = .ok (.if_icmp .lt 5, 3) := by decide +kernel
theorem dX12_risen_59 : decode cX12_risen 59 = .ok (.iload_n 3, 1) := by decide +kernel
theorem dX12_risen_60 : decode cX12_risen 60 = .ok (.ireturn, 1) := by decide +kernel
theorem dX12_risen_61 : decode cX12_risen 61 = .ok (.aload_n 0, 1) := by decide +kernel
theorem dX12_risen_62 : decode cX12_risen 62 = .ok (.aload_n 0, 1) := by decide +kernel
theorem dX12_risen_63 : decode cX12_risen 63 = .ok (.getfield 31, 3) := by decide +kernel
theorem dX12_risen_66 : decode cX12_risen 66 = .ok (.invokevirtual 180, 3) := by decide +kernel
theorem dX12_risen_69 : decode cX12_risen 69 = .ok (.iinc 3 1, 3) := by decide +kernel
theorem dX12_risen_72 : decode cX12_risen 72 = .ok (.goto (-36), 3) := by decide +kernel
theorem dX12_risen_75 : decode cX12_risen 75 = .ok (.ldc 56, 2) := by decide +kernel
theorem dX12_risen_77 : decode cX12_risen 77 = .ok (.ireturn, 1) := by decide +kernel
set_option maxRecDepth 20000 in
theorem ggX12_squire_X12_isField : GoodIn wsX12_squire wsX12_isField := goodIn_r _ [10, 3, 43, 44, 45, 46, 47, 48, 49, 50, 51, 52, 53, 54, 55, 56, 57, 58, 59, 60, 61, 62, 63, 64, 65, 66, 67] (by decide +kernel) (by decide +kernel)
set_option maxRecDepth 20000 in
theorem gX12_squire_X12_isField : GoodIn wsX12_squire (wsV RX12 173 RX12 yX12_isField wsX12_isField) := goodIn_app (goodIn_of _ (by decide +kernel)) ggX12_squire_X12_isField
set_option maxRecDepth 20000 in
theorem ggX12_squire_X12_in : GoodIn wsX12_squire wsX12_in := goodIn_r _ [13] (by decide +kernel) (by decide +kernel)
set_option maxRecDepth 20000 in
theorem gX12_squire_X12_in : GoodIn wsX12_squire (va_wsS RX12 62 yX12_in wsX12_in) := goodIn_app (goodIn_of _ (by decide +kernel)) ggX12_squire_X12_in
set_option maxRecDepth 20000 in
theorem ggX12_squire_X12_copies : GoodIn wsX12_squire wsX12_copies := goodIn_r _ [16] (by decide +kernel) (by decide +kernel)
set_option maxRecDepth 20000 in
theorem gX12_squire_X12_copies : GoodIn wsX12_squire (va_wsS RX12 141 yX12_copies wsX12_copies) := goodIn_app (goodIn_of _ (by decide +kernel)) ggX12_squire_X12_copies
set_option maxRecDepth 20000 in
theorem ggX12_squire_X12_passes : GoodIn wsX12_squire wsX12_passes := goodIn_r _ [20, 21, 22, 23, 9, 24, 5, 25, 26, 27, 28, 29, 30, 31, 32, 33, 34, 35, 36, 37, 38, 39, 40, 41, 42, 43, 44, 45, 46, 47, 48, 49, 50, 51, 52, 53, 54, 55, 56, 57, 58, 59, 60, 61, 62, 63, 64, 65, 66, 67] (by decide +kernel) (by decide +kernel)
set_option maxRecDepth 20000 in
theorem gX12_squire_X12_passes : GoodIn wsX12_squire (wsV RX12 180 RX12 yX12_passes wsX12_passes) := goodIn_app (goodIn_of _ (by decide +kernel)) ggX12_squire_X12_passes
theorem dX12_squire_0 : decode cX12_squire 0 = .ok (.aload_n 0, 1) := by decide +kernel
theorem dX12_squire_1 : decode cX12_squire 1 = .ok (.invokevirtual 173, 3) := by decide +kernel
theorem dX12_squire_4 : decode cX12_squire 4 = .ok (.ifCond .ne 6, 3) := by decide +kernel
theorem dX12_squire_7 : decode cX12_squire 7 = .ok (.ldc 176, 2) := by decide +kernel
theorem dX12_squire_9 : decode cX12_squire 9 = .ok (.ireturn, 1) := by decide +kernel
theorem dX12_squire_10 : decode cX12_squire 10 = .ok (.iload_n 1, 1) := by decide +kernel
theorem dX12_squire_11 : decode cX12_squire 11 = .ok (.iconst 0, 1) := by decide +kernel
theorem dX12_squire_12 : decode cX12_squire 12 = .ok (.iconst 1, 1) := by decide +kernel
theorem dX12_squire_13 : decode cX12_squire 13 = .ok (.invokestatic 62, 3) := by decide +kernel
theorem dX12_squire_16 : decode cX12_squire 16 = .ok (.ifCond .ne 6, 3) := by decide +kernel
theorem dX12_squire_19 : decode cX12_squire 19 = .ok (.ldc 70, 2) := by decide +kernel
theorem dX12_squire_21 : decode cX12_squire 21 = .ok (.ireturn, 1) := by decide +kernel
theorem dX12_squire_22 : decode cX12_squire 22 = .ok (.aload_n 0, 1) := by decide +kernel
theorem dX12_squire_23 : decode cX12_squire 23 = .ok (.getfield 25, 3) := by decide +kernel
theorem dX12_squire_26 : decode cX12_squire 26 = .ok (.iconst 0, 1) := by decide +kernel
theorem dX12_squire_27 : decode cX12_squire 27 = .ok (.aload_n 0, 1) := by decide +kernel
theorem dX12_squire_28 : decode cX12_squire 28 = .ok (.getfield 31, 3) := by decide +kernel
theorem dX12_squire_31 : decode cX12_squire 31 = .ok (.iconst 0, 1) := by decide +kernel
theorem dX12_squire_32 : decode cX12_squire 32 = .ok (.invokestatic 141, 3) := by decide +kernel
theorem dX12_squire_35 : decode cX12_squire 35 = .ok (.iconst 0, 1) := by decide +kernel
theorem dX12_squire_36 : decode cX12_squire 36 = .ok (.istore_n 2, 1) := by decide +kernel
theorem dX12_squire_37 : decode cX12_squire 37 = .ok (.iload_n 2, 1) := by decide +kernel
theorem dX12_squire_38 : decode cX12_squire 38 = .ok (.bipush 61, 2) := by decide +kernel
theorem dX12_squire_40 : decode cX12_squire 40 = .ok (.if_icmp .ge 63, 3) := by decide +kernel
theorem dX12_squire_43 : decode cX12_squire 43 = .ok (.iconst 0, 1) := by decide +kernel
theorem dX12_squire_44 : decode cX12_squire 44 = .ok (.istore_n 3, 1) := by decide +kernel
theorem dX12_squire_45 : decode cX12_squire 45 = .ok (.iload_n 3, 1) := by decide +kernel
theorem dX12_squire_46 : decode cX12_squire 46 = .ok (.aload_n 0, 1) := by decide +kernel
theorem dX12_squire_47 : decode cX12_squire 47 = .ok (.getfield 25, 3) := by decide +kernel
theorem dX12_squire_50 : decode cX12_squire 50 = .ok (.iconst 2, 1) := by decide +kernel
theorem dX12_squire_51 : decode cX12_squire 51 = .ok (.iaload, 1) := by decide +kernel
theorem dX12_squire_52 : decode cX12_squire 52 = .ok (.if_icmp .ge 37, 3) := by decide +kernel
theorem dX12_squire_55 : decode cX12_squire 55 = .ok (.aload_n 0, 1) := by decide +kernel
theorem dX12_squire_56 : decode cX12_squire 56 = .ok (.getfield 31, 3) := by decide +kernel
theorem dX12_squire_59 : decode cX12_squire 59 = .ok (.iconst 4, 1) := by decide +kernel
theorem dX12_squire_60 : decode cX12_squire 60 = .ok (.bipush 6, 2) := by decide +kernel
theorem dX12_squire_62 : decode cX12_squire 62 = .ok (.iload_n 3, 1) := by decide +kernel
theorem dX12_squire_63 : decode cX12_squire 63 = .ok (.imul, 1) := by decide +kernel
theorem dX12_squire_64 : decode cX12_squire 64 = .ok (.iadd, 1) := by decide +kernel
theorem dX12_squire_65 : decode cX12_squire 65 = .ok (.iconst 1, 1) := by decide +kernel
theorem dX12_squire_66 : decode cX12_squire 66 = .ok (.iadd, 1) := by decide +kernel
theorem dX12_squire_67 : decode cX12_squire 67 = .ok (.iaload, 1) := by decide +kernel
theorem dX12_squire_68 : decode cX12_squire 68 = .ok (.bipush 9, 2) := by decide +kernel
theorem dX12_squire_70 : decode cX12_squire 70 = .ok (.if_icmp .ne 13, 3) := by decide +kernel
theorem dX12_squire_73 : decode cX12_squire 73 = .ok (.iload_n 1, 1) := by decide +kernel
theorem dX12_squire_74 : decode cX12_squire 74 = .ok (.ifCond .ne 7, 3) := by decide +kernel
theorem dX12_squire_77 : decode cX12_squire 77 = .ok (.iload_n 3, 1) := by decide +kernel
theorem dX12_squire_78 : decode cX12_squire 78 = .ok (.goto 4, 3) := by decide +kernel
theorem dX12_squire_81 : decode cX12_squire 81 = .ok (.iload_n 2, 1) := by decide +kernel
theorem dX12_squire_82 : decode cX12_squire 82 = .ok (.ireturn, 1) := by decide +kernel
theorem dX12_squire_83 : decode cX12_squire 83 = .ok (.iinc 3 1, 3) := by decide +kernel
theorem dX12_squire_86 : decode cX12_squire 86 = .ok (.goto (-41), 3) := by decide +kernel
theorem dX12_squire_89 : decode cX12_squire 89 = .ok (.aload_n 0, 1) := by decide +kernel
theorem dX12_squire_90 : decode cX12_squire 90 = .ok (.aload_n 0, 1) := by decide +kernel
theorem dX12_squire_91 : decode cX12_squire 91 = .ok (.getfield 31, 3) := by decide +kernel
theorem dX12_squire_94 : decode cX12_squire 94 = .ok (.invokevirtual 180, 3) := by decide +kernel
theorem dX12_squire_97 : decode cX12_squire 97 = .ok (.iinc 2 1, 3) := by decide +kernel
theorem dX12_squire_100 : decode cX12_squire 100 = .ok (.goto (-63), 3) := by decide +kernel
theorem dX12_squire_103 : decode cX12_squire 103 = .ok (.ldc 56, 2) := by decide +kernel
theorem dX12_squire_105 : decode cX12_squire 105 = .ok (.ireturn, 1) := by decide +kernel
theorem dX12_isFree_0 : decode cX12_isFree 0 = .ok (.iconst 1, 1) := by decide +kernel
theorem dX12_isFree_1 : decode cX12_isFree 1 = .ok (.istore_n 3, 1) := by decide +kernel
theorem dX12_isFree_2 : decode cX12_isFree 2 = .ok (.iconst 0, 1) := by decide +kernel
theorem dX12_isFree_3 : decode cX12_isFree 3 = .ok (.istore 4, 2) := by decide +kernel
theorem dX12_isFree_5 : decode cX12_isFree 5 = .ok (.iload 4, 2) := by decide +kernel
theorem dX12_isFree_7 : decode cX12_isFree 7 = .ok (.iload_n 2, 1) := by decide +kernel
theorem dX12_isFree_8 : decode cX12_isFree 8 = .ok (.if_icmp .ge 30, 3) := by decide +kernel
theorem dX12_isFree_11 : decode cX12_isFree 11 = .ok (.iload_n 3, 1) := by decide +kernel
theorem dX12_isFree_12 : decode cX12_isFree 12 = .ok (.ifCond .eq 18, 3) := by decide +kernel
theorem dX12_isFree_15 : decode cX12_isFree 15 = .ok (.aload_n 0, 1) := by decide +kernel
theorem dX12_isFree_16 : decode cX12_isFree 16 = .ok (.getfield 47, 3) := by decide +kernel
theorem dX12_isFree_19 : decode cX12_isFree 19 = .ok (.iload 4, 2) := by decide +kernel
theorem dX12_isFree_21 : decode cX12_isFree 21 = .ok (.iaload, 1) := by decide +kernel
theorem dX12_isFree_22 : decode cX12_isFree 22 = .ok (.iload_n 1, 1) := by decide +kernel
theorem dX12_isFree_23 : decode cX12_isFree 23 = .ok (.if_icmp .eq 7, 3) := by decide +kernel
theorem dX12_isFree_26 : decode cX12_isFree 26 = .ok (.iconst 1, 1) := by decide +kernel
theorem dX12_isFree_27 : decode cX12_isFree 27 = .ok (.goto 4, 3) := by decide +kernel
theorem dX12_isFree_30 : decode cX12_isFree 30 = .ok (.iconst 0, 1) := by decide +kernel
theorem dX12_isFree_31 : decode cX12_isFree 31 = .ok (.istore_n 3, 1) := by decide +kernel
theorem dX12_isFree_32 : decode cX12_isFree 32 = .ok (.iinc 4 1, 3) := by decide +kernel
theorem dX12_isFree_35 : decode cX12_isFree 35 = .ok (.goto (-30), 3) := by decide +kernel
theorem dX12_isFree_38 : decode cX12_isFree 38 = .ok (.iload_n 3, 1) := by decide +kernel
theorem dX12_isFree_39 : decode cX12_isFree 39 = .ok (.ireturn, 1) := by decide +kernel
set_option maxRecDepth 20000 in
theorem ggX12_marries_X12_isFree : GoodIn wsX12_marries wsX12_isFree := goodIn_r _ [8, 2, 12, 13, 14, 15, 16, 17, 18, 19, 20, 21, 22, 23, 24, 25, 26, 27, 28, 29, 30, 31, 32, 33, 34, 35, 36] (by decide +kernel) (by decide +kernel)
set_option maxRecDepth 20000 in
theorem gX12_marries_X12_isFree : GoodIn wsX12_marries (wsV RX12 201 RX12 yX12_isFree wsX12_isFree) := goodIn_app (goodIn_of _ (by decide +kernel)) ggX12_marries_X12_isFree
set_option maxRecDepth 20000 in
theorem ggX12_marries_X12_in : GoodIn wsX12_marries wsX12_in := goodIn_r _ [11] (by decide +kernel) (by decide +kernel)
set_option maxRecDepth 20000 in
theorem gX12_marries_X12_in : GoodIn wsX12_marries (va_wsS RX12 62 yX12_in wsX12_in) := goodIn_app (goodIn_of _ (by decide +kernel)) ggX12_marries_X12_in
theorem dX12_marries_0 : decode cX12_marries 0 = .ok (.aload_n 0, 1) := by decide +kernel
theorem dX12_marries_1 : decode cX12_marries 1 = .ok (.getfield 25, 3) := by decide +kernel
theorem dX12_marries_4 : decode cX12_marries 4 = .ok (.iconst 2, 1) := by decide +kernel
theorem dX12_marries_5 : decode cX12_marries 5 = .ok (.iaload, 1) := by decide +kernel
theorem dX12_marries_6 : decode cX12_marries 6 = .ok (.iconst 1, 1) := by decide +kernel
theorem dX12_marries_7 : decode cX12_marries 7 = .ok (.isub, 1) := by decide +kernel
theorem dX12_marries_8 : decode cX12_marries 8 = .ok (.istore_n 1, 1) := by decide +kernel
theorem dX12_marries_9 : decode cX12_marries 9 = .ok (.iload_n 1, 1) := by decide +kernel
theorem dX12_marries_10 : decode cX12_marries 10 = .ok (.ifCond .lt 137, 3) := by decide +kernel
theorem dX12_marries_13 : decode cX12_marries 13 = .ok (.aload_n 0, 1) := by decide +kernel
theorem dX12_marries_14 : decode cX12_marries 14 = .ok (.getfield 47, 3) := by decide +kernel
theorem dX12_marries_17 : decode cX12_marries 17 = .ok (.iload_n 1, 1) := by decide +kernel
theorem dX12_marries_18 : decode cX12_marries 18 = .ok (.iaload, 1) := by decide +kernel
theorem dX12_marries_19 : decode cX12_marries 19 = .ok (.ldc 56, 2) := by decide +kernel
theorem dX12_marries_21 : decode cX12_marries 21 = .ok (.if_icmp .ne 7, 3) := by decide +kernel
theorem dX12_marries_24 : decode cX12_marries 24 = .ok (.iload_n 1, 1) := by decide +kernel
theorem dX12_marries_25 : decode cX12_marries 25 = .ok (.goto 9, 3) := by decide +kernel
theorem dX12_marries_28 : decode cX12_marries 28 = .ok (.aload_n 0, 1) := by decide +kernel
theorem dX12_marries_29 : decode cX12_marries 29 = .ok (.getfield 47, 3) := by decide +kernel
theorem dX12_marries_32 : decode cX12_marries 32 = .ok (.iload_n 1, 1) := by decide +kernel
theorem dX12_marries_33 : decode cX12_marries 33 = .ok (.iaload, 1) := by decide +kernel
theorem dX12_marries_34 : decode cX12_marries 34 = .ok (.istore_n 2, 1) := by decide +kernel
theorem dX12_marries_35 : decode cX12_marries 35 = .ok (.iload_n 2, 1) := by decide +kernel
theorem dX12_marries_36 : decode cX12_marries 36 = .ok (.iconst 1, 1) := by decide +kernel
theorem dX12_marries_37 : decode cX12_marries 37 = .ok (.iadd, 1) := by decide +kernel
theorem dX12_marries_38 : decode cX12_marries 38 = .ok (.istore_n 3, 1) := by decide +kernel
theorem dX12_marries_39 : decode cX12_marries 39 = .ok (.iload_n 3, 1) := by decide +kernel
theorem dX12_marries_40 : decode cX12_marries 40 = .ok (.aload_n 0, 1) := by decide +kernel
theorem dX12_marries_41 : decode cX12_marries 41 = .ok (.getfield 25, 3) := by decide +kernel
theorem dX12_marries_44 : decode cX12_marries 44 = .ok (.iconst 2, 1) := by decide +kernel
theorem dX12_marries_45 : decode cX12_marries 45 = .ok (.iaload, 1) := by decide +kernel
theorem dX12_marries_46 : decode cX12_marries 46 = .ok (.if_icmp .ge 95, 3) := by decide +kernel
theorem dX12_marries_49 : decode cX12_marries 49 = .ok (.iload_n 2, 1) := by decide +kernel
theorem dX12_marries_50 : decode cX12_marries 50 = .ok (.iload_n 1, 1) := by decide +kernel
theorem dX12_marries_51 : decode cX12_marries 51 = .ok (.if_icmp .lt 90, 3) := by decide +kernel
theorem dX12_marries_54 : decode cX12_marries 54 = .ok (.aload_n 0, 1) := by decide +kernel
theorem dX12_marries_55 : decode cX12_marries 55 = .ok (.iload_n 3, 1) := by decide +kernel
theorem dX12_marries_56 : decode cX12_marries 56 = .ok (.iload_n 1, 1) := by decide +kernel
theorem dX12_marries_57 : decode cX12_marries 57 = .ok (.invokevirtual 201, 3) := by decide +kernel
theorem dX12_marries_60 : decode cX12_marries 60 = .ok (.ifCond .eq 75, 3) := by decide +kernel
theorem dX12_marries_63 : decode cX12_marries 63 = .ok (.iload_n 1, 1) := by decide +kernel
theorem dX12_marries_64 : decode cX12_marries 64 = .ok (.istore 4, 2) := by decide +kernel
theorem dX12_marries_66 : decode cX12_marries 66 = .ok (.iload 4, 2) := by decide +kernel
theorem dX12_marries_68 : decode cX12_marries 68 = .ok (.aload_n 0, 1) := by decide +kernel
theorem dX12_marries_69 : decode cX12_marries 69 = .ok (.getfield 25, 3) := by decide +kernel
theorem dX12_marries_72 : decode cX12_marries 72 = .ok (.iconst 2, 1) := by decide +kernel
theorem dX12_marries_73 : decode cX12_marries 73 = .ok (.iaload, 1) := by decide +kernel
theorem dX12_marries_74 : decode cX12_marries 74 = .ok (.if_icmp .ge 45, 3) := by decide +kernel
theorem dX12_marries_77 : decode cX12_marries 77 = .ok (.aload_n 0, 1) := by decide +kernel
theorem dX12_marries_78 : decode cX12_marries 78 = .ok (.getfield 47, 3) := by decide +kernel
theorem dX12_marries_81 : decode cX12_marries 81 = .ok (.iload 4, 2) := by decide +kernel
theorem dX12_marries_83 : decode cX12_marries 83 = .ok (.aload_n 0, 1) := by decide +kernel
theorem dX12_marries_84 : decode cX12_marries 84 = .ok (.getfield 47, 3) := by decide +kernel
theorem dX12_marries_87 : decode cX12_marries 87 = .ok (.iload 4, 2) := by decide +kernel
theorem dX12_marries_89 : decode cX12_marries 89 = .ok (.iaload, 1) := by decide +kernel
theorem dX12_marries_90 : decode cX12_marries 90 = .ok (.iconst 0, 1) := by decide +kernel
theorem dX12_marries_91 : decode cX12_marries 91 = .ok (.iload_n 1, 1) := by decide +kernel
theorem dX12_marries_92 : decode cX12_marries 92 = .ok (.iconst 1, 1) := by decide +kernel
theorem dX12_marries_93 : decode cX12_marries 93 = .ok (.isub, 1) := by decide +kernel
theorem dX12_marries_94 : decode cX12_marries 94 = .ok (.invokestatic 62, 3) := by decide +kernel
theorem dX12_marries_97 : decode cX12_marries 97 = .ok (.ifCond .eq 13, 3) := by decide +kernel
theorem dX12_marries_100 : decode cX12_marries 100 = .ok (.aload_n 0, 1) := by decide +kernel
theorem dX12_marries_101 : decode cX12_marries 101 = .ok (.getfield 47, 3) := by decide +kernel
theorem dX12_marries_104 : decode cX12_marries 104 = .ok (.iload 4, 2) := by decide +kernel
theorem dX12_marries_106 : decode cX12_marries 106 = .ok (.iaload, 1) := by decide +kernel
theorem dX12_marries_107 : decode cX12_marries 107 = .ok (.goto 5, 3) := by decide +kernel
theorem dX12_marries_110 : decode cX12_marries 110 = .ok (.ldc 56, 2) := by decide +kernel
theorem dX12_marries_112 : decode cX12_marries 112 = .ok (.iastore, 1) := by decide +kernel
theorem dX12_marries_113 : decode cX12_marries 113 = .ok (.iinc 4 1, 3) := by decide +kernel
theorem dX12_marries_116 : decode cX12_marries 116 = .ok (.goto (-50), 3) := by decide +kernel
theorem dX12_marries_119 : decode cX12_marries 119 = .ok (.aload_n 0, 1) := by decide +kernel
theorem dX12_marries_120 : decode cX12_marries 120 = .ok (.getfield 47, 3) := by decide +kernel
theorem dX12_marries_123 : decode cX12_marries 123 = .ok (.iload_n 1, 1) := by decide +kernel
theorem dX12_marries_124 : decode cX12_marries 124 = .ok (.iload_n 3, 1) := by decide +kernel
theorem dX12_marries_125 : decode cX12_marries 125 = .ok (.iastore, 1) := by decide +kernel
theorem dX12_marries_126 : decode cX12_marries 126 = .ok (.aload_n 0, 1) := by decide +kernel
theorem dX12_marries_127 : decode cX12_marries 127 = .ok (.getfield 47, 3) := by decide +kernel
theorem dX12_marries_130 : decode cX12_marries 130 = .ok (.iload_n 3, 1) := by decide +kernel
theorem dX12_marries_131 : decode cX12_marries 131 = .ok (.iload_n 1, 1) := by decide +kernel
theorem dX12_marries_132 : decode cX12_marries 132 = .ok (.iastore, 1) := by decide +kernel
theorem dX12_marries_133 : decode cX12_marries 133 = .ok (.iconst 1, 1) := by decide +kernel
theorem dX12_marries_134 : decode cX12_marries 134 = .ok (.ireturn, 1) := by decide +kernel
theorem dX12_marries_135 : decode cX12_marries 135 = .ok (.iinc 3 1, 3) := by decide +kernel
theorem dX12_marries_138 : decode cX12_marries 138 = .ok (.goto (-99), 3) := by decide +kernel
theorem dX12_marries_141 : decode cX12_marries 141 = .ok (.iinc 1 (-1), 3) := by decide +kernel
theorem dX12_marries_144 : decode cX12_marries 144 = .ok (.goto (-135), 3) := by decide +kernel
theorem dX12_marries_147 : decode cX12_marries 147 = .ok (.iconst 0, 1) := by decide +kernel
theorem dX12_marries_148 : decode cX12_marries 148 = .ok (.ireturn, 1) := by decide +kernel
set_option maxRecDepth 20000 in
theorem ggX12_pairs_X12_isField : GoodIn wsX12_pairs wsX12_isField := goodIn_r _ [12, 5, 64, 65, 66, 67, 68, 69, 70, 71, 72, 73, 74, 75, 76, 77, 78, 79, 80, 81, 82, 83, 84, 85, 86, 87, 88] (by decide +kernel) (by decide +kernel)
set_option maxRecDepth 20000 in
theorem gX12_pairs_X12_isField : GoodIn wsX12_pairs (wsV RX12 173 RX12 yX12_isField wsX12_isField) := goodIn_app (goodIn_of _ (by decide +kernel)) ggX12_pairs_X12_isField
set_option maxRecDepth 20000 in
theorem ggX12_pairs_X12_in : GoodIn wsX12_pairs wsX12_in := goodIn_r _ [15] (by decide +kernel) (by decide +kernel)
set_option maxRecDepth 20000 in
theorem gX12_pairs_X12_in : GoodIn wsX12_pairs (va_wsS RX12 62 yX12_in wsX12_in) := goodIn_app (goodIn_of _ (by decide +kernel)) ggX12_pairs_X12_in
set_option maxRecDepth 20000 in
theorem ggX12_pairs_X12_isTurnip : GoodIn wsX12_pairs wsX12_isTurnip := goodIn_r _ [19, 5, 13, 14, 11, 15, 64, 65, 66, 67, 68, 69, 70, 71, 72, 73, 74, 75, 76, 77, 78, 79, 80, 81, 82, 83, 84, 85, 86, 87, 88] (by decide +kernel) (by decide +kernel)
set_option maxRecDepth 20000 in
theorem gX12_pairs_X12_isTurnip : GoodIn wsX12_pairs (wsV RX12 187 RX12 yX12_isTurnip wsX12_isTurnip) := goodIn_app (goodIn_of _ (by decide +kernel)) ggX12_pairs_X12_isTurnip
set_option maxRecDepth 20000 in
theorem ggX12_pairs_X12_copies : GoodIn wsX12_pairs wsX12_copies := goodIn_r _ [22] (by decide +kernel) (by decide +kernel)
set_option maxRecDepth 20000 in
theorem gX12_pairs_X12_copies : GoodIn wsX12_pairs (va_wsS RX12 141 yX12_copies wsX12_copies) := goodIn_app (goodIn_of _ (by decide +kernel)) ggX12_pairs_X12_copies
set_option maxRecDepth 20000 in
theorem ggX12_pairs_X12_goesOn : GoodIn wsX12_pairs wsX12_goesOn := goodIn_r _ [26, 6, 27, 28, 29, 11, 30, 31, 32, 33, 34, 4, 35, 36, 37, 38, 39, 40, 41, 42, 43, 44, 45, 46, 47, 48, 49, 50, 51, 52, 64, 65, 66, 67, 68, 69, 70, 71, 72, 73, 74, 75, 76, 77, 78, 79, 80, 81, 82, 83, 84, 85, 86, 87, 88] (by decide +kernel) (by decide +kernel)
set_option maxRecDepth 20000 in
theorem gX12_pairs_X12_goesOn : GoodIn wsX12_pairs (wsV RX12 197 RX12 yX12_goesOn wsX12_goesOn) := goodIn_app (goodIn_of _ (by decide +kernel)) ggX12_pairs_X12_goesOn
set_option maxRecDepth 20000 in
theorem ggX12_pairs_X12_sumOf : GoodIn wsX12_pairs wsX12_sumOf := goodIn_r _ [55] (by decide +kernel) (by decide +kernel)
set_option maxRecDepth 20000 in
theorem gX12_pairs_X12_sumOf : GoodIn wsX12_pairs (va_wsS RX12 184 yX12_sumOf wsX12_sumOf) := goodIn_app (goodIn_of _ (by decide +kernel)) ggX12_pairs_X12_sumOf
set_option maxRecDepth 20000 in
theorem ggX12_pairs_X12_marries : GoodIn wsX12_pairs wsX12_marries := goodIn_r _ [59, 5, 3, 4, 60, 61, 62, 11, 63, 13, 14, 15, 64, 65, 66, 67, 68, 69, 70, 71, 72, 73, 74, 75, 76, 77, 78, 79, 80, 81, 82, 83, 84, 85, 86, 87, 88] (by decide +kernel) (by decide +kernel)
set_option maxRecDepth 20000 in
theorem gX12_pairs_X12_marries : GoodIn wsX12_pairs (wsV RX12 204 RX12 yX12_marries wsX12_marries) := goodIn_app (goodIn_of _ (by decide +kernel)) ggX12_pairs_X12_marries
theorem dX12_pairs_0 : decode cX12_pairs 0 = .ok (.aload_n 0, 1) := by decide +kernel
theorem dX12_pairs_1 : decode cX12_pairs 1 = .ok (.invokevirtual 173, 3) := by decide +kernel
theorem dX12_pairs_4 : decode cX12_pairs 4 = .ok (.ifCond .ne 6, 3) := by decide +kernel
theorem dX12_pairs_7 : decode cX12_pairs 7 = .ok (.ldc 176, 2) := by decide +kernel
theorem dX12_pairs_9 : decode cX12_pairs 9 = .ok (.ireturn, 1) := by decide +kernel
theorem dX12_pairs_10 : decode cX12_pairs 10 = .ok (.iload_n 1, 1) := by decide +kernel
theorem dX12_pairs_11 : decode cX12_pairs 11 = .ok (.iconst 1, 1) := by decide +kernel
theorem dX12_pairs_12 : decode cX12_pairs 12 = .ok (.bipush 20, 2) := by decide +kernel
theorem dX12_pairs_14 : decode cX12_pairs 14 = .ok (.invokestatic 62, 3) := by decide +kernel
theorem dX12_pairs_17 : decode cX12_pairs 17 = .ok (.ifCond .eq 16, 3) := by decide +kernel
theorem dX12_pairs_20 : decode cX12_pairs 20 = .ok (.iload_n 2, 1) := by decide +kernel
theorem dX12_pairs_21 : decode cX12_pairs 21 = .ok (.iconst (-1), 1) := by decide +kernel
theorem dX12_pairs_22 : decode cX12_pairs 22 = .ok (.if_icmp .eq 14, 3) := by decide +kernel
theorem dX12_pairs_25 : decode cX12_pairs 25 = .ok (.aload_n 0, 1) := by decide +kernel
theorem dX12_pairs_26 : decode cX12_pairs 26 = .ok (.iload_n 2, 1) := by decide +kernel
theorem dX12_pairs_27 : decode cX12_pairs 27 = .ok (.invokevirtual 187, 3) := by decide +kernel
theorem dX12_pairs_30 : decode cX12_pairs 30 = .ok (.ifCond .ne 6, 3) := by decide +kernel
theorem dX12_pairs_33 : decode cX12_pairs 33 = .ok (.ldc 70, 2) := by decide +kernel
theorem dX12_pairs_35 : decode cX12_pairs 35 = .ok (.ireturn, 1) := by decide +kernel
theorem dX12_pairs_36 : decode cX12_pairs 36 = .ok (.iconst 0, 1) := by decide +kernel
theorem dX12_pairs_37 : decode cX12_pairs 37 = .ok (.istore_n 3, 1) := by decide +kernel
theorem dX12_pairs_38 : decode cX12_pairs 38 = .ok (.iload_n 3, 1) := by decide +kernel
theorem dX12_pairs_39 : decode cX12_pairs 39 = .ok (.bipush 7, 2) := by decide +kernel
theorem dX12_pairs_41 : decode cX12_pairs 41 = .ok (.if_icmp .ge 17, 3) := by decide +kernel
theorem dX12_pairs_44 : decode cX12_pairs 44 = .ok (.aload_n 0, 1) := by decide +kernel
theorem dX12_pairs_45 : decode cX12_pairs 45 = .ok (.getfield 47, 3) := by decide +kernel
theorem dX12_pairs_48 : decode cX12_pairs 48 = .ok (.iload_n 3, 1) := by decide +kernel
theorem dX12_pairs_49 : decode cX12_pairs 49 = .ok (.ldc 56, 2) := by decide +kernel
theorem dX12_pairs_51 : decode cX12_pairs 51 = .ok (.iastore, 1) := by decide +kernel
theorem dX12_pairs_52 : decode cX12_pairs 52 = .ok (.iinc 3 1, 3) := by decide +kernel
theorem dX12_pairs_55 : decode cX12_pairs 55 = .ok (.goto (-17), 3) := by decide +kernel
theorem dX12_pairs_58 : decode cX12_pairs 58 = .ok (.iconst (-1), 1) := by decide +kernel
theorem dX12_pairs_59 : decode cX12_pairs 59 = .ok (.istore_n 3, 1) := by decide +kernel
theorem dX12_pairs_60 : decode cX12_pairs 60 = .ok (.iconst 1, 1) := by decide +kernel
theorem dX12_pairs_61 : decode cX12_pairs 61 = .ok (.istore 4, 2) := by decide +kernel
theorem dX12_pairs_63 : decode cX12_pairs 63 = .ok (.iload 4, 2) := by decide +kernel
theorem dX12_pairs_65 : decode cX12_pairs 65 = .ok (.ifCond .eq 130, 3) := by decide +kernel
theorem dX12_pairs_68 : decode cX12_pairs 68 = .ok (.aload_n 0, 1) := by decide +kernel
theorem dX12_pairs_69 : decode cX12_pairs 69 = .ok (.getfield 25, 3) := by decide +kernel
theorem dX12_pairs_72 : decode cX12_pairs 72 = .ok (.iconst 0, 1) := by decide +kernel
theorem dX12_pairs_73 : decode cX12_pairs 73 = .ok (.aload_n 0, 1) := by decide +kernel
theorem dX12_pairs_74 : decode cX12_pairs 74 = .ok (.getfield 31, 3) := by decide +kernel
theorem dX12_pairs_77 : decode cX12_pairs 77 = .ok (.iconst 0, 1) := by decide +kernel
theorem dX12_pairs_78 : decode cX12_pairs 78 = .ok (.invokestatic 141, 3) := by decide +kernel
theorem dX12_pairs_81 : decode cX12_pairs 81 = .ok (.iconst 0, 1) := by decide +kernel
theorem dX12_pairs_82 : decode cX12_pairs 82 = .ok (.istore 5, 2) := by decide +kernel
theorem dX12_pairs_84 : decode cX12_pairs 84 = .ok (.iload 5, 2) := by decide +kernel
theorem dX12_pairs_86 : decode cX12_pairs 86 = .ok (.aload_n 0, 1) := by decide +kernel
theorem dX12_pairs_87 : decode cX12_pairs 87 = .ok (.getfield 25, 3) := by decide +kernel
theorem dX12_pairs_90 : decode cX12_pairs 90 = .ok (.iconst 2, 1) := by decide +kernel
theorem dX12_pairs_91 : decode cX12_pairs 91 = .ok (.iaload, 1) := by decide +kernel
theorem dX12_pairs_92 : decode cX12_pairs 92 = .ok (.if_icmp .ge 30, 3) := by decide +kernel
theorem dX12_pairs_95 : decode cX12_pairs 95 = .ok (.aload_n 0, 1) := by decide +kernel
theorem dX12_pairs_96 : decode cX12_pairs 96 = .ok (.getfield 31, 3) := by decide +kernel
theorem dX12_pairs_99 : decode cX12_pairs 99 = .ok (.iconst 4, 1) := by decide +kernel
theorem dX12_pairs_100 : decode cX12_pairs 100 = .ok (.bipush 6, 2) := by decide +kernel
theorem dX12_pairs_102 : decode cX12_pairs 102 = .ok (.iload 5, 2) := by decide +kernel
theorem dX12_pairs_104 : decode cX12_pairs 104 = .ok (.imul, 1) := by decide +kernel
theorem dX12_pairs_105 : decode cX12_pairs 105 = .ok (.iadd, 1) := by decide +kernel
theorem dX12_pairs_106 : decode cX12_pairs 106 = .ok (.iconst 5, 1) := by decide +kernel
theorem dX12_pairs_107 : decode cX12_pairs 107 = .ok (.iadd, 1) := by decide +kernel
theorem dX12_pairs_108 : decode cX12_pairs 108 = .ok (.aload_n 0, 1) := by decide +kernel
theorem dX12_pairs_109 : decode cX12_pairs 109 = .ok (.getfield 47, 3) := by decide +kernel
theorem dX12_pairs_112 : decode cX12_pairs 112 = .ok (.iload 5, 2) := by decide +kernel
theorem dX12_pairs_114 : decode cX12_pairs 114 = .ok (.iaload, 1) := by decide +kernel
theorem dX12_pairs_115 : decode cX12_pairs 115 = .ok (.iastore, 1) := by decide +kernel
theorem dX12_pairs_116 : decode cX12_pairs 116 = .ok (.iinc 5 1, 3) := by decide +kernel
theorem dX12_pairs_119 : decode cX12_pairs 119 = .ok (.goto (-35), 3) := by decide +kernel
theorem dX12_pairs_122 : decode cX12_pairs 122 = .ok (.aload_n 0, 1) := by decide +kernel
theorem dX12_pairs_123 : decode cX12_pairs 123 = .ok (.iload_n 1, 1) := by decide +kernel
theorem dX12_pairs_124 : decode cX12_pairs 124 = .ok (.invokevirtual 197, 3) := by decide +kernel
theorem dX12_pairs_127 : decode cX12_pairs 127 = .ok (.aload_n 0, 1) := by decide +kernel
theorem dX12_pairs_128 : decode cX12_pairs 128 = .ok (.getfield 31, 3) := by decide +kernel
theorem dX12_pairs_131 : decode cX12_pairs 131 = .ok (.iconst 1, 1) := by decide +kernel
theorem dX12_pairs_132 : decode cX12_pairs 132 = .ok (.invokestatic 184, 3) := by decide +kernel
theorem dX12_pairs_135 : decode cX12_pairs 135 = .ok (.istore 5, 2) := by decide +kernel
theorem dX12_pairs_137 : decode cX12_pairs 137 = .ok (.iconst 0, 1) := by decide +kernel
theorem dX12_pairs_138 : decode cX12_pairs 138 = .ok (.istore 6, 2) := by decide +kernel
theorem dX12_pairs_140 : decode cX12_pairs 140 = .ok (.iload 6, 2) := by decide +kernel
theorem dX12_pairs_142 : decode cX12_pairs 142 = .ok (.bipush 7, 2) := by decide +kernel
theorem dX12_pairs_144 : decode cX12_pairs 144 = .ok (.if_icmp .ge 29, 3) := by decide +kernel
theorem dX12_pairs_147 : decode cX12_pairs 147 = .ok (.iload 5, 2) := by decide +kernel
theorem dX12_pairs_149 : decode cX12_pairs 149 = .ok (.iload_n 3, 1) := by decide +kernel
theorem dX12_pairs_150 : decode cX12_pairs 150 = .ok (.if_icmp .le 23, 3) := by decide +kernel
theorem dX12_pairs_153 : decode cX12_pairs 153 = .ok (.aload_n 0, 1) := by decide +kernel
theorem dX12_pairs_154 : decode cX12_pairs 154 = .ok (.getfield 50, 3) := by decide +kernel
theorem dX12_pairs_157 : decode cX12_pairs 157 = .ok (.iload 6, 2) := by decide +kernel
theorem dX12_pairs_159 : decode cX12_pairs 159 = .ok (.aload_n 0, 1) := by decide +kernel
theorem dX12_pairs_160 : decode cX12_pairs 160 = .ok (.getfield 47, 3) := by decide +kernel
theorem dX12_pairs_163 : decode cX12_pairs 163 = .ok (.iload 6, 2) := by decide +kernel
theorem dX12_pairs_165 : decode cX12_pairs 165 = .ok (.iaload, 1) := by decide +kernel
theorem dX12_pairs_166 : decode cX12_pairs 166 = .ok (.iastore, 1) := by decide +kernel
theorem dX12_pairs_167 : decode cX12_pairs 167 = .ok (.iinc 6 1, 3) := by decide +kernel
theorem dX12_pairs_170 : decode cX12_pairs 170 = .ok (.goto (-30), 3) := by decide +kernel
theorem dX12_pairs_173 : decode cX12_pairs 173 = .ok (.iload 5, 2) := by decide +kernel
theorem dX12_pairs_175 : decode cX12_pairs 175 = .ok (.iload_n 3, 1) := by decide +kernel
theorem dX12_pairs_176 : decode cX12_pairs 176 = .ok (.if_icmp .le 8, 3) := by decide +kernel
theorem dX12_pairs_179 : decode cX12_pairs 179 = .ok (.iload 5, 2) := by decide +kernel
theorem dX12_pairs_181 : decode cX12_pairs 181 = .ok (.goto 4, 3) := by decide +kernel
theorem dX12_pairs_184 : decode cX12_pairs 184 = .ok (.iload_n 3, 1) := by decide +kernel
theorem dX12_pairs_185 : decode cX12_pairs 185 = .ok (.istore_n 3, 1) := by decide +kernel
theorem dX12_pairs_186 : decode cX12_pairs 186 = .ok (.aload_n 0, 1) := by decide +kernel
theorem dX12_pairs_187 : decode cX12_pairs 187 = .ok (.invokevirtual 204, 3) := by decide +kernel
theorem dX12_pairs_190 : decode cX12_pairs 190 = .ok (.istore 4, 2) := by decide +kernel
theorem dX12_pairs_192 : decode cX12_pairs 192 = .ok (.goto (-129), 3) := by decide +kernel
theorem dX12_pairs_195 : decode cX12_pairs 195 = .ok (.iload_n 2, 1) := by decide +kernel
theorem dX12_pairs_196 : decode cX12_pairs 196 = .ok (.iconst (-1), 1) := by decide +kernel
theorem dX12_pairs_197 : decode cX12_pairs 197 = .ok (.if_icmp .ne 7, 3) := by decide +kernel
theorem dX12_pairs_200 : decode cX12_pairs 200 = .ok (.iload_n 3, 1) := by decide +kernel
theorem dX12_pairs_201 : decode cX12_pairs 201 = .ok (.goto 9, 3) := by decide +kernel
theorem dX12_pairs_204 : decode cX12_pairs 204 = .ok (.aload_n 0, 1) := by decide +kernel
theorem dX12_pairs_205 : decode cX12_pairs 205 = .ok (.getfield 50, 3) := by decide +kernel
theorem dX12_pairs_208 : decode cX12_pairs 208 = .ok (.iload_n 2, 1) := by decide +kernel
theorem dX12_pairs_209 : decode cX12_pairs 209 = .ok (.iaload, 1) := by decide +kernel
theorem dX12_pairs_210 : decode cX12_pairs 210 = .ok (.ireturn, 1) := by decide +kernel
set_option maxRecDepth 20000 in
theorem ggX12_change_X12_isField : GoodIn wsX12_change wsX12_isField := goodIn_r _ [10, 4, 53, 54, 55, 56, 57, 58, 59, 60, 61, 62, 63, 64, 65, 66, 67, 68, 69, 70, 71, 72, 73, 74, 75, 76, 77] (by decide +kernel) (by decide +kernel)
set_option maxRecDepth 20000 in
theorem gX12_change_X12_isField : GoodIn wsX12_change (wsV RX12 173 RX12 yX12_isField wsX12_isField) := goodIn_app (goodIn_of _ (by decide +kernel)) ggX12_change_X12_isField
set_option maxRecDepth 20000 in
theorem ggX12_change_X12_in : GoodIn wsX12_change wsX12_in := goodIn_r _ [13] (by decide +kernel) (by decide +kernel)
set_option maxRecDepth 20000 in
theorem gX12_change_X12_in : GoodIn wsX12_change (va_wsS RX12 62 yX12_in wsX12_in) := goodIn_app (goodIn_of _ (by decide +kernel)) ggX12_change_X12_in
set_option maxRecDepth 20000 in
theorem ggX12_change_X12_copies : GoodIn wsX12_change wsX12_copies := goodIn_r _ [16] (by decide +kernel) (by decide +kernel)
set_option maxRecDepth 20000 in
theorem gX12_change_X12_copies : GoodIn wsX12_change (va_wsS RX12 141 yX12_copies wsX12_copies) := goodIn_app (goodIn_of _ (by decide +kernel)) ggX12_change_X12_copies
set_option maxRecDepth 20000 in
theorem ggX12_change_X12_changes : GoodIn wsX12_change wsX12_changes := goodIn_r _ [19] (by decide +kernel) (by decide +kernel)
set_option maxRecDepth 20000 in
theorem gX12_change_X12_changes : GoodIn wsX12_change (va_wsS RX12 194 yX12_changes wsX12_changes) := goodIn_app (goodIn_of _ (by decide +kernel)) ggX12_change_X12_changes
set_option maxRecDepth 20000 in
theorem ggX12_change_X12_goesOn : GoodIn wsX12_change wsX12_goesOn := goodIn_r _ [23, 5, 24, 25, 26, 9, 27, 28, 29, 30, 31, 3, 32, 33, 34, 35, 36, 37, 38, 39, 40, 41, 42, 43, 44, 45, 46, 47, 48, 49, 53, 54, 55, 56, 57, 58, 59, 60, 61, 62, 63, 64, 65, 66, 67, 68, 69, 70, 71, 72, 73, 74, 75, 76, 77] (by decide +kernel) (by decide +kernel)
set_option maxRecDepth 20000 in
theorem gX12_change_X12_goesOn : GoodIn wsX12_change (wsV RX12 197 RX12 yX12_goesOn wsX12_goesOn) := goodIn_app (goodIn_of _ (by decide +kernel)) ggX12_change_X12_goesOn
set_option maxRecDepth 20000 in
theorem ggX12_change_X12_sumOf : GoodIn wsX12_change wsX12_sumOf := goodIn_r _ [52] (by decide +kernel) (by decide +kernel)
set_option maxRecDepth 20000 in
theorem gX12_change_X12_sumOf : GoodIn wsX12_change (va_wsS RX12 184 yX12_sumOf wsX12_sumOf) := goodIn_app (goodIn_of _ (by decide +kernel)) ggX12_change_X12_sumOf
theorem dX12_change_0 : decode cX12_change 0 = .ok (.aload_n 0, 1) := by decide +kernel
theorem dX12_change_1 : decode cX12_change 1 = .ok (.invokevirtual 173, 3) := by decide +kernel
theorem dX12_change_4 : decode cX12_change 4 = .ok (.ifCond .ne 6, 3) := by decide +kernel
theorem dX12_change_7 : decode cX12_change 7 = .ok (.ldc 176, 2) := by decide +kernel
theorem dX12_change_9 : decode cX12_change 9 = .ok (.ireturn, 1) := by decide +kernel
theorem dX12_change_10 : decode cX12_change 10 = .ok (.iload_n 1, 1) := by decide +kernel
theorem dX12_change_11 : decode cX12_change 11 = .ok (.iconst 1, 1) := by decide +kernel
theorem dX12_change_12 : decode cX12_change 12 = .ok (.bipush 30, 2) := by decide +kernel
theorem dX12_change_14 : decode cX12_change 14 = .ok (.invokestatic 62, 3) := by decide +kernel
theorem dX12_change_17 : decode cX12_change 17 = .ok (.ifCond .eq 12, 3) := by decide +kernel
theorem dX12_change_20 : decode cX12_change 20 = .ok (.iload_n 2, 1) := by decide +kernel
theorem dX12_change_21 : decode cX12_change 21 = .ok (.iconst 0, 1) := by decide +kernel
theorem dX12_change_22 : decode cX12_change 22 = .ok (.iconst 1, 1) := by decide +kernel
theorem dX12_change_23 : decode cX12_change 23 = .ok (.invokestatic 62, 3) := by decide +kernel
theorem dX12_change_26 : decode cX12_change 26 = .ok (.ifCond .ne 6, 3) := by decide +kernel
theorem dX12_change_29 : decode cX12_change 29 = .ok (.ldc 70, 2) := by decide +kernel
theorem dX12_change_31 : decode cX12_change 31 = .ok (.ireturn, 1) := by decide +kernel
theorem dX12_change_32 : decode cX12_change 32 = .ok (.ldc 56, 2) := by decide +kernel
theorem dX12_change_34 : decode cX12_change 34 = .ok (.istore_n 3, 1) := by decide +kernel
theorem dX12_change_35 : decode cX12_change 35 = .ok (.ldc 56, 2) := by decide +kernel
theorem dX12_change_37 : decode cX12_change 37 = .ok (.istore 4, 2) := by decide +kernel
theorem dX12_change_39 : decode cX12_change 39 = .ok (.iconst 0, 1) := by decide +kernel
theorem dX12_change_40 : decode cX12_change 40 = .ok (.istore 5, 2) := by decide +kernel
theorem dX12_change_42 : decode cX12_change 42 = .ok (.iload 5, 2) := by decide +kernel
theorem dX12_change_44 : decode cX12_change 44 = .ok (.aload_n 0, 1) := by decide +kernel
theorem dX12_change_45 : decode cX12_change 45 = .ok (.getfield 25, 3) := by decide +kernel
theorem dX12_change_48 : decode cX12_change 48 = .ok (.iconst 2, 1) := by decide +kernel
theorem dX12_change_49 : decode cX12_change 49 = .ok (.iaload, 1) := by decide +kernel
theorem dX12_change_50 : decode cX12_change 50 = .ok (.if_icmp .ge 107, 3) := by decide +kernel
theorem dX12_change_53 : decode cX12_change 53 = .ok (.iload 5, 2) := by decide +kernel
theorem dX12_change_55 : decode cX12_change 55 = .ok (.iconst 1, 1) := by decide +kernel
theorem dX12_change_56 : decode cX12_change 56 = .ok (.iadd, 1) := by decide +kernel
theorem dX12_change_57 : decode cX12_change 57 = .ok (.istore 6, 2) := by decide +kernel
theorem dX12_change_59 : decode cX12_change 59 = .ok (.iload 6, 2) := by decide +kernel
theorem dX12_change_61 : decode cX12_change 61 = .ok (.aload_n 0, 1) := by decide +kernel
theorem dX12_change_62 : decode cX12_change 62 = .ok (.getfield 25, 3) := by decide +kernel
theorem dX12_change_65 : decode cX12_change 65 = .ok (.iconst 2, 1) := by decide +kernel
theorem dX12_change_66 : decode cX12_change 66 = .ok (.iaload, 1) := by decide +kernel
theorem dX12_change_67 : decode cX12_change 67 = .ok (.if_icmp .ge 84, 3) := by decide +kernel
theorem dX12_change_70 : decode cX12_change 70 = .ok (.aload_n 0, 1) := by decide +kernel
theorem dX12_change_71 : decode cX12_change 71 = .ok (.getfield 25, 3) := by decide +kernel
theorem dX12_change_74 : decode cX12_change 74 = .ok (.iconst 0, 1) := by decide +kernel
theorem dX12_change_75 : decode cX12_change 75 = .ok (.aload_n 0, 1) := by decide +kernel
theorem dX12_change_76 : decode cX12_change 76 = .ok (.getfield 31, 3) := by decide +kernel
theorem dX12_change_79 : decode cX12_change 79 = .ok (.iconst 0, 1) := by decide +kernel
theorem dX12_change_80 : decode cX12_change 80 = .ok (.invokestatic 141, 3) := by decide +kernel
theorem dX12_change_83 : decode cX12_change 83 = .ok (.aload_n 0, 1) := by decide +kernel
theorem dX12_change_84 : decode cX12_change 84 = .ok (.getfield 31, 3) := by decide +kernel
theorem dX12_change_87 : decode cX12_change 87 = .ok (.iload 5, 2) := by decide +kernel
theorem dX12_change_89 : decode cX12_change 89 = .ok (.iload 6, 2) := by decide +kernel
theorem dX12_change_91 : decode cX12_change 91 = .ok (.invokestatic 194, 3) := by decide +kernel
theorem dX12_change_94 : decode cX12_change 94 = .ok (.aload_n 0, 1) := by decide +kernel
theorem dX12_change_95 : decode cX12_change 95 = .ok (.iload_n 1, 1) := by decide +kernel
theorem dX12_change_96 : decode cX12_change 96 = .ok (.invokevirtual 197, 3) := by decide +kernel
theorem dX12_change_99 : decode cX12_change 99 = .ok (.aload_n 0, 1) := by decide +kernel
theorem dX12_change_100 : decode cX12_change 100 = .ok (.getfield 31, 3) := by decide +kernel
theorem dX12_change_103 : decode cX12_change 103 = .ok (.iconst 1, 1) := by decide +kernel
theorem dX12_change_104 : decode cX12_change 104 = .ok (.invokestatic 184, 3) := by decide +kernel
theorem dX12_change_107 : decode cX12_change 107 = .ok (.istore 7, 2) := by decide +kernel
theorem dX12_change_109 : decode cX12_change 109 = .ok (.iload 7, 2) := by decide +kernel
theorem dX12_change_111 : decode cX12_change 111 = .ok (.iload 4, 2) := by decide +kernel
theorem dX12_change_113 : decode cX12_change 113 = .ok (.if_icmp .le 14, 3) := by decide +kernel
theorem dX12_change_116 : decode cX12_change 116 = .ok (.bipush 10, 2) := by decide +kernel
theorem dX12_change_118 : decode cX12_change 118 = .ok (.iload 5, 2) := by decide +kernel
theorem dX12_change_120 : decode cX12_change 120 = .ok (.imul, 1) := by decide +kernel
theorem dX12_change_121 : decode cX12_change 121 = .ok (.iload 6, 2) := by decide +kernel
theorem dX12_change_123 : decode cX12_change 123 = .ok (.iadd, 1) := by decide +kernel
theorem dX12_change_124 : decode cX12_change 124 = .ok (.goto 4, 3) := by decide +kernel
theorem dX12_change_127 : decode cX12_change 127 = .ok (.iload_n 3, 1) := by decide +kernel
theorem dX12_change_128 : decode cX12_change 128 = .ok (.istore_n 3, 1) := by decide +kernel
theorem dX12_change_129 : decode cX12_change 129 = .ok (.iload 7, 2) := by decide +kernel
theorem dX12_change_131 : decode cX12_change 131 = .ok (.iload 4, 2) := by decide +kernel
theorem dX12_change_133 : decode cX12_change 133 = .ok (.if_icmp .le 8, 3) := by decide +kernel
theorem dX12_change_136 : decode cX12_change 136 = .ok (.iload 7, 2) := by decide +kernel
theorem dX12_change_138 : decode cX12_change 138 = .ok (.goto 5, 3) := by decide +kernel
theorem dX12_change_141 : decode cX12_change 141 = .ok (.iload 4, 2) := by decide +kernel
theorem dX12_change_143 : decode cX12_change 143 = .ok (.istore 4, 2) := by decide +kernel
theorem dX12_change_145 : decode cX12_change 145 = .ok (.iinc 6 1, 3) := by decide +kernel
theorem dX12_change_148 : decode cX12_change 148 = .ok (.goto (-89), 3) := by decide +kernel
theorem dX12_change_151 : decode cX12_change 151 = .ok (.iinc 5 1, 3) := by decide +kernel
theorem dX12_change_154 : decode cX12_change 154 = .ok (.goto (-112), 3) := by decide +kernel
theorem dX12_change_157 : decode cX12_change 157 = .ok (.iload_n 2, 1) := by decide +kernel
theorem dX12_change_158 : decode cX12_change 158 = .ok (.ifCond .ne 7, 3) := by decide +kernel
theorem dX12_change_161 : decode cX12_change 161 = .ok (.iload_n 3, 1) := by decide +kernel
theorem dX12_change_162 : decode cX12_change 162 = .ok (.goto 5, 3) := by decide +kernel
theorem dX12_change_165 : decode cX12_change 165 = .ok (.iload 4, 2) := by decide +kernel
theorem dX12_change_167 : decode cX12_change 167 = .ok (.ireturn, 1) := by decide +kernel
set_option maxRecDepth 20000 in
theorem ggX12_wins_X12_has : GoodIn wsX12_wins wsX12_has := goodIn_r _ [5] (by decide +kernel) (by decide +kernel)
set_option maxRecDepth 20000 in
theorem gX12_wins_X12_has : GoodIn wsX12_wins (va_wsS RX12 156 yX12_has wsX12_has) := goodIn_app (goodIn_of _ (by decide +kernel)) ggX12_wins_X12_has
set_option maxRecDepth 20000 in
theorem ggX12_wins_X12_sumOf : GoodIn wsX12_wins wsX12_sumOf := goodIn_r _ [8] (by decide +kernel) (by decide +kernel)
set_option maxRecDepth 20000 in
theorem gX12_wins_X12_sumOf : GoodIn wsX12_wins (va_wsS RX12 184 yX12_sumOf wsX12_sumOf) := goodIn_app (goodIn_of _ (by decide +kernel)) ggX12_wins_X12_sumOf
theorem dX12_wins_0 : decode cX12_wins 0 = .ok (.iconst 0, 1) := by decide +kernel
theorem dX12_wins_1 : decode cX12_wins 1 = .ok (.istore_n 2, 1) := by decide +kernel
theorem dX12_wins_2 : decode cX12_wins 2 = .ok (.iconst 0, 1) := by decide +kernel
theorem dX12_wins_3 : decode cX12_wins 3 = .ok (.istore_n 3, 1) := by decide +kernel
theorem dX12_wins_4 : decode cX12_wins 4 = .ok (.iload_n 3, 1) := by decide +kernel
theorem dX12_wins_5 : decode cX12_wins 5 = .ok (.aload_n 0, 1) := by decide +kernel
theorem dX12_wins_6 : decode cX12_wins 6 = .ok (.getfield 25, 3) := by decide +kernel
theorem dX12_wins_9 : decode cX12_wins 9 = .ok (.iconst 2, 1) := by decide +kernel
theorem dX12_wins_10 : decode cX12_wins 10 = .ok (.iaload, 1) := by decide +kernel
theorem dX12_wins_11 : decode cX12_wins 11 = .ok (.if_icmp .ge 37, 3) := by decide +kernel
theorem dX12_wins_14 : decode cX12_wins 14 = .ok (.iload_n 2, 1) := by decide +kernel
theorem dX12_wins_15 : decode cX12_wins 15 = .ok (.iload_n 1, 1) := by decide +kernel
theorem dX12_wins_16 : decode cX12_wins 16 = .ok (.iload_n 3, 1) := by decide +kernel
theorem dX12_wins_17 : decode cX12_wins 17 = .ok (.invokestatic 156, 3) := by decide +kernel
theorem dX12_wins_20 : decode cX12_wins 20 = .ok (.ifCond .eq 19, 3) := by decide +kernel
theorem dX12_wins_23 : decode cX12_wins 23 = .ok (.aload_n 0, 1) := by decide +kernel
theorem dX12_wins_24 : decode cX12_wins 24 = .ok (.getfield 25, 3) := by decide +kernel
theorem dX12_wins_27 : decode cX12_wins 27 = .ok (.iconst 4, 1) := by decide +kernel
theorem dX12_wins_28 : decode cX12_wins 28 = .ok (.bipush 6, 2) := by decide +kernel
theorem dX12_wins_30 : decode cX12_wins 30 = .ok (.iload_n 3, 1) := by decide +kernel
theorem dX12_wins_31 : decode cX12_wins 31 = .ok (.imul, 1) := by decide +kernel
theorem dX12_wins_32 : decode cX12_wins 32 = .ok (.iadd, 1) := by decide +kernel
theorem dX12_wins_33 : decode cX12_wins 33 = .ok (.iconst 1, 1) := by decide +kernel
theorem dX12_wins_34 : decode cX12_wins 34 = .ok (.iadd, 1) := by decide +kernel
theorem dX12_wins_35 : decode cX12_wins 35 = .ok (.iaload, 1) := by decide +kernel
theorem dX12_wins_36 : decode cX12_wins 36 = .ok (.goto 4, 3) := by decide +kernel
theorem dX12_wins_39 : decode cX12_wins 39 = .ok (.iconst 0, 1) := by decide +kernel
theorem dX12_wins_40 : decode cX12_wins 40 = .ok (.iadd, 1) := by decide +kernel
theorem dX12_wins_41 : decode cX12_wins 41 = .ok (.istore_n 2, 1) := by decide +kernel
theorem dX12_wins_42 : decode cX12_wins 42 = .ok (.iinc 3 1, 3) := by decide +kernel
theorem dX12_wins_45 : decode cX12_wins 45 = .ok (.goto (-41), 3) := by decide +kernel
theorem dX12_wins_48 : decode cX12_wins 48 = .ok (.iconst 2, 1) := by decide +kernel
theorem dX12_wins_49 : decode cX12_wins 49 = .ok (.iload_n 2, 1) := by decide +kernel
theorem dX12_wins_50 : decode cX12_wins 50 = .ok (.imul, 1) := by decide +kernel
theorem dX12_wins_51 : decode cX12_wins 51 = .ok (.aload_n 0, 1) := by decide +kernel
theorem dX12_wins_52 : decode cX12_wins 52 = .ok (.getfield 25, 3) := by decide +kernel
theorem dX12_wins_55 : decode cX12_wins 55 = .ok (.iconst 1, 1) := by decide +kernel
theorem dX12_wins_56 : decode cX12_wins 56 = .ok (.invokestatic 184, 3) := by decide +kernel
theorem dX12_wins_59 : decode cX12_wins 59 = .ok (.if_icmp .le 7, 3) := by decide +kernel
theorem dX12_wins_62 : decode cX12_wins 62 = .ok (.iconst 1, 1) := by decide +kernel
theorem dX12_wins_63 : decode cX12_wins 63 = .ok (.goto 4, 3) := by decide +kernel
theorem dX12_wins_66 : decode cX12_wins 66 = .ok (.iconst 0, 1) := by decide +kernel
theorem dX12_wins_67 : decode cX12_wins 67 = .ok (.ireturn, 1) := by decide +kernel
set_option maxRecDepth 20000 in
theorem ggX12_power_X12_isTurnip : GoodIn wsX12_power wsX12_isTurnip := goodIn_r _ [7, 2, 8, 9, 6, 10, 21, 22, 23, 24, 25, 26, 27, 28, 29, 30, 31, 32, 33, 34, 35, 36, 37, 38, 39, 40, 41, 42, 43, 44, 45] (by decide +kernel) (by decide +kernel)
set_option maxRecDepth 20000 in
theorem gX12_power_X12_isTurnip : GoodIn wsX12_power (wsV RX12 187 RX12 yX12_isTurnip wsX12_isTurnip) := goodIn_app (goodIn_of _ (by decide +kernel)) ggX12_power_X12_isTurnip
set_option maxRecDepth 20000 in
theorem ggX12_power_X12_has : GoodIn wsX12_power wsX12_has := goodIn_r _ [13] (by decide +kernel) (by decide +kernel)
set_option maxRecDepth 20000 in
theorem gX12_power_X12_has : GoodIn wsX12_power (va_wsS RX12 156 yX12_has wsX12_has) := goodIn_app (goodIn_of _ (by decide +kernel)) ggX12_power_X12_has
set_option maxRecDepth 20000 in
theorem ggX12_power_X12_wins : GoodIn wsX12_power wsX12_wins := goodIn_r _ [17, 2, 11, 12, 6, 13, 18, 19, 20, 21, 22, 23, 24, 25, 26, 27, 28, 29, 30, 31, 32, 33, 34, 35, 36, 37, 38, 39, 40, 41, 42, 43, 44, 45] (by decide +kernel) (by decide +kernel)
set_option maxRecDepth 20000 in
theorem gX12_power_X12_wins : GoodIn wsX12_power (wsV RX12 207 RX12 yX12_wins wsX12_wins) := goodIn_app (goodIn_of _ (by decide +kernel)) ggX12_power_X12_wins
theorem dX12_power_0 : decode cX12_power 0 = .ok (.aload_n 0, 1) := by decide +kernel
theorem dX12_power_1 : decode cX12_power 1 = .ok (.iload_n 1, 1) := by decide +kernel
theorem dX12_power_2 : decode cX12_power 2 = .ok (.invokevirtual 187, 3) := by decide +kernel
theorem dX12_power_5 : decode cX12_power 5 = .ok (.ifCond .ne 6, 3) := by decide +kernel
theorem dX12_power_8 : decode cX12_power 8 = .ok (.ldc 70, 2) := by decide +kernel
theorem dX12_power_10 : decode cX12_power 10 = .ok (.ireturn, 1) := by decide +kernel
theorem dX12_power_11 : decode cX12_power 11 = .ok (.iconst 0, 1) := by decide +kernel
theorem dX12_power_12 : decode cX12_power 12 = .ok (.istore_n 2, 1) := by decide +kernel
theorem dX12_power_13 : decode cX12_power 13 = .ok (.iconst 0, 1) := by decide +kernel
theorem dX12_power_14 : decode cX12_power 14 = .ok (.istore_n 3, 1) := by decide +kernel
theorem dX12_power_15 : decode cX12_power 15 = .ok (.iload_n 3, 1) := by decide +kernel
theorem dX12_power_16 : decode cX12_power 16 = .ok (.iconst 1, 1) := by decide +kernel
theorem dX12_power_17 : decode cX12_power 17 = .ok (.aload_n 0, 1) := by decide +kernel
theorem dX12_power_18 : decode cX12_power 18 = .ok (.getfield 25, 3) := by decide +kernel
theorem dX12_power_21 : decode cX12_power 21 = .ok (.iconst 2, 1) := by decide +kernel
theorem dX12_power_22 : decode cX12_power 22 = .ok (.iaload, 1) := by decide +kernel
theorem dX12_power_23 : decode cX12_power 23 = .ok (.ishl, 1) := by decide +kernel
theorem dX12_power_24 : decode cX12_power 24 = .ok (.if_icmp .ge 45, 3) := by decide +kernel
theorem dX12_power_27 : decode cX12_power 27 = .ok (.iload_n 2, 1) := by decide +kernel
theorem dX12_power_28 : decode cX12_power 28 = .ok (.iload_n 3, 1) := by decide +kernel
theorem dX12_power_29 : decode cX12_power 29 = .ok (.iload_n 1, 1) := by decide +kernel
theorem dX12_power_30 : decode cX12_power 30 = .ok (.invokestatic 156, 3) := by decide +kernel
theorem dX12_power_33 : decode cX12_power 33 = .ok (.ifCond .ne 27, 3) := by decide +kernel
theorem dX12_power_36 : decode cX12_power 36 = .ok (.aload_n 0, 1) := by decide +kernel
theorem dX12_power_37 : decode cX12_power 37 = .ok (.iload_n 3, 1) := by decide +kernel
theorem dX12_power_38 : decode cX12_power 38 = .ok (.invokevirtual 207, 3) := by decide +kernel
theorem dX12_power_41 : decode cX12_power 41 = .ok (.ifCond .ne 19, 3) := by decide +kernel
theorem dX12_power_44 : decode cX12_power 44 = .ok (.aload_n 0, 1) := by decide +kernel
theorem dX12_power_45 : decode cX12_power 45 = .ok (.iload_n 3, 1) := by decide +kernel
theorem dX12_power_46 : decode cX12_power 46 = .ok (.iconst 1, 1) := by decide +kernel
theorem dX12_power_47 : decode cX12_power 47 = .ok (.iload_n 1, 1) := by decide +kernel
theorem dX12_power_48 : decode cX12_power 48 = .ok (.ishl, 1) := by decide +kernel
theorem dX12_power_49 : decode cX12_power 49 = .ok (.ior, 1) := by decide +kernel
theorem dX12_power_50 : decode cX12_power 50 = .ok (.invokevirtual 207, 3) := by decide +kernel
theorem dX12_power_53 : decode cX12_power 53 = .ok (.ifCond .eq 7, 3) := by decide +kernel
theorem dX12_power_56 : decode cX12_power 56 = .ok (.iconst 1, 1) := by decide +kernel
theorem dX12_power_57 : decode cX12_power 57 = .ok (.goto 4, 3) := by decide +kernel
theorem dX12_power_60 : decode cX12_power 60 = .ok (.iconst 0, 1) := by decide +kernel
theorem dX12_power_61 : decode cX12_power 61 = .ok (.iadd, 1) := by decide +kernel
theorem dX12_power_62 : decode cX12_power 62 = .ok (.istore_n 2, 1) := by decide +kernel
theorem dX12_power_63 : decode cX12_power 63 = .ok (.iinc 3 1, 3) := by decide +kernel
theorem dX12_power_66 : decode cX12_power 66 = .ok (.goto (-51), 3) := by decide +kernel
theorem dX12_power_69 : decode cX12_power 69 = .ok (.iload_n 2, 1) := by decide +kernel
theorem dX12_power_70 : decode cX12_power 70 = .ok (.ireturn, 1) := by decide +kernel
set_option maxRecDepth 20000 in
theorem ggX12_blocs_X12_isField : GoodIn wsX12_blocs wsX12_isField := goodIn_r _ [9, 4, 26, 27, 28, 29, 30, 31, 32, 33, 34, 35, 36, 37, 38, 39, 40, 41, 42, 43, 44, 45, 46, 47, 48, 49, 50] (by decide +kernel) (by decide +kernel)
set_option maxRecDepth 20000 in
theorem gX12_blocs_X12_isField : GoodIn wsX12_blocs (wsV RX12 173 RX12 yX12_isField wsX12_isField) := goodIn_app (goodIn_of _ (by decide +kernel)) ggX12_blocs_X12_isField
set_option maxRecDepth 20000 in
theorem ggX12_blocs_X12_in : GoodIn wsX12_blocs wsX12_in := goodIn_r _ [12] (by decide +kernel) (by decide +kernel)
set_option maxRecDepth 20000 in
theorem gX12_blocs_X12_in : GoodIn wsX12_blocs (va_wsS RX12 62 yX12_in wsX12_in) := goodIn_app (goodIn_of _ (by decide +kernel)) ggX12_blocs_X12_in
set_option maxRecDepth 20000 in
theorem ggX12_blocs_X12_wins : GoodIn wsX12_blocs wsX12_wins := goodIn_r _ [16, 4, 17, 18, 8, 19, 20, 21, 22, 26, 27, 28, 29, 30, 31, 32, 33, 34, 35, 36, 37, 38, 39, 40, 41, 42, 43, 44, 45, 46, 47, 48, 49, 50] (by decide +kernel) (by decide +kernel)
set_option maxRecDepth 20000 in
theorem gX12_blocs_X12_wins : GoodIn wsX12_blocs (wsV RX12 207 RX12 yX12_wins wsX12_wins) := goodIn_app (goodIn_of _ (by decide +kernel)) ggX12_blocs_X12_wins
set_option maxRecDepth 20000 in
theorem ggX12_blocs_X12_ones : GoodIn wsX12_blocs wsX12_ones := goodIn_r _ [25] (by decide +kernel) (by decide +kernel)
set_option maxRecDepth 20000 in
theorem gX12_blocs_X12_ones : GoodIn wsX12_blocs (va_wsS RX12 210 yX12_ones wsX12_ones) := goodIn_app (goodIn_of _ (by decide +kernel)) ggX12_blocs_X12_ones
theorem dX12_blocs_0 : decode cX12_blocs 0 = .ok (.aload_n 0, 1) := by decide +kernel
theorem dX12_blocs_1 : decode cX12_blocs 1 = .ok (.invokevirtual 173, 3) := by decide +kernel
theorem dX12_blocs_4 : decode cX12_blocs 4 = .ok (.ifCond .ne 6, 3) := by decide +kernel
theorem dX12_blocs_7 : decode cX12_blocs 7 = .ok (.ldc 176, 2) := by decide +kernel
theorem dX12_blocs_9 : decode cX12_blocs 9 = .ok (.ireturn, 1) := by decide +kernel
theorem dX12_blocs_10 : decode cX12_blocs 10 = .ok (.iload_n 1, 1) := by decide +kernel
theorem dX12_blocs_11 : decode cX12_blocs 11 = .ok (.iconst 0, 1) := by decide +kernel
theorem dX12_blocs_12 : decode cX12_blocs 12 = .ok (.iconst 1, 1) := by decide +kernel
theorem dX12_blocs_13 : decode cX12_blocs 13 = .ok (.invokestatic 62, 3) := by decide +kernel
theorem dX12_blocs_16 : decode cX12_blocs 16 = .ok (.ifCond .ne 6, 3) := by decide +kernel
theorem dX12_blocs_19 : decode cX12_blocs 19 = .ok (.ldc 70, 2) := by decide +kernel
theorem dX12_blocs_21 : decode cX12_blocs 21 = .ok (.ireturn, 1) := by decide +kernel
theorem dX12_blocs_22 : decode cX12_blocs 22 = .ok (.ldc 56, 2) := by decide +kernel
theorem dX12_blocs_24 : decode cX12_blocs 24 = .ok (.istore_n 2, 1) := by decide +kernel
theorem dX12_blocs_25 : decode cX12_blocs 25 = .ok (.iconst 0, 1) := by decide +kernel
theorem dX12_blocs_26 : decode cX12_blocs 26 = .ok (.istore_n 3, 1) := by decide +kernel
theorem dX12_blocs_27 : decode cX12_blocs 27 = .ok (.iload_n 3, 1) := by decide +kernel
theorem dX12_blocs_28 : decode cX12_blocs 28 = .ok (.iconst 1, 1) := by decide +kernel
theorem dX12_blocs_29 : decode cX12_blocs 29 = .ok (.aload_n 0, 1) := by decide +kernel
theorem dX12_blocs_30 : decode cX12_blocs 30 = .ok (.getfield 25, 3) := by decide +kernel
theorem dX12_blocs_33 : decode cX12_blocs 33 = .ok (.iconst 2, 1) := by decide +kernel
theorem dX12_blocs_34 : decode cX12_blocs 34 = .ok (.iaload, 1) := by decide +kernel
theorem dX12_blocs_35 : decode cX12_blocs 35 = .ok (.ishl, 1) := by decide +kernel
theorem dX12_blocs_36 : decode cX12_blocs 36 = .ok (.if_icmp .ge 40, 3) := by decide +kernel
theorem dX12_blocs_39 : decode cX12_blocs 39 = .ok (.aload_n 0, 1) := by decide +kernel
theorem dX12_blocs_40 : decode cX12_blocs 40 = .ok (.iload_n 3, 1) := by decide +kernel
theorem dX12_blocs_41 : decode cX12_blocs 41 = .ok (.invokevirtual 207, 3) := by decide +kernel
theorem dX12_blocs_44 : decode cX12_blocs 44 = .ok (.ifCond .eq 24, 3) := by decide +kernel
theorem dX12_blocs_47 : decode cX12_blocs 47 = .ok (.iload_n 2, 1) := by decide +kernel
theorem dX12_blocs_48 : decode cX12_blocs 48 = .ok (.ldc 56, 2) := by decide +kernel
theorem dX12_blocs_50 : decode cX12_blocs 50 = .ok (.if_icmp .eq 14, 3) := by decide +kernel
theorem dX12_blocs_53 : decode cX12_blocs 53 = .ok (.iload_n 3, 1) := by decide +kernel
theorem dX12_blocs_54 : decode cX12_blocs 54 = .ok (.invokestatic 210, 3) := by decide +kernel
theorem dX12_blocs_57 : decode cX12_blocs 57 = .ok (.iload_n 2, 1) := by decide +kernel
theorem dX12_blocs_58 : decode cX12_blocs 58 = .ok (.invokestatic 210, 3) := by decide +kernel
theorem dX12_blocs_61 : decode cX12_blocs 61 = .ok (.if_icmp .ge 7, 3) := by decide +kernel
theorem dX12_blocs_64 : decode cX12_blocs 64 = .ok (.iload_n 3, 1) := by decide +kernel
theorem dX12_blocs_65 : decode cX12_blocs 65 = .ok (.goto 4, 3) := by decide +kernel
theorem dX12_blocs_68 : decode cX12_blocs 68 = .ok (.iload_n 2, 1) := by decide +kernel
theorem dX12_blocs_69 : decode cX12_blocs 69 = .ok (.istore_n 2, 1) := by decide +kernel
theorem dX12_blocs_70 : decode cX12_blocs 70 = .ok (.iinc 3 1, 3) := by decide +kernel
theorem dX12_blocs_73 : decode cX12_blocs 73 = .ok (.goto (-46), 3) := by decide +kernel
theorem dX12_blocs_76 : decode cX12_blocs 76 = .ok (.iload_n 2, 1) := by decide +kernel
theorem dX12_blocs_77 : decode cX12_blocs 77 = .ok (.ldc 56, 2) := by decide +kernel
theorem dX12_blocs_79 : decode cX12_blocs 79 = .ok (.if_icmp .eq 8, 3) := by decide +kernel
theorem dX12_blocs_82 : decode cX12_blocs 82 = .ok (.iload_n 1, 1) := by decide +kernel
theorem dX12_blocs_83 : decode cX12_blocs 83 = .ok (.iconst 1, 1) := by decide +kernel
theorem dX12_blocs_84 : decode cX12_blocs 84 = .ok (.if_icmp .ne 7, 3) := by decide +kernel
theorem dX12_blocs_87 : decode cX12_blocs 87 = .ok (.iload_n 2, 1) := by decide +kernel
theorem dX12_blocs_88 : decode cX12_blocs 88 = .ok (.goto 7, 3) := by decide +kernel
theorem dX12_blocs_91 : decode cX12_blocs 91 = .ok (.iload_n 2, 1) := by decide +kernel
theorem dX12_blocs_92 : decode cX12_blocs 92 = .ok (.invokestatic 210, 3) := by decide +kernel
theorem dX12_blocs_95 : decode cX12_blocs 95 = .ok (.ireturn, 1) := by decide +kernel
set_option maxRecDepth 20000 in
theorem ggX12_risesSo_X12_copies : GoodIn wsX12_risesSo wsX12_copies := goodIn_r _ [7] (by decide +kernel) (by decide +kernel)
set_option maxRecDepth 20000 in
theorem gX12_risesSo_X12_copies : GoodIn wsX12_risesSo (va_wsS RX12 141 yX12_copies wsX12_copies) := goodIn_app (goodIn_of _ (by decide +kernel)) ggX12_risesSo_X12_copies
set_option maxRecDepth 20000 in
theorem ggX12_risesSo_X12_passes : GoodIn wsX12_risesSo wsX12_passes := goodIn_r _ [11, 12, 13, 14, 6, 15, 16, 17, 18, 19, 20, 21, 22, 23, 24, 25, 26, 27, 28, 29, 30, 31, 32, 33, 34, 35, 36, 37, 38, 39, 40, 41, 42, 43, 44, 45, 46, 47, 48, 49, 50, 51, 52, 53, 54, 55, 56, 57, 58, 59] (by decide +kernel) (by decide +kernel)
set_option maxRecDepth 20000 in
theorem gX12_risesSo_X12_passes : GoodIn wsX12_risesSo (wsV RX12 180 RX12 yX12_passes wsX12_passes) := goodIn_app (goodIn_of _ (by decide +kernel)) ggX12_risesSo_X12_passes
theorem dX12_risesSo_0 : decode cX12_risesSo 0 = .ok (.aload_n 0, 1) := by decide +kernel
theorem dX12_risesSo_1 : decode cX12_risesSo 1 = .ok (.getfield 25, 3) := by decide +kernel
theorem dX12_risesSo_4 : decode cX12_risesSo 4 = .ok (.iconst 0, 1) := by decide +kernel
theorem dX12_risesSo_5 : decode cX12_risesSo 5 = .ok (.aload_n 0, 1) := by decide +kernel
theorem dX12_risesSo_6 : decode cX12_risesSo 6 = .ok (.getfield 31, 3) := by decide +kernel
theorem dX12_risesSo_9 : decode cX12_risesSo 9 = .ok (.iconst 0, 1) := by decide +kernel
theorem dX12_risesSo_10 : decode cX12_risesSo 10 = .ok (.invokestatic 141, 3) := by decide +kernel
theorem dX12_risesSo_13 : decode cX12_risesSo 13 = .ok (.aload_n 0, 1) := by decide +kernel
theorem dX12_risesSo_14 : decode cX12_risesSo 14 = .ok (.getfield 31, 3) := by decide +kernel
theorem dX12_risesSo_17 : decode cX12_risesSo 17 = .ok (.iload 4, 2) := by decide +kernel
theorem dX12_risesSo_19 : decode cX12_risesSo 19 = .ok (.iload 5, 2) := by decide +kernel
theorem dX12_risesSo_21 : decode cX12_risesSo 21 = .ok (.iastore, 1) := by decide +kernel
theorem dX12_risesSo_22 : decode cX12_risesSo 22 = .ok (.iconst 1, 1) := by decide +kernel
theorem dX12_risesSo_23 : decode cX12_risesSo 23 = .ok (.istore 6, 2) := by decide +kernel
theorem dX12_risesSo_25 : decode cX12_risesSo 25 = .ok (.iconst 0, 1) := by decide +kernel
theorem dX12_risesSo_26 : decode cX12_risesSo 26 = .ok (.istore 7, 2) := by decide +kernel
theorem dX12_risesSo_28 : decode cX12_risesSo 28 = .ok (.iload 7, 2) := by decide +kernel
theorem dX12_risesSo_30 : decode cX12_risesSo 30 = .ok (.iload_n 3, 1) := by decide +kernel
theorem dX12_risesSo_31 : decode cX12_risesSo 31 = .ok (.if_icmp .ge 54, 3) := by decide +kernel
theorem dX12_risesSo_34 : decode cX12_risesSo 34 = .ok (.aload_n 0, 1) := by decide +kernel
theorem dX12_risesSo_35 : decode cX12_risesSo 35 = .ok (.aload_n 0, 1) := by decide +kernel
theorem dX12_risesSo_36 : decode cX12_risesSo 36 = .ok (.getfield 31, 3) := by decide +kernel
theorem dX12_risesSo_39 : decode cX12_risesSo 39 = .ok (.invokevirtual 180, 3) := by decide +kernel
theorem dX12_risesSo_42 : decode cX12_risesSo 42 = .ok (.iload 6, 2) := by decide +kernel
theorem dX12_risesSo_44 : decode cX12_risesSo 44 = .ok (.ifCond .eq 32, 3) := by decide +kernel
theorem dX12_risesSo_47 : decode cX12_risesSo 47 = .ok (.aload_n 0, 1) := by decide +kernel
theorem dX12_risesSo_48 : decode cX12_risesSo 48 = .ok (.getfield 31, 3) := by decide +kernel
theorem dX12_risesSo_51 : decode cX12_risesSo 51 = .ok (.iconst 4, 1) := by decide +kernel
theorem dX12_risesSo_52 : decode cX12_risesSo 52 = .ok (.bipush 6, 2) := by decide +kernel
theorem dX12_risesSo_54 : decode cX12_risesSo 54 = .ok (.iload_n 1, 1) := by decide +kernel
theorem dX12_risesSo_55 : decode cX12_risesSo 55 = .ok (.imul, 1) := by decide +kernel
theorem dX12_risesSo_56 : decode cX12_risesSo 56 = .ok (.iadd, 1) := by decide +kernel
theorem dX12_risesSo_57 : decode cX12_risesSo 57 = .ok (.iconst 1, 1) := by decide +kernel
theorem dX12_risesSo_58 : decode cX12_risesSo 58 = .ok (.iadd, 1) := by decide +kernel
theorem dX12_risesSo_59 : decode cX12_risesSo 59 = .ok (.iaload, 1) := by decide +kernel
theorem dX12_risesSo_60 : decode cX12_risesSo 60 = .ok (.aload_n 0, 1) := by decide +kernel
theorem dX12_risesSo_61 : decode cX12_risesSo 61 = .ok (.getfield 16, 3) := by decide +kernel
theorem dX12_risesSo_64 : decode cX12_risesSo 64 = .ok (.iload_n 2, 1) := by decide +kernel
theorem dX12_risesSo_65 : decode cX12_risesSo 65 = .ok (.iload 7, 2) := by decide +kernel
theorem dX12_risesSo_67 : decode cX12_risesSo 67 = .ok (.iadd, 1) := by decide +kernel
theorem dX12_risesSo_68 : decode cX12_risesSo 68 = .ok (.iaload, 1) := by decide +kernel
theorem dX12_risesSo_69 : decode cX12_risesSo 69 = .ok (.if_icmp .ne 7, 3) := by decide +kernel
theorem dX12_risesSo_72 : decode cX12_risesSo 72 = .ok (.iconst 1, 1) := by decide +kernel
theorem dX12_risesSo_73 : decode cX12_risesSo 73 = .ok (.goto 4, 3) := by decide +kernel
theorem dX12_risesSo_76 : decode cX12_risesSo 76 = .ok (.iconst 0, 1) := by decide +kernel
theorem dX12_risesSo_77 : decode cX12_risesSo 77 = .ok (.istore 6, 2) := by decide +kernel
theorem dX12_risesSo_79 : decode cX12_risesSo 79 = .ok (.iinc 7 1, 3) := by decide +kernel
theorem dX12_risesSo_82 : decode cX12_risesSo 82 = .ok (.goto (-54), 3) := by decide +kernel
theorem dX12_risesSo_85 : decode cX12_risesSo 85 = .ok (.iload 6, 2) := by decide +kernel
theorem dX12_risesSo_87 : decode cX12_risesSo 87 = .ok (.ireturn, 1) := by decide +kernel
set_option maxRecDepth 20000 in
theorem ggX12_fits_X12_isTurnip : GoodIn wsX12_fits wsX12_isTurnip := goodIn_r _ [6, 7, 8, 9, 5, 10, 70, 71, 72, 73, 74, 75, 76, 77, 78, 79, 80, 81, 82, 83, 84, 85, 86, 87, 88, 89, 90, 91, 92, 93, 94] (by decide +kernel) (by decide +kernel)
set_option maxRecDepth 20000 in
theorem gX12_fits_X12_isTurnip : GoodIn wsX12_fits (wsV RX12 187 RX12 yX12_isTurnip wsX12_isTurnip) := goodIn_app (goodIn_of _ (by decide +kernel)) ggX12_fits_X12_isTurnip
set_option maxRecDepth 20000 in
theorem ggX12_fits_X12_isRow : GoodIn wsX12_fits wsX12_isRow := goodIn_r _ [13, 8, 9, 5, 10] (by decide +kernel) (by decide +kernel)
set_option maxRecDepth 20000 in
theorem gX12_fits_X12_isRow : GoodIn wsX12_fits (va_wsS RX12 66 yX12_isRow wsX12_isRow) := goodIn_app (goodIn_of _ (by decide +kernel)) ggX12_fits_X12_isRow
set_option maxRecDepth 20000 in
theorem ggX12_fits_X12_in : GoodIn wsX12_fits wsX12_in := goodIn_r _ [10] (by decide +kernel) (by decide +kernel)
set_option maxRecDepth 20000 in
theorem gX12_fits_X12_in : GoodIn wsX12_fits (va_wsS RX12 62 yX12_in wsX12_in) := goodIn_app (goodIn_of _ (by decide +kernel)) ggX12_fits_X12_in
set_option maxRecDepth 20000 in
theorem ggX12_fits_X12_isMissing : GoodIn wsX12_fits wsX12_isMissing := goodIn_r _ [17, 18, 19, 70, 71, 72, 73, 74, 75, 76, 77, 78, 79, 80, 81, 82, 83, 84, 85, 86, 87, 88, 89, 90, 91, 92, 93, 94] (by decide +kernel) (by decide +kernel)
set_option maxRecDepth 20000 in
theorem gX12_fits_X12_isMissing : GoodIn wsX12_fits (wsV RX12 78 RX12 yX12_isMissing wsX12_isMissing) := goodIn_app (goodIn_of _ (by decide +kernel)) ggX12_fits_X12_isMissing
set_option maxRecDepth 20000 in
theorem ggX12_fits_X12_found : GoodIn wsX12_fits wsX12_found := goodIn_r _ [23, 24, 25, 70, 71, 72, 73, 74, 75, 76, 77, 78, 79, 80, 81, 82, 83, 84, 85, 86, 87, 88, 89, 90, 91, 92, 93, 94] (by decide +kernel) (by decide +kernel)
set_option maxRecDepth 20000 in
theorem gX12_fits_X12_found : GoodIn wsX12_fits (wsV RX12 71 RX12 yX12_found wsX12_found) := goodIn_app (goodIn_of _ (by decide +kernel)) ggX12_fits_X12_found
set_option maxRecDepth 20000 in
theorem ggX12_fits_X12_isPart : GoodIn wsX12_fits wsX12_isPart := goodIn_r _ [29, 30, 70, 71, 72, 73, 74, 75, 76, 77, 78, 79, 80, 81, 82, 83, 84, 85, 86, 87, 88, 89, 90, 91, 92, 93, 94] (by decide +kernel) (by decide +kernel)
set_option maxRecDepth 20000 in
theorem gX12_fits_X12_isPart : GoodIn wsX12_fits (wsV RX12 85 RX12 yX12_isPart wsX12_isPart) := goodIn_app (goodIn_of _ (by decide +kernel)) ggX12_fits_X12_isPart
set_option maxRecDepth 20000 in
theorem ggX12_fits_X12_risesSo : GoodIn wsX12_fits wsX12_risesSo := goodIn_r _ [34, 7, 35, 36, 37, 38, 5, 39, 40, 41, 42, 43, 44, 45, 46, 47, 19, 48, 49, 50, 51, 52, 53, 54, 55, 56, 57, 58, 59, 60, 61, 62, 63, 64, 65, 70, 71, 72, 73, 74, 75, 76, 77, 78, 79, 80, 81, 82, 83, 84, 85, 86, 87, 88, 89, 90, 91, 92, 93, 94] (by decide +kernel) (by decide +kernel)
set_option maxRecDepth 20000 in
theorem gX12_fits_X12_risesSo : GoodIn wsX12_fits (wsV RX12 213 RX12 yX12_risesSo wsX12_risesSo) := goodIn_app (goodIn_of _ (by decide +kernel)) ggX12_fits_X12_risesSo
set_option maxRecDepth 20000 in
theorem ggX12_fits_X12_well : GoodIn wsX12_fits wsX12_well := goodIn_r _ [69, 24, 70, 71, 72, 73, 74, 75, 76, 77, 78, 79, 80, 81, 82, 83, 84, 85, 86, 87, 88, 89, 90, 91, 92, 93, 94] (by decide +kernel) (by decide +kernel)
set_option maxRecDepth 20000 in
theorem gX12_fits_X12_well : GoodIn wsX12_fits (wsV RX12 75 RX12 yX12_well wsX12_well) := goodIn_app (goodIn_of _ (by decide +kernel)) ggX12_fits_X12_well
theorem dX12_fits_0 : decode cX12_fits 0 = .ok (.aload_n 0, 1) := by decide +kernel
theorem dX12_fits_1 : decode cX12_fits 1 = .ok (.iload_n 1, 1) := by decide +kernel
theorem dX12_fits_2 : decode cX12_fits 2 = .ok (.invokevirtual 187, 3) := by decide +kernel
theorem dX12_fits_5 : decode cX12_fits 5 = .ok (.ifCond .eq 31, 3) := by decide +kernel
theorem dX12_fits_8 : decode cX12_fits 8 = .ok (.iload_n 2, 1) := by decide +kernel
theorem dX12_fits_9 : decode cX12_fits 9 = .ok (.invokestatic 66, 3) := by decide +kernel
theorem dX12_fits_12 : decode cX12_fits 12 = .ok (.ifCond .eq 24, 3) := by decide +kernel
theorem dX12_fits_15 : decode cX12_fits 15 = .ok (.iload 4, 2) := by decide +kernel
theorem dX12_fits_17 : decode cX12_fits 17 = .ok (.iconst 1, 1) := by decide +kernel
theorem dX12_fits_18 : decode cX12_fits 18 = .ok (.bipush 12, 2) := by decide +kernel
theorem dX12_fits_20 : decode cX12_fits 20 = .ok (.invokestatic 62, 3) := by decide +kernel
theorem dX12_fits_23 : decode cX12_fits 23 = .ok (.ifCond .eq 13, 3) := by decide +kernel
theorem dX12_fits_26 : decode cX12_fits 26 = .ok (.iload 5, 2) := by decide +kernel
theorem dX12_fits_28 : decode cX12_fits 28 = .ok (.iconst 0, 1) := by decide +kernel
theorem dX12_fits_29 : decode cX12_fits 29 = .ok (.iconst 3, 1) := by decide +kernel
theorem dX12_fits_30 : decode cX12_fits 30 = .ok (.invokestatic 62, 3) := by decide +kernel
theorem dX12_fits_33 : decode cX12_fits 33 = .ok (.ifCond .ne 6, 3) := by decide +kernel
theorem dX12_fits_36 : decode cX12_fits 36 = .ok (.ldc 70, 2) := by decide +kernel
theorem dX12_fits_38 : decode cX12_fits 38 = .ok (.ireturn, 1) := by decide +kernel
theorem dX12_fits_39 : decode cX12_fits 39 = .ok (.aload_n 0, 1) := by decide +kernel
theorem dX12_fits_40 : decode cX12_fits 40 = .ok (.iload_n 2, 1) := by decide +kernel
theorem dX12_fits_41 : decode cX12_fits 41 = .ok (.invokevirtual 78, 3) := by decide +kernel
theorem dX12_fits_44 : decode cX12_fits 44 = .ok (.ifCond .eq 9, 3) := by decide +kernel
theorem dX12_fits_47 : decode cX12_fits 47 = .ok (.aload_n 0, 1) := by decide +kernel
theorem dX12_fits_48 : decode cX12_fits 48 = .ok (.iconst 1, 1) := by decide +kernel
theorem dX12_fits_49 : decode cX12_fits 49 = .ok (.invokevirtual 71, 3) := by decide +kernel
theorem dX12_fits_52 : decode cX12_fits 52 = .ok (.ireturn, 1) := by decide +kernel
theorem dX12_fits_53 : decode cX12_fits 53 = .ok (.aload_n 0, 1) := by decide +kernel
theorem dX12_fits_54 : decode cX12_fits 54 = .ok (.iload_n 2, 1) := by decide +kernel
theorem dX12_fits_55 : decode cX12_fits 55 = .ok (.iload_n 3, 1) := by decide +kernel
theorem dX12_fits_56 : decode cX12_fits 56 = .ok (.iload 4, 2) := by decide +kernel
theorem dX12_fits_58 : decode cX12_fits 58 = .ok (.invokevirtual 85, 3) := by decide +kernel
theorem dX12_fits_61 : decode cX12_fits 61 = .ok (.ifCond .ne 9, 3) := by decide +kernel
theorem dX12_fits_64 : decode cX12_fits 64 = .ok (.aload_n 0, 1) := by decide +kernel
theorem dX12_fits_65 : decode cX12_fits 65 = .ok (.iconst 2, 1) := by decide +kernel
theorem dX12_fits_66 : decode cX12_fits 66 = .ok (.invokevirtual 71, 3) := by decide +kernel
theorem dX12_fits_69 : decode cX12_fits 69 = .ok (.ireturn, 1) := by decide +kernel
theorem dX12_fits_70 : decode cX12_fits 70 = .ok (.iconst 4, 1) := by decide +kernel
theorem dX12_fits_71 : decode cX12_fits 71 = .ok (.bipush 6, 2) := by decide +kernel
theorem dX12_fits_73 : decode cX12_fits 73 = .ok (.iload_n 1, 1) := by decide +kernel
theorem dX12_fits_74 : decode cX12_fits 74 = .ok (.imul, 1) := by decide +kernel
theorem dX12_fits_75 : decode cX12_fits 75 = .ok (.iadd, 1) := by decide +kernel
theorem dX12_fits_76 : decode cX12_fits 76 = .ok (.istore 6, 2) := by decide +kernel
theorem dX12_fits_78 : decode cX12_fits 78 = .ok (.iload 5, 2) := by decide +kernel
theorem dX12_fits_80 : decode cX12_fits 80 = .ok (.ifCond .ne 8, 3) := by decide +kernel
theorem dX12_fits_83 : decode cX12_fits 83 = .ok (.iload 6, 2) := by decide +kernel
theorem dX12_fits_85 : decode cX12_fits 85 = .ok (.goto 27, 3) := by decide +kernel
theorem dX12_fits_88 : decode cX12_fits 88 = .ok (.iload 5, 2) := by decide +kernel
theorem dX12_fits_90 : decode cX12_fits 90 = .ok (.iconst 1, 1) := by decide +kernel
theorem dX12_fits_91 : decode cX12_fits 91 = .ok (.if_icmp .ne 10, 3) := by decide +kernel
theorem dX12_fits_94 : decode cX12_fits 94 = .ok (.iload 6, 2) := by decide +kernel
theorem dX12_fits_96 : decode cX12_fits 96 = .ok (.iconst 2, 1) := by decide +kernel
theorem dX12_fits_97 : decode cX12_fits 97 = .ok (.iadd, 1) := by decide +kernel
theorem dX12_fits_98 : decode cX12_fits 98 = .ok (.goto 14, 3) := by decide +kernel
theorem dX12_fits_101 : decode cX12_fits 101 = .ok (.iload 5, 2) := by decide +kernel
theorem dX12_fits_103 : decode cX12_fits 103 = .ok (.iconst 2, 1) := by decide +kernel
theorem dX12_fits_104 : decode cX12_fits 104 = .ok (.if_icmp .ne 7, 3) := by decide +kernel
theorem dX12_fits_107 : decode cX12_fits 107 = .ok (.iconst 0, 1) := by decide +kernel
theorem dX12_fits_108 : decode cX12_fits 108 = .ok (.goto 4, 3) := by decide +kernel
theorem dX12_fits_111 : decode cX12_fits 111 = .ok (.iconst 1, 1) := by decide +kernel
theorem dX12_fits_112 : decode cX12_fits 112 = .ok (.istore 7, 2) := by decide +kernel
theorem dX12_fits_114 : decode cX12_fits 114 = .ok (.iload 5, 2) := by decide +kernel
theorem dX12_fits_116 : decode cX12_fits 116 = .ok (.ifCond .ne 7, 3) := by decide +kernel
theorem dX12_fits_119 : decode cX12_fits 119 = .ok (.iconst 5, 1) := by decide +kernel
theorem dX12_fits_120 : decode cX12_fits 120 = .ok (.goto 16, 3) := by decide +kernel
theorem dX12_fits_123 : decode cX12_fits 123 = .ok (.iload 5, 2) := by decide +kernel
theorem dX12_fits_125 : decode cX12_fits 125 = .ok (.iconst 3, 1) := by decide +kernel
theorem dX12_fits_126 : decode cX12_fits 126 = .ok (.if_icmp .ne 8, 3) := by decide +kernel
theorem dX12_fits_129 : decode cX12_fits 129 = .ok (.bipush 15, 2) := by decide +kernel
theorem dX12_fits_131 : decode cX12_fits 131 = .ok (.goto 5, 3) := by decide +kernel
theorem dX12_fits_134 : decode cX12_fits 134 = .ok (.bipush 9, 2) := by decide +kernel
theorem dX12_fits_136 : decode cX12_fits 136 = .ok (.istore 8, 2) := by decide +kernel
theorem dX12_fits_138 : decode cX12_fits 138 = .ok (.iconst 0, 1) := by decide +kernel
theorem dX12_fits_139 : decode cX12_fits 139 = .ok (.istore 9, 2) := by decide +kernel
theorem dX12_fits_141 : decode cX12_fits 141 = .ok (.iload 5, 2) := by decide +kernel
theorem dX12_fits_143 : decode cX12_fits 143 = .ok (.iconst 2, 1) := by decide +kernel
theorem dX12_fits_144 : decode cX12_fits 144 = .ok (.irem, 1) := by decide +kernel
theorem dX12_fits_145 : decode cX12_fits 145 = .ok (.ifCond .ne 7, 3) := by decide +kernel
theorem dX12_fits_148 : decode cX12_fits 148 = .ok (.iconst 1, 1) := by decide +kernel
theorem dX12_fits_149 : decode cX12_fits 149 = .ok (.goto 4, 3) := by decide +kernel
theorem dX12_fits_152 : decode cX12_fits 152 = .ok (.iconst 0, 1) := by decide +kernel
theorem dX12_fits_153 : decode cX12_fits 153 = .ok (.istore 10, 2) := by decide +kernel
theorem dX12_fits_155 : decode cX12_fits 155 = .ok (.iload 10, 2) := by decide +kernel
theorem dX12_fits_157 : decode cX12_fits 157 = .ok (.iload 8, 2) := by decide +kernel
theorem dX12_fits_159 : decode cX12_fits 159 = .ok (.if_icmp .gt 42, 3) := by decide +kernel
theorem dX12_fits_162 : decode cX12_fits 162 = .ok (.iload 9, 2) := by decide +kernel
theorem dX12_fits_164 : decode cX12_fits 164 = .ok (.aload_n 0, 1) := by decide +kernel
theorem dX12_fits_165 : decode cX12_fits 165 = .ok (.iload_n 1, 1) := by decide +kernel
theorem dX12_fits_166 : decode cX12_fits 166 = .ok (.bipush 40, 2) := by decide +kernel
theorem dX12_fits_168 : decode cX12_fits 168 = .ok (.iload_n 2, 1) := by decide +kernel
theorem dX12_fits_169 : decode cX12_fits 169 = .ok (.imul, 1) := by decide +kernel
theorem dX12_fits_170 : decode cX12_fits 170 = .ok (.iload_n 3, 1) := by decide +kernel
theorem dX12_fits_171 : decode cX12_fits 171 = .ok (.iadd, 1) := by decide +kernel
theorem dX12_fits_172 : decode cX12_fits 172 = .ok (.iload 4, 2) := by decide +kernel
theorem dX12_fits_174 : decode cX12_fits 174 = .ok (.iload 7, 2) := by decide +kernel
theorem dX12_fits_176 : decode cX12_fits 176 = .ok (.iload 10, 2) := by decide +kernel
theorem dX12_fits_178 : decode cX12_fits 178 = .ok (.invokevirtual 213, 3) := by decide +kernel
theorem dX12_fits_181 : decode cX12_fits 181 = .ok (.ifCond .eq 10, 3) := by decide +kernel
theorem dX12_fits_184 : decode cX12_fits 184 = .ok (.iconst 1, 1) := by decide +kernel
theorem dX12_fits_185 : decode cX12_fits 185 = .ok (.iload 10, 2) := by decide +kernel
theorem dX12_fits_187 : decode cX12_fits 187 = .ok (.ishl, 1) := by decide +kernel
theorem dX12_fits_188 : decode cX12_fits 188 = .ok (.goto 4, 3) := by decide +kernel
theorem dX12_fits_191 : decode cX12_fits 191 = .ok (.iconst 0, 1) := by decide +kernel
theorem dX12_fits_192 : decode cX12_fits 192 = .ok (.ior, 1) := by decide +kernel
theorem dX12_fits_193 : decode cX12_fits 193 = .ok (.istore 9, 2) := by decide +kernel
theorem dX12_fits_195 : decode cX12_fits 195 = .ok (.iinc 10 1, 3) := by decide +kernel
theorem dX12_fits_198 : decode cX12_fits 198 = .ok (.goto (-43), 3) := by decide +kernel
theorem dX12_fits_201 : decode cX12_fits 201 = .ok (.aload_n 0, 1) := by decide +kernel
theorem dX12_fits_202 : decode cX12_fits 202 = .ok (.iload 9, 2) := by decide +kernel
theorem dX12_fits_204 : decode cX12_fits 204 = .ok (.invokevirtual 75, 3) := by decide +kernel
theorem dX12_fits_207 : decode cX12_fits 207 = .ok (.ireturn, 1) := by decide +kernel
set_option maxRecDepth 20000 in
theorem ggX12_chance_X12_isTurnip : GoodIn wsX12_chance wsX12_isTurnip := goodIn_r _ [8, 2, 9, 10, 7, 11, 42, 43, 44, 45, 46, 47, 48, 49, 50, 51, 52, 53, 54, 55, 56, 57, 58, 59, 60, 61, 62, 63, 64, 65, 66] (by decide +kernel) (by decide +kernel)
set_option maxRecDepth 20000 in
theorem gX12_chance_X12_isTurnip : GoodIn wsX12_chance (wsV RX12 187 RX12 yX12_isTurnip wsX12_isTurnip) := goodIn_app (goodIn_of _ (by decide +kernel)) ggX12_chance_X12_isTurnip
set_option maxRecDepth 20000 in
theorem ggX12_chance_X12_in : GoodIn wsX12_chance wsX12_in := goodIn_r _ [11] (by decide +kernel) (by decide +kernel)
set_option maxRecDepth 20000 in
theorem gX12_chance_X12_in : GoodIn wsX12_chance (va_wsS RX12 62 yX12_in wsX12_in) := goodIn_app (goodIn_of _ (by decide +kernel)) ggX12_chance_X12_in
set_option maxRecDepth 20000 in
theorem ggX12_chance_X12_copies : GoodIn wsX12_chance wsX12_copies := goodIn_r _ [14] (by decide +kernel) (by decide +kernel)
set_option maxRecDepth 20000 in
theorem gX12_chance_X12_copies : GoodIn wsX12_chance (va_wsS RX12 141 yX12_copies wsX12_copies) := goodIn_app (goodIn_of _ (by decide +kernel)) ggX12_chance_X12_copies
set_option maxRecDepth 20000 in
theorem ggX12_chance_X12_has : GoodIn wsX12_chance wsX12_has := goodIn_r _ [17] (by decide +kernel) (by decide +kernel)
set_option maxRecDepth 20000 in
theorem gX12_chance_X12_has : GoodIn wsX12_chance (va_wsS RX12 156 yX12_has wsX12_has) := goodIn_app (goodIn_of _ (by decide +kernel)) ggX12_chance_X12_has
set_option maxRecDepth 20000 in
theorem ggX12_chance_X12_passes : GoodIn wsX12_chance wsX12_passes := goodIn_r _ [21, 22, 23, 24, 7, 25, 26, 27, 28, 29, 15, 16, 17, 30, 31, 32, 33, 34, 35, 36, 37, 38, 39, 40, 41, 42, 43, 44, 45, 46, 47, 48, 49, 50, 51, 52, 53, 54, 55, 56, 57, 58, 59, 60, 61, 62, 63, 64, 65, 66] (by decide +kernel) (by decide +kernel)
set_option maxRecDepth 20000 in
theorem gX12_chance_X12_passes : GoodIn wsX12_chance (wsV RX12 180 RX12 yX12_passes wsX12_passes) := goodIn_app (goodIn_of _ (by decide +kernel)) ggX12_chance_X12_passes
theorem dX12_chance_0 : decode cX12_chance 0 = .ok (.aload_n 0, 1) := by decide +kernel
theorem dX12_chance_1 : decode cX12_chance 1 = .ok (.iload_n 1, 1) := by decide +kernel
theorem dX12_chance_2 : decode cX12_chance 2 = .ok (.invokevirtual 187, 3) := by decide +kernel
theorem dX12_chance_5 : decode cX12_chance 5 = .ok (.ifCond .eq 44, 3) := by decide +kernel
theorem dX12_chance_8 : decode cX12_chance 8 = .ok (.iload_n 2, 1) := by decide +kernel
theorem dX12_chance_9 : decode cX12_chance 9 = .ok (.iconst 0, 1) := by decide +kernel
theorem dX12_chance_10 : decode cX12_chance 10 = .ok (.bipush 9, 2) := by decide +kernel
theorem dX12_chance_12 : decode cX12_chance 12 = .ok (.invokestatic 62, 3) := by decide +kernel
theorem dX12_chance_15 : decode cX12_chance 15 = .ok (.ifCond .eq 34, 3) := by decide +kernel
theorem dX12_chance_18 : decode cX12_chance 18 = .ok (.iload_n 3, 1) := by decide +kernel
theorem dX12_chance_19 : decode cX12_chance 19 = .ok (.iconst 0, 1) := by decide +kernel
theorem dX12_chance_20 : decode cX12_chance 20 = .ok (.bipush 8, 2) := by decide +kernel
theorem dX12_chance_22 : decode cX12_chance 22 = .ok (.invokestatic 62, 3) := by decide +kernel
theorem dX12_chance_25 : decode cX12_chance 25 = .ok (.ifCond .eq 24, 3) := by decide +kernel
theorem dX12_chance_28 : decode cX12_chance 28 = .ok (.iload 4, 2) := by decide +kernel
theorem dX12_chance_30 : decode cX12_chance 30 = .ok (.iconst 0, 1) := by decide +kernel
theorem dX12_chance_31 : decode cX12_chance 31 = .ok (.bipush 10, 2) := by decide +kernel
theorem dX12_chance_33 : decode cX12_chance 33 = .ok (.invokestatic 62, 3) := by decide +kernel
theorem dX12_chance_36 : decode cX12_chance 36 = .ok (.ifCond .eq 13, 3) := by decide +kernel
theorem dX12_chance_39 : decode cX12_chance 39 = .ok (.iload 5, 2) := by decide +kernel
theorem dX12_chance_41 : decode cX12_chance 41 = .ok (.iconst 0, 1) := by decide +kernel
theorem dX12_chance_42 : decode cX12_chance 42 = .ok (.iconst 1, 1) := by decide +kernel
theorem dX12_chance_43 : decode cX12_chance 43 = .ok (.invokestatic 62, 3) := by decide +kernel
theorem dX12_chance_46 : decode cX12_chance 46 = .ok (.ifCond .ne 6, 3) := by decide +kernel
theorem dX12_chance_49 : decode cX12_chance 49 = .ok (.ldc 70, 2) := by decide +kernel
theorem dX12_chance_51 : decode cX12_chance 51 = .ok (.ireturn, 1) := by decide +kernel
theorem dX12_chance_52 : decode cX12_chance 52 = .ok (.iconst 0, 1) := by decide +kernel
theorem dX12_chance_53 : decode cX12_chance 53 = .ok (.istore 6, 2) := by decide +kernel
theorem dX12_chance_55 : decode cX12_chance 55 = .ok (.iconst 1, 1) := by decide +kernel
theorem dX12_chance_56 : decode cX12_chance 56 = .ok (.istore 7, 2) := by decide +kernel
theorem dX12_chance_58 : decode cX12_chance 58 = .ok (.iconst 0, 1) := by decide +kernel
theorem dX12_chance_59 : decode cX12_chance 59 = .ok (.istore 8, 2) := by decide +kernel
theorem dX12_chance_61 : decode cX12_chance 61 = .ok (.iload 8, 2) := by decide +kernel
theorem dX12_chance_63 : decode cX12_chance 63 = .ok (.iload_n 3, 1) := by decide +kernel
theorem dX12_chance_64 : decode cX12_chance 64 = .ok (.if_icmp .ge 16, 3) := by decide +kernel
theorem dX12_chance_67 : decode cX12_chance 67 = .ok (.iload 7, 2) := by decide +kernel
theorem dX12_chance_69 : decode cX12_chance 69 = .ok (.bipush 10, 2) := by decide +kernel
theorem dX12_chance_71 : decode cX12_chance 71 = .ok (.imul, 1) := by decide +kernel
theorem dX12_chance_72 : decode cX12_chance 72 = .ok (.istore 7, 2) := by decide +kernel
theorem dX12_chance_74 : decode cX12_chance 74 = .ok (.iinc 8 1, 3) := by decide +kernel
theorem dX12_chance_77 : decode cX12_chance 77 = .ok (.goto (-16), 3) := by decide +kernel
theorem dX12_chance_80 : decode cX12_chance 80 = .ok (.iconst 0, 1) := by decide +kernel
theorem dX12_chance_81 : decode cX12_chance 81 = .ok (.istore 8, 2) := by decide +kernel
theorem dX12_chance_83 : decode cX12_chance 83 = .ok (.iload 8, 2) := by decide +kernel
theorem dX12_chance_85 : decode cX12_chance 85 = .ok (.iconst 1, 1) := by decide +kernel
theorem dX12_chance_86 : decode cX12_chance 86 = .ok (.iload_n 3, 1) := by decide +kernel
theorem dX12_chance_87 : decode cX12_chance 87 = .ok (.ishl, 1) := by decide +kernel
theorem dX12_chance_88 : decode cX12_chance 88 = .ok (.if_icmp .ge 123, 3) := by decide +kernel
theorem dX12_chance_91 : decode cX12_chance 91 = .ok (.iconst 1, 1) := by decide +kernel
theorem dX12_chance_92 : decode cX12_chance 92 = .ok (.istore 9, 2) := by decide +kernel
theorem dX12_chance_94 : decode cX12_chance 94 = .ok (.aload_n 0, 1) := by decide +kernel
theorem dX12_chance_95 : decode cX12_chance 95 = .ok (.getfield 25, 3) := by decide +kernel
theorem dX12_chance_98 : decode cX12_chance 98 = .ok (.iconst 0, 1) := by decide +kernel
theorem dX12_chance_99 : decode cX12_chance 99 = .ok (.aload_n 0, 1) := by decide +kernel
theorem dX12_chance_100 : decode cX12_chance 100 = .ok (.getfield 31, 3) := by decide +kernel
theorem dX12_chance_103 : decode cX12_chance 103 = .ok (.iconst 0, 1) := by decide +kernel
theorem dX12_chance_104 : decode cX12_chance 104 = .ok (.invokestatic 141, 3) := by decide +kernel
theorem dX12_chance_107 : decode cX12_chance 107 = .ok (.iconst 0, 1) := by decide +kernel
theorem dX12_chance_108 : decode cX12_chance 108 = .ok (.istore 10, 2) := by decide +kernel
theorem dX12_chance_110 : decode cX12_chance 110 = .ok (.iload 10, 2) := by decide +kernel
theorem dX12_chance_112 : decode cX12_chance 112 = .ok (.iload_n 3, 1) := by decide +kernel
theorem dX12_chance_113 : decode cX12_chance 113 = .ok (.if_icmp .ge 64, 3) := by decide +kernel
theorem dX12_chance_116 : decode cX12_chance 116 = .ok (.iload 9, 2) := by decide +kernel
theorem dX12_chance_118 : decode cX12_chance 118 = .ok (.iload 8, 2) := by decide +kernel
theorem dX12_chance_120 : decode cX12_chance 120 = .ok (.iload 10, 2) := by decide +kernel
theorem dX12_chance_122 : decode cX12_chance 122 = .ok (.invokestatic 156, 3) := by decide +kernel
theorem dX12_chance_125 : decode cX12_chance 125 = .ok (.ifCond .eq 8, 3) := by decide +kernel
theorem dX12_chance_128 : decode cX12_chance 128 = .ok (.iload 4, 2) := by decide +kernel
theorem dX12_chance_130 : decode cX12_chance 130 = .ok (.goto 8, 3) := by decide +kernel
theorem dX12_chance_133 : decode cX12_chance 133 = .ok (.bipush 10, 2) := by decide +kernel
theorem dX12_chance_135 : decode cX12_chance 135 = .ok (.iload 4, 2) := by decide +kernel
theorem dX12_chance_137 : decode cX12_chance 137 = .ok (.isub, 1) := by decide +kernel
theorem dX12_chance_138 : decode cX12_chance 138 = .ok (.imul, 1) := by decide +kernel
theorem dX12_chance_139 : decode cX12_chance 139 = .ok (.istore 9, 2) := by decide +kernel
theorem dX12_chance_141 : decode cX12_chance 141 = .ok (.aload_n 0, 1) := by decide +kernel
theorem dX12_chance_142 : decode cX12_chance 142 = .ok (.getfield 31, 3) := by decide +kernel
theorem dX12_chance_145 : decode cX12_chance 145 = .ok (.iconst 1, 1) := by decide +kernel
theorem dX12_chance_146 : decode cX12_chance 146 = .ok (.iload 8, 2) := by decide +kernel
theorem dX12_chance_148 : decode cX12_chance 148 = .ok (.iload 10, 2) := by decide +kernel
theorem dX12_chance_150 : decode cX12_chance 150 = .ok (.invokestatic 156, 3) := by decide +kernel
theorem dX12_chance_153 : decode cX12_chance 153 = .ok (.ifCond .eq 8, 3) := by decide +kernel
theorem dX12_chance_156 : decode cX12_chance 156 = .ok (.bipush 15, 2) := by decide +kernel
theorem dX12_chance_158 : decode cX12_chance 158 = .ok (.goto 4, 3) := by decide +kernel
theorem dX12_chance_161 : decode cX12_chance 161 = .ok (.iconst 0, 1) := by decide +kernel
theorem dX12_chance_162 : decode cX12_chance 162 = .ok (.iastore, 1) := by decide +kernel
theorem dX12_chance_163 : decode cX12_chance 163 = .ok (.aload_n 0, 1) := by decide +kernel
theorem dX12_chance_164 : decode cX12_chance 164 = .ok (.aload_n 0, 1) := by decide +kernel
theorem dX12_chance_165 : decode cX12_chance 165 = .ok (.getfield 31, 3) := by decide +kernel
theorem dX12_chance_168 : decode cX12_chance 168 = .ok (.invokevirtual 180, 3) := by decide +kernel
theorem dX12_chance_171 : decode cX12_chance 171 = .ok (.iinc 10 1, 3) := by decide +kernel
theorem dX12_chance_174 : decode cX12_chance 174 = .ok (.goto (-64), 3) := by decide +kernel
theorem dX12_chance_177 : decode cX12_chance 177 = .ok (.iload 6, 2) := by decide +kernel
theorem dX12_chance_179 : decode cX12_chance 179 = .ok (.aload_n 0, 1) := by decide +kernel
theorem dX12_chance_180 : decode cX12_chance 180 = .ok (.getfield 31, 3) := by decide +kernel
theorem dX12_chance_183 : decode cX12_chance 183 = .ok (.iconst 4, 1) := by decide +kernel
theorem dX12_chance_184 : decode cX12_chance 184 = .ok (.bipush 6, 2) := by decide +kernel
theorem dX12_chance_186 : decode cX12_chance 186 = .ok (.iload_n 1, 1) := by decide +kernel
theorem dX12_chance_187 : decode cX12_chance 187 = .ok (.imul, 1) := by decide +kernel
theorem dX12_chance_188 : decode cX12_chance 188 = .ok (.iadd, 1) := by decide +kernel
theorem dX12_chance_189 : decode cX12_chance 189 = .ok (.iconst 1, 1) := by decide +kernel
theorem dX12_chance_190 : decode cX12_chance 190 = .ok (.iadd, 1) := by decide +kernel
theorem dX12_chance_191 : decode cX12_chance 191 = .ok (.iaload, 1) := by decide +kernel
theorem dX12_chance_192 : decode cX12_chance 192 = .ok (.iload_n 2, 1) := by decide +kernel
theorem dX12_chance_193 : decode cX12_chance 193 = .ok (.if_icmp .lt 8, 3) := by decide +kernel
theorem dX12_chance_196 : decode cX12_chance 196 = .ok (.iload 9, 2) := by decide +kernel
theorem dX12_chance_198 : decode cX12_chance 198 = .ok (.goto 4, 3) := by decide +kernel
theorem dX12_chance_201 : decode cX12_chance 201 = .ok (.iconst 0, 1) := by decide +kernel
theorem dX12_chance_202 : decode cX12_chance 202 = .ok (.iadd, 1) := by decide +kernel
theorem dX12_chance_203 : decode cX12_chance 203 = .ok (.istore 6, 2) := by decide +kernel
theorem dX12_chance_205 : decode cX12_chance 205 = .ok (.iinc 8 1, 3) := by decide +kernel
theorem dX12_chance_208 : decode cX12_chance 208 = .ok (.goto (-125), 3) := by decide +kernel
theorem dX12_chance_211 : decode cX12_chance 211 = .ok (.iload 6, 2) := by decide +kernel
theorem dX12_chance_213 : decode cX12_chance 213 = .ok (.istore 8, 2) := by decide +kernel
theorem dX12_chance_215 : decode cX12_chance 215 = .ok (.iload 7, 2) := by decide +kernel
theorem dX12_chance_217 : decode cX12_chance 217 = .ok (.istore 9, 2) := by decide +kernel
theorem dX12_chance_219 : decode cX12_chance 219 = .ok (.iload 9, 2) := by decide +kernel
theorem dX12_chance_221 : decode cX12_chance 221 = .ok (.ifCond .eq 21, 3) := by decide +kernel
theorem dX12_chance_224 : decode cX12_chance 224 = .ok (.iload 8, 2) := by decide +kernel
theorem dX12_chance_226 : decode cX12_chance 226 = .ok (.iload 9, 2) := by decide +kernel
theorem dX12_chance_228 : decode cX12_chance 228 = .ok (.irem, 1) := by decide +kernel
theorem dX12_chance_229 : decode cX12_chance 229 = .ok (.istore 10, 2) := by decide +kernel
theorem dX12_chance_231 : decode cX12_chance 231 = .ok (.iload 9, 2) := by decide +kernel
theorem dX12_chance_233 : decode cX12_chance 233 = .ok (.istore 8, 2) := by decide +kernel
theorem dX12_chance_235 : decode cX12_chance 235 = .ok (.iload 10, 2) := by decide +kernel
theorem dX12_chance_237 : decode cX12_chance 237 = .ok (.istore 9, 2) := by decide +kernel
theorem dX12_chance_239 : decode cX12_chance 239 = .ok (.goto (-20), 3) := by decide +kernel
theorem dX12_chance_242 : decode cX12_chance 242 = .ok (.iload 5, 2) := by decide +kernel
theorem dX12_chance_244 : decode cX12_chance 244 = .ok (.ifCond .ne 8, 3) := by decide +kernel
theorem dX12_chance_247 : decode cX12_chance 247 = .ok (.iload 6, 2) := by decide +kernel
theorem dX12_chance_249 : decode cX12_chance 249 = .ok (.goto 5, 3) := by decide +kernel
theorem dX12_chance_252 : decode cX12_chance 252 = .ok (.iload 7, 2) := by decide +kernel
theorem dX12_chance_254 : decode cX12_chance 254 = .ok (.iload 8, 2) := by decide +kernel
theorem dX12_chance_256 : decode cX12_chance 256 = .ok (.idiv, 1) := by decide +kernel
theorem dX12_chance_257 : decode cX12_chance 257 = .ok (.ireturn, 1) := by decide +kernel
set_option maxRecDepth 20000 in
theorem ggX12_drawn_X12_isField : GoodIn wsX12_drawn wsX12_isField := goodIn_r _ [15, 4, 55, 56, 57, 58, 59, 60, 61, 62, 63, 64, 65, 66, 67, 68, 69, 70, 71, 72, 73, 74, 75, 76, 77, 78, 79] (by decide +kernel) (by decide +kernel)
set_option maxRecDepth 20000 in
theorem gX12_drawn_X12_isField : GoodIn wsX12_drawn (wsV RX12 173 RX12 yX12_isField wsX12_isField) := goodIn_app (goodIn_of _ (by decide +kernel)) ggX12_drawn_X12_isField
set_option maxRecDepth 20000 in
theorem ggX12_drawn_X12_in : GoodIn wsX12_drawn wsX12_in := goodIn_r _ [18] (by decide +kernel) (by decide +kernel)
set_option maxRecDepth 20000 in
theorem gX12_drawn_X12_in : GoodIn wsX12_drawn (va_wsS RX12 62 yX12_in wsX12_in) := goodIn_app (goodIn_of _ (by decide +kernel)) ggX12_drawn_X12_in
set_option maxRecDepth 20000 in
theorem ggX12_drawn_X12_copies : GoodIn wsX12_drawn wsX12_copies := goodIn_r _ [21] (by decide +kernel) (by decide +kernel)
set_option maxRecDepth 20000 in
theorem gX12_drawn_X12_copies : GoodIn wsX12_drawn (va_wsS RX12 141 yX12_copies wsX12_copies) := goodIn_app (goodIn_of _ (by decide +kernel)) ggX12_drawn_X12_copies
set_option maxRecDepth 20000 in
theorem ggX12_drawn_X12_changes : GoodIn wsX12_drawn wsX12_changes := goodIn_r _ [24] (by decide +kernel) (by decide +kernel)
set_option maxRecDepth 20000 in
theorem gX12_drawn_X12_changes : GoodIn wsX12_drawn (va_wsS RX12 194 yX12_changes wsX12_changes) := goodIn_app (goodIn_of _ (by decide +kernel)) ggX12_drawn_X12_changes
set_option maxRecDepth 20000 in
theorem ggX12_drawn_X12_passes : GoodIn wsX12_drawn wsX12_passes := goodIn_r _ [28, 29, 30, 31, 14, 32, 33, 34, 35, 36, 37, 38, 39, 40, 41, 42, 43, 44, 45, 46, 47, 48, 49, 50, 51, 55, 56, 57, 58, 59, 60, 61, 62, 63, 64, 65, 66, 67, 68, 69, 70, 71, 72, 73, 74, 75, 76, 77, 78, 79] (by decide +kernel) (by decide +kernel)
set_option maxRecDepth 20000 in
theorem gX12_drawn_X12_passes : GoodIn wsX12_drawn (wsV RX12 180 RX12 yX12_passes wsX12_passes) := goodIn_app (goodIn_of _ (by decide +kernel)) ggX12_drawn_X12_passes
set_option maxRecDepth 20000 in
theorem ggX12_drawn_X12_sumOf : GoodIn wsX12_drawn wsX12_sumOf := goodIn_r _ [54] (by decide +kernel) (by decide +kernel)
set_option maxRecDepth 20000 in
theorem gX12_drawn_X12_sumOf : GoodIn wsX12_drawn (va_wsS RX12 184 yX12_sumOf wsX12_sumOf) := goodIn_app (goodIn_of _ (by decide +kernel)) ggX12_drawn_X12_sumOf
theorem dX12_drawn_0 : decode cX12_drawn 0 = .ok (.aload_n 0, 1) := by decide +kernel
theorem dX12_drawn_1 : decode cX12_drawn 1 = .ok (.invokevirtual 173, 3) := by decide +kernel
theorem dX12_drawn_4 : decode cX12_drawn 4 = .ok (.ifCond .ne 6, 3) := by decide +kernel
theorem dX12_drawn_7 : decode cX12_drawn 7 = .ok (.ldc 176, 2) := by decide +kernel
theorem dX12_drawn_9 : decode cX12_drawn 9 = .ok (.ireturn, 1) := by decide +kernel
theorem dX12_drawn_10 : decode cX12_drawn 10 = .ok (.iload_n 1, 1) := by decide +kernel
theorem dX12_drawn_11 : decode cX12_drawn 11 = .ok (.iconst 0, 1) := by decide +kernel
theorem dX12_drawn_12 : decode cX12_drawn 12 = .ok (.bipush 60, 2) := by decide +kernel
theorem dX12_drawn_14 : decode cX12_drawn 14 = .ok (.invokestatic 62, 3) := by decide +kernel
theorem dX12_drawn_17 : decode cX12_drawn 17 = .ok (.ifCond .eq 22, 3) := by decide +kernel
theorem dX12_drawn_20 : decode cX12_drawn 20 = .ok (.iload_n 2, 1) := by decide +kernel
theorem dX12_drawn_21 : decode cX12_drawn 21 = .ok (.iconst 1, 1) := by decide +kernel
theorem dX12_drawn_22 : decode cX12_drawn 22 = .ok (.ldc 217, 2) := by decide +kernel
theorem dX12_drawn_24 : decode cX12_drawn 24 = .ok (.invokestatic 62, 3) := by decide +kernel
theorem dX12_drawn_27 : decode cX12_drawn 27 = .ok (.ifCond .eq 12, 3) := by decide +kernel
theorem dX12_drawn_30 : decode cX12_drawn 30 = .ok (.iload_n 3, 1) := by decide +kernel
theorem dX12_drawn_31 : decode cX12_drawn 31 = .ok (.iconst 0, 1) := by decide +kernel
theorem dX12_drawn_32 : decode cX12_drawn 32 = .ok (.iconst 1, 1) := by decide +kernel
theorem dX12_drawn_33 : decode cX12_drawn 33 = .ok (.invokestatic 62, 3) := by decide +kernel
theorem dX12_drawn_36 : decode cX12_drawn 36 = .ok (.ifCond .ne 6, 3) := by decide +kernel
theorem dX12_drawn_39 : decode cX12_drawn 39 = .ok (.ldc 70, 2) := by decide +kernel
theorem dX12_drawn_41 : decode cX12_drawn 41 = .ok (.ireturn, 1) := by decide +kernel
theorem dX12_drawn_42 : decode cX12_drawn 42 = .ok (.aload_n 0, 1) := by decide +kernel
theorem dX12_drawn_43 : decode cX12_drawn 43 = .ok (.getfield 25, 3) := by decide +kernel
theorem dX12_drawn_46 : decode cX12_drawn 46 = .ok (.iconst 0, 1) := by decide +kernel
theorem dX12_drawn_47 : decode cX12_drawn 47 = .ok (.aload_n 0, 1) := by decide +kernel
theorem dX12_drawn_48 : decode cX12_drawn 48 = .ok (.getfield 31, 3) := by decide +kernel
theorem dX12_drawn_51 : decode cX12_drawn 51 = .ok (.iconst 0, 1) := by decide +kernel
theorem dX12_drawn_52 : decode cX12_drawn 52 = .ok (.invokestatic 141, 3) := by decide +kernel
theorem dX12_drawn_55 : decode cX12_drawn 55 = .ok (.iload_n 2, 1) := by decide +kernel
theorem dX12_drawn_56 : decode cX12_drawn 56 = .ok (.i2l, 1) := by decide +kernel
theorem dX12_drawn_57 : decode cX12_drawn 57 = .ok (.lstore 4, 2) := by decide +kernel
theorem dX12_drawn_59 : decode cX12_drawn 59 = .ok (.iconst 0, 1) := by decide +kernel
theorem dX12_drawn_60 : decode cX12_drawn 60 = .ok (.istore 6, 2) := by decide +kernel
theorem dX12_drawn_62 : decode cX12_drawn 62 = .ok (.iload 6, 2) := by decide +kernel
theorem dX12_drawn_64 : decode cX12_drawn 64 = .ok (.iload_n 1, 1) := by decide +kernel
theorem dX12_drawn_65 : decode cX12_drawn 65 = .ok (.if_icmp .ge 103, 3) := by decide +kernel
theorem dX12_drawn_68 : decode cX12_drawn 68 = .ok (.lload 4, 2) := by decide +kernel
theorem dX12_drawn_70 : decode cX12_drawn 70 = .ok (.ldc2_w 218, 3) := by decide +kernel
theorem dX12_drawn_73 : decode cX12_drawn 73 = .ok (.lmul, 1) := by decide +kernel
theorem dX12_drawn_74 : decode cX12_drawn 74 = .ok (.ldc2_w 220, 3) := by decide +kernel
theorem dX12_drawn_77 : decode cX12_drawn 77 = .ok (.lrem, 1) := by decide +kernel
theorem dX12_drawn_78 : decode cX12_drawn 78 = .ok (.lstore 4, 2) := by decide +kernel
theorem dX12_drawn_80 : decode cX12_drawn 80 = .ok (.aload_n 0, 1) := by decide +kernel
theorem dX12_drawn_81 : decode cX12_drawn 81 = .ok (.getfield 31, 3) := by decide +kernel
theorem dX12_drawn_84 : decode cX12_drawn 84 = .ok (.iconst 0, 1) := by decide +kernel
theorem dX12_drawn_85 : decode cX12_drawn 85 = .ok (.lload 4, 2) := by decide +kernel
theorem dX12_drawn_87 : decode cX12_drawn 87 = .ok (.ldc2_w 222, 3) := by decide +kernel
theorem dX12_drawn_90 : decode cX12_drawn 90 = .ok (.lrem, 1) := by decide +kernel
theorem dX12_drawn_91 : decode cX12_drawn 91 = .ok (.l2i, 1) := by decide +kernel
theorem dX12_drawn_92 : decode cX12_drawn 92 = .ok (.iconst 1, 1) := by decide +kernel
theorem dX12_drawn_93 : decode cX12_drawn 93 = .ok (.iadd, 1) := by decide +kernel
theorem dX12_drawn_94 : decode cX12_drawn 94 = .ok (.iastore, 1) := by decide +kernel
theorem dX12_drawn_95 : decode cX12_drawn 95 = .ok (.lload 4, 2) := by decide +kernel
theorem dX12_drawn_97 : decode cX12_drawn 97 = .ok (.aload_n 0, 1) := by decide +kernel
theorem dX12_drawn_98 : decode cX12_drawn 98 = .ok (.getfield 25, 3) := by decide +kernel
theorem dX12_drawn_101 : decode cX12_drawn 101 = .ok (.iconst 2, 1) := by decide +kernel
theorem dX12_drawn_102 : decode cX12_drawn 102 = .ok (.iaload, 1) := by decide +kernel
theorem dX12_drawn_103 : decode cX12_drawn 103 = .ok (.i2l, 1) := by decide +kernel
theorem dX12_drawn_104 : decode cX12_drawn 104 = .ok (.lrem, 1) := by decide +kernel
theorem dX12_drawn_105 : decode cX12_drawn 105 = .ok (.l2i, 1) := by decide +kernel
theorem dX12_drawn_106 : decode cX12_drawn 106 = .ok (.istore 7, 2) := by decide +kernel
theorem dX12_drawn_108 : decode cX12_drawn 108 = .ok (.lload 4, 2) := by decide +kernel
theorem dX12_drawn_110 : decode cX12_drawn 110 = .ok (.ldc2_w 224, 3) := by decide +kernel
theorem dX12_drawn_113 : decode cX12_drawn 113 = .ok (.ldiv, 1) := by decide +kernel
theorem dX12_drawn_114 : decode cX12_drawn 114 = .ok (.aload_n 0, 1) := by decide +kernel
theorem dX12_drawn_115 : decode cX12_drawn 115 = .ok (.getfield 25, 3) := by decide +kernel
theorem dX12_drawn_118 : decode cX12_drawn 118 = .ok (.iconst 2, 1) := by decide +kernel
theorem dX12_drawn_119 : decode cX12_drawn 119 = .ok (.iaload, 1) := by decide +kernel
theorem dX12_drawn_120 : decode cX12_drawn 120 = .ok (.i2l, 1) := by decide +kernel
theorem dX12_drawn_121 : decode cX12_drawn 121 = .ok (.lrem, 1) := by decide +kernel
theorem dX12_drawn_122 : decode cX12_drawn 122 = .ok (.l2i, 1) := by decide +kernel
theorem dX12_drawn_123 : decode cX12_drawn 123 = .ok (.istore 8, 2) := by decide +kernel
theorem dX12_drawn_125 : decode cX12_drawn 125 = .ok (.lload 4, 2) := by decide +kernel
theorem dX12_drawn_127 : decode cX12_drawn 127 = .ok (.ldc2_w 226, 3) := by decide +kernel
theorem dX12_drawn_130 : decode cX12_drawn 130 = .ok (.lrem, 1) := by decide +kernel
theorem dX12_drawn_131 : decode cX12_drawn 131 = .ok (.lconst 0, 1) := by decide +kernel
theorem dX12_drawn_132 : decode cX12_drawn 132 = .ok (.lcmp, 1) := by decide +kernel
theorem dX12_drawn_133 : decode cX12_drawn 133 = .ok (.ifCond .ne 21, 3) := by decide +kernel
theorem dX12_drawn_136 : decode cX12_drawn 136 = .ok (.iload 7, 2) := by decide +kernel
theorem dX12_drawn_138 : decode cX12_drawn 138 = .ok (.iload 8, 2) := by decide +kernel
theorem dX12_drawn_140 : decode cX12_drawn 140 = .ok (.if_icmp .eq 14, 3) := by decide +kernel
theorem dX12_drawn_143 : decode cX12_drawn 143 = .ok (.aload_n 0, 1) := by decide +kernel
theorem dX12_drawn_144 : decode cX12_drawn 144 = .ok (.getfield 31, 3) := by decide +kernel
theorem dX12_drawn_147 : decode cX12_drawn 147 = .ok (.iload 7, 2) := by decide +kernel
theorem dX12_drawn_149 : decode cX12_drawn 149 = .ok (.iload 8, 2) := by decide +kernel
theorem dX12_drawn_151 : decode cX12_drawn 151 = .ok (.invokestatic 194, 3) := by decide +kernel
theorem dX12_drawn_154 : decode cX12_drawn 154 = .ok (.aload_n 0, 1) := by decide +kernel
theorem dX12_drawn_155 : decode cX12_drawn 155 = .ok (.aload_n 0, 1) := by decide +kernel
theorem dX12_drawn_156 : decode cX12_drawn 156 = .ok (.getfield 31, 3) := by decide +kernel
theorem dX12_drawn_159 : decode cX12_drawn 159 = .ok (.invokevirtual 180, 3) := by decide +kernel
theorem dX12_drawn_162 : decode cX12_drawn 162 = .ok (.iinc 6 1, 3) := by decide +kernel
theorem dX12_drawn_165 : decode cX12_drawn 165 = .ok (.goto (-103), 3) := by decide +kernel
theorem dX12_drawn_168 : decode cX12_drawn 168 = .ok (.aload_n 0, 1) := by decide +kernel
theorem dX12_drawn_169 : decode cX12_drawn 169 = .ok (.getfield 31, 3) := by decide +kernel
theorem dX12_drawn_172 : decode cX12_drawn 172 = .ok (.iload_n 3, 1) := by decide +kernel
theorem dX12_drawn_173 : decode cX12_drawn 173 = .ok (.ifCond .ne 7, 3) := by decide +kernel
theorem dX12_drawn_176 : decode cX12_drawn 176 = .ok (.iconst 1, 1) := by decide +kernel
theorem dX12_drawn_177 : decode cX12_drawn 177 = .ok (.goto 4, 3) := by decide +kernel
theorem dX12_drawn_180 : decode cX12_drawn 180 = .ok (.iconst 2, 1) := by decide +kernel
theorem dX12_drawn_181 : decode cX12_drawn 181 = .ok (.invokestatic 184, 3) := by decide +kernel
theorem dX12_drawn_184 : decode cX12_drawn 184 = .ok (.ireturn, 1) := by decide +kernel
set_option maxRecDepth 20000 in
theorem ggX12_image_X12_in : GoodIn wsX12_image wsX12_in := goodIn_r _ [9] (by decide +kernel) (by decide +kernel)
set_option maxRecDepth 20000 in
theorem gX12_image_X12_in : GoodIn wsX12_image (va_wsS RX12 62 yX12_in wsX12_in) := goodIn_app (goodIn_of _ (by decide +kernel)) ggX12_image_X12_in
set_option maxRecDepth 20000 in
theorem ggX12_image_X12_isField : GoodIn wsX12_image wsX12_isField := goodIn_r _ [13, 3, 17, 18, 19, 20, 21, 22, 23, 24, 25, 26, 27, 28, 29, 30, 31, 32, 33, 34, 35, 36, 37, 38, 39, 40, 41] (by decide +kernel) (by decide +kernel)
set_option maxRecDepth 20000 in
theorem gX12_image_X12_isField : GoodIn wsX12_image (wsV RX12 173 RX12 yX12_isField wsX12_isField) := goodIn_app (goodIn_of _ (by decide +kernel)) ggX12_image_X12_isField
set_option maxRecDepth 20000 in
theorem ggX12_image_X12_copies : GoodIn wsX12_image wsX12_copies := goodIn_r _ [16] (by decide +kernel) (by decide +kernel)
set_option maxRecDepth 20000 in
theorem gX12_image_X12_copies : GoodIn wsX12_image (va_wsS RX12 141 yX12_copies wsX12_copies) := goodIn_app (goodIn_of _ (by decide +kernel)) ggX12_image_X12_copies
theorem dX12_image_0 : decode cX12_image 0 = .ok (.iload_n 1, 1) := by decide +kernel
theorem dX12_image_1 : decode cX12_image 1 = .ok (.iconst 0, 1) := by decide +kernel
theorem dX12_image_2 : decode cX12_image 2 = .ok (.iconst 1, 1) := by decide +kernel
theorem dX12_image_3 : decode cX12_image 3 = .ok (.invokestatic 62, 3) := by decide +kernel
theorem dX12_image_6 : decode cX12_image 6 = .ok (.ifCond .ne 6, 3) := by decide +kernel
theorem dX12_image_9 : decode cX12_image 9 = .ok (.ldc 70, 2) := by decide +kernel
theorem dX12_image_11 : decode cX12_image 11 = .ok (.ireturn, 1) := by decide +kernel
theorem dX12_image_12 : decode cX12_image 12 = .ok (.aload_n 0, 1) := by decide +kernel
theorem dX12_image_13 : decode cX12_image 13 = .ok (.invokevirtual 173, 3) := by decide +kernel
theorem dX12_image_16 : decode cX12_image 16 = .ok (.ifCond .ne 6, 3) := by decide +kernel
theorem dX12_image_19 : decode cX12_image 19 = .ok (.ldc 176, 2) := by decide +kernel
theorem dX12_image_21 : decode cX12_image 21 = .ok (.ireturn, 1) := by decide +kernel
theorem dX12_image_22 : decode cX12_image 22 = .ok (.aload_n 0, 1) := by decide +kernel
theorem dX12_image_23 : decode cX12_image 23 = .ok (.getfield 25, 3) := by decide +kernel
theorem dX12_image_26 : decode cX12_image 26 = .ok (.iconst 0, 1) := by decide +kernel
theorem dX12_image_27 : decode cX12_image 27 = .ok (.aload_n 0, 1) := by decide +kernel
theorem dX12_image_28 : decode cX12_image 28 = .ok (.getfield 37, 3) := by decide +kernel
theorem dX12_image_31 : decode cX12_image 31 = .ok (.bipush 46, 2) := by decide +kernel
theorem dX12_image_33 : decode cX12_image 33 = .ok (.iload_n 1, 1) := by decide +kernel
theorem dX12_image_34 : decode cX12_image 34 = .ok (.imul, 1) := by decide +kernel
theorem dX12_image_35 : decode cX12_image 35 = .ok (.invokestatic 141, 3) := by decide +kernel
theorem dX12_image_38 : decode cX12_image 38 = .ok (.aload_n 0, 1) := by decide +kernel
theorem dX12_image_39 : decode cX12_image 39 = .ok (.getfield 40, 3) := by decide +kernel
theorem dX12_image_42 : decode cX12_image 42 = .ok (.iload_n 1, 1) := by decide +kernel
theorem dX12_image_43 : decode cX12_image 43 = .ok (.iconst 1, 1) := by decide +kernel
theorem dX12_image_44 : decode cX12_image 44 = .ok (.bastore, 1) := by decide +kernel
theorem dX12_image_45 : decode cX12_image 45 = .ok (.iconst 1, 1) := by decide +kernel
theorem dX12_image_46 : decode cX12_image 46 = .ok (.ireturn, 1) := by decide +kernel
set_option maxRecDepth 20000 in
theorem ggX12_restore_X12_in : GoodIn wsX12_restore wsX12_in := goodIn_r _ [10] (by decide +kernel) (by decide +kernel)
set_option maxRecDepth 20000 in
theorem gX12_restore_X12_in : GoodIn wsX12_restore (va_wsS RX12 62 yX12_in wsX12_in) := goodIn_app (goodIn_of _ (by decide +kernel)) ggX12_restore_X12_in
set_option maxRecDepth 20000 in
theorem ggX12_restore_X12_copies : GoodIn wsX12_restore wsX12_copies := goodIn_r _ [13] (by decide +kernel) (by decide +kernel)
set_option maxRecDepth 20000 in
theorem gX12_restore_X12_copies : GoodIn wsX12_restore (va_wsS RX12 141 yX12_copies wsX12_copies) := goodIn_app (goodIn_of _ (by decide +kernel)) ggX12_restore_X12_copies
theorem dX12_restore_0 : decode cX12_restore 0 = .ok (.iload_n 1, 1) := by decide +kernel
theorem dX12_restore_1 : decode cX12_restore 1 = .ok (.iconst 0, 1) := by decide +kernel
theorem dX12_restore_2 : decode cX12_restore 2 = .ok (.iconst 1, 1) := by decide +kernel
theorem dX12_restore_3 : decode cX12_restore 3 = .ok (.invokestatic 62, 3) := by decide +kernel
theorem dX12_restore_6 : decode cX12_restore 6 = .ok (.ifCond .ne 6, 3) := by decide +kernel
theorem dX12_restore_9 : decode cX12_restore 9 = .ok (.ldc 70, 2) := by decide +kernel
theorem dX12_restore_11 : decode cX12_restore 11 = .ok (.ireturn, 1) := by decide +kernel
theorem dX12_restore_12 : decode cX12_restore 12 = .ok (.aload_n 0, 1) := by decide +kernel
theorem dX12_restore_13 : decode cX12_restore 13 = .ok (.getfield 40, 3) := by decide +kernel
theorem dX12_restore_16 : decode cX12_restore 16 = .ok (.iload_n 1, 1) := by decide +kernel
theorem dX12_restore_17 : decode cX12_restore 17 = .ok (.baload, 1) := by decide +kernel
theorem dX12_restore_18 : decode cX12_restore 18 = .ok (.ifCond .ne 6, 3) := by decide +kernel
theorem dX12_restore_21 : decode cX12_restore 21 = .ok (.ldc 176, 2) := by decide +kernel
theorem dX12_restore_23 : decode cX12_restore 23 = .ok (.ireturn, 1) := by decide +kernel
theorem dX12_restore_24 : decode cX12_restore 24 = .ok (.aload_n 0, 1) := by decide +kernel
theorem dX12_restore_25 : decode cX12_restore 25 = .ok (.getfield 37, 3) := by decide +kernel
theorem dX12_restore_28 : decode cX12_restore 28 = .ok (.bipush 46, 2) := by decide +kernel
theorem dX12_restore_30 : decode cX12_restore 30 = .ok (.iload_n 1, 1) := by decide +kernel
theorem dX12_restore_31 : decode cX12_restore 31 = .ok (.imul, 1) := by decide +kernel
theorem dX12_restore_32 : decode cX12_restore 32 = .ok (.aload_n 0, 1) := by decide +kernel
theorem dX12_restore_33 : decode cX12_restore 33 = .ok (.getfield 25, 3) := by decide +kernel
theorem dX12_restore_36 : decode cX12_restore 36 = .ok (.iconst 0, 1) := by decide +kernel
theorem dX12_restore_37 : decode cX12_restore 37 = .ok (.invokestatic 141, 3) := by decide +kernel
theorem dX12_restore_40 : decode cX12_restore 40 = .ok (.aload_n 0, 1) := by decide +kernel
theorem dX12_restore_41 : decode cX12_restore 41 = .ok (.iconst 0, 1) := by decide +kernel
theorem dX12_restore_42 : decode cX12_restore 42 = .ok (.putfield 145, 3) := by decide +kernel
theorem dX12_restore_45 : decode cX12_restore 45 = .ok (.iconst 1, 1) := by decide +kernel
theorem dX12_restore_46 : decode cX12_restore 46 = .ok (.ireturn, 1) := by decide +kernel
theorem dX12_kindIn_0 : decode cX12_kindIn 0 = .ok (.aload_n 0, 1) := by decide +kernel
theorem dX12_kindIn_1 : decode cX12_kindIn 1 = .ok (.getfield 25, 3) := by decide +kernel
theorem dX12_kindIn_4 : decode cX12_kindIn 4 = .ok (.iconst 4, 1) := by decide +kernel
theorem dX12_kindIn_5 : decode cX12_kindIn 5 = .ok (.bipush 6, 2) := by decide +kernel
theorem dX12_kindIn_7 : decode cX12_kindIn 7 = .ok (.iload_n 1, 1) := by decide +kernel
theorem dX12_kindIn_8 : decode cX12_kindIn 8 = .ok (.imul, 1) := by decide +kernel
theorem dX12_kindIn_9 : decode cX12_kindIn 9 = .ok (.iadd, 1) := by decide +kernel
theorem dX12_kindIn_10 : decode cX12_kindIn 10 = .ok (.iaload, 1) := by decide +kernel
theorem dX12_kindIn_11 : decode cX12_kindIn 11 = .ok (.ireturn, 1) := by decide +kernel
set_option maxRecDepth 20000 in
theorem ggX12_kind_X12_isTurnip : GoodIn wsX12_kind wsX12_isTurnip := goodIn_r _ [6, 7, 8, 9, 5, 10, 15, 16, 17, 18, 19, 20, 21, 22, 23, 24, 25, 26, 27, 28, 29, 30, 31, 32, 33, 34, 35, 36, 37, 38, 39] (by decide +kernel) (by decide +kernel)
set_option maxRecDepth 20000 in
theorem gX12_kind_X12_isTurnip : GoodIn wsX12_kind (wsV RX12 187 RX12 yX12_isTurnip wsX12_isTurnip) := goodIn_app (goodIn_of _ (by decide +kernel)) ggX12_kind_X12_isTurnip
set_option maxRecDepth 20000 in
theorem ggX12_kind_X12_kindIn : GoodIn wsX12_kind wsX12_kindIn := goodIn_r _ [14, 7, 15, 16, 17, 18, 19, 20, 21, 22, 23, 24, 25, 26, 27, 28, 29, 30, 31, 32, 33, 34, 35, 36, 37, 38, 39] (by decide +kernel) (by decide +kernel)
set_option maxRecDepth 20000 in
theorem gX12_kind_X12_kindIn : GoodIn wsX12_kind (wsV RX12 228 RX12 yX12_kindIn wsX12_kindIn) := goodIn_app (goodIn_of _ (by decide +kernel)) ggX12_kind_X12_kindIn
theorem dX12_kind_0 : decode cX12_kind 0 = .ok (.aload_n 0, 1) := by decide +kernel
theorem dX12_kind_1 : decode cX12_kind 1 = .ok (.iload_n 1, 1) := by decide +kernel
theorem dX12_kind_2 : decode cX12_kind 2 = .ok (.invokevirtual 187, 3) := by decide +kernel
theorem dX12_kind_5 : decode cX12_kind 5 = .ok (.ifCond .eq 11, 3) := by decide +kernel
theorem dX12_kind_8 : decode cX12_kind 8 = .ok (.aload_n 0, 1) := by decide +kernel
theorem dX12_kind_9 : decode cX12_kind 9 = .ok (.iload_n 1, 1) := by decide +kernel
theorem dX12_kind_10 : decode cX12_kind 10 = .ok (.invokevirtual 228, 3) := by decide +kernel
theorem dX12_kind_13 : decode cX12_kind 13 = .ok (.goto 5, 3) := by decide +kernel
theorem dX12_kind_16 : decode cX12_kind 16 = .ok (.ldc 70, 2) := by decide +kernel
theorem dX12_kind_18 : decode cX12_kind 18 = .ok (.ireturn, 1) := by decide +kernel
set_option maxRecDepth 20000 in
theorem ggX12_as_X12_isTurnip : GoodIn wsX12_as wsX12_isTurnip := goodIn_r _ [6, 7, 8, 9, 5, 10, 25, 26, 27, 28, 29, 30, 31, 32, 33, 34, 35, 36, 37, 38, 39, 40, 41, 42, 43, 44, 45, 46, 47, 48, 49] (by decide +kernel) (by decide +kernel)
set_option maxRecDepth 20000 in
theorem gX12_as_X12_isTurnip : GoodIn wsX12_as (wsV RX12 187 RX12 yX12_isTurnip wsX12_isTurnip) := goodIn_app (goodIn_of _ (by decide +kernel)) ggX12_as_X12_isTurnip
set_option maxRecDepth 20000 in
theorem ggX12_as_X12_in : GoodIn wsX12_as wsX12_in := goodIn_r _ [10] (by decide +kernel) (by decide +kernel)
set_option maxRecDepth 20000 in
theorem gX12_as_X12_in : GoodIn wsX12_as (va_wsS RX12 62 yX12_in wsX12_in) := goodIn_app (goodIn_of _ (by decide +kernel)) ggX12_as_X12_in
set_option maxRecDepth 20000 in
theorem ggX12_as_X12_kindIn : GoodIn wsX12_as wsX12_kindIn := goodIn_r _ [14, 7, 25, 26, 27, 28, 29, 30, 31, 32, 33, 34, 35, 36, 37, 38, 39, 40, 41, 42, 43, 44, 45, 46, 47, 48, 49] (by decide +kernel) (by decide +kernel)
set_option maxRecDepth 20000 in
theorem gX12_as_X12_kindIn : GoodIn wsX12_as (wsV RX12 228 RX12 yX12_kindIn wsX12_kindIn) := goodIn_app (goodIn_of _ (by decide +kernel)) ggX12_as_X12_kindIn
set_option maxRecDepth 20000 in
theorem ggX12_as_X12_well : GoodIn wsX12_as wsX12_well := goodIn_r _ [18, 19, 25, 26, 27, 28, 29, 30, 31, 32, 33, 34, 35, 36, 37, 38, 39, 40, 41, 42, 43, 44, 45, 46, 47, 48, 49] (by decide +kernel) (by decide +kernel)
set_option maxRecDepth 20000 in
theorem gX12_as_X12_well : GoodIn wsX12_as (wsV RX12 75 RX12 yX12_well wsX12_well) := goodIn_app (goodIn_of _ (by decide +kernel)) ggX12_as_X12_well
set_option maxRecDepth 20000 in
theorem ggX12_as_X12_found : GoodIn wsX12_as wsX12_found := goodIn_r _ [23, 19, 24, 25, 26, 27, 28, 29, 30, 31, 32, 33, 34, 35, 36, 37, 38, 39, 40, 41, 42, 43, 44, 45, 46, 47, 48, 49] (by decide +kernel) (by decide +kernel)
set_option maxRecDepth 20000 in
theorem gX12_as_X12_found : GoodIn wsX12_as (wsV RX12 71 RX12 yX12_found wsX12_found) := goodIn_app (goodIn_of _ (by decide +kernel)) ggX12_as_X12_found
theorem dX12_as_0 : decode cX12_as 0 = .ok (.aload_n 0, 1) := by decide +kernel
theorem dX12_as_1 : decode cX12_as 1 = .ok (.iload_n 1, 1) := by decide +kernel
theorem dX12_as_2 : decode cX12_as 2 = .ok (.invokevirtual 187, 3) := by decide +kernel
theorem dX12_as_5 : decode cX12_as 5 = .ok (.ifCond .eq 12, 3) := by decide +kernel
theorem dX12_as_8 : decode cX12_as 8 = .ok (.iload_n 2, 1) := by decide +kernel
theorem dX12_as_9 : decode cX12_as 9 = .ok (.iconst 0, 1) := by decide +kernel
theorem dX12_as_10 : decode cX12_as 10 = .ok (.iconst 5, 1) := by decide +kernel
theorem dX12_as_11 : decode cX12_as 11 = .ok (.invokestatic 62, 3) := by decide +kernel
theorem dX12_as_14 : decode cX12_as 14 = .ok (.ifCond .ne 6, 3) := by decide +kernel
theorem dX12_as_17 : decode cX12_as 17 = .ok (.ldc 70, 2) := by decide +kernel
theorem dX12_as_19 : decode cX12_as 19 = .ok (.ireturn, 1) := by decide +kernel
theorem dX12_as_20 : decode cX12_as 20 = .ok (.aload_n 0, 1) := by decide +kernel
theorem dX12_as_21 : decode cX12_as 21 = .ok (.iload_n 1, 1) := by decide +kernel
theorem dX12_as_22 : decode cX12_as 22 = .ok (.invokevirtual 228, 3) := by decide +kernel
theorem dX12_as_25 : decode cX12_as 25 = .ok (.istore_n 3, 1) := by decide +kernel
theorem dX12_as_26 : decode cX12_as 26 = .ok (.iload_n 2, 1) := by decide +kernel
theorem dX12_as_27 : decode cX12_as 27 = .ok (.ifCond .eq 28, 3) := by decide +kernel
theorem dX12_as_30 : decode cX12_as 30 = .ok (.iload_n 2, 1) := by decide +kernel
theorem dX12_as_31 : decode cX12_as 31 = .ok (.iload_n 3, 1) := by decide +kernel
theorem dX12_as_32 : decode cX12_as 32 = .ok (.if_icmp .eq 23, 3) := by decide +kernel
theorem dX12_as_35 : decode cX12_as 35 = .ok (.iload_n 2, 1) := by decide +kernel
theorem dX12_as_36 : decode cX12_as 36 = .ok (.iconst 1, 1) := by decide +kernel
theorem dX12_as_37 : decode cX12_as 37 = .ok (.if_icmp .ne 8, 3) := by decide +kernel
theorem dX12_as_40 : decode cX12_as 40 = .ok (.iload_n 3, 1) := by decide +kernel
theorem dX12_as_41 : decode cX12_as 41 = .ok (.iconst 4, 1) := by decide +kernel
theorem dX12_as_42 : decode cX12_as 42 = .ok (.if_icmp .lt 13, 3) := by decide +kernel
theorem dX12_as_45 : decode cX12_as 45 = .ok (.iload_n 2, 1) := by decide +kernel
theorem dX12_as_46 : decode cX12_as 46 = .ok (.iconst 4, 1) := by decide +kernel
theorem dX12_as_47 : decode cX12_as 47 = .ok (.if_icmp .ne 12, 3) := by decide +kernel
theorem dX12_as_50 : decode cX12_as 50 = .ok (.iload_n 3, 1) := by decide +kernel
theorem dX12_as_51 : decode cX12_as 51 = .ok (.iconst 5, 1) := by decide +kernel
theorem dX12_as_52 : decode cX12_as 52 = .ok (.if_icmp .ne 7, 3) := by decide +kernel
theorem dX12_as_55 : decode cX12_as 55 = .ok (.iconst 1, 1) := by decide +kernel
theorem dX12_as_56 : decode cX12_as 56 = .ok (.goto 4, 3) := by decide +kernel
theorem dX12_as_59 : decode cX12_as 59 = .ok (.iconst 0, 1) := by decide +kernel
theorem dX12_as_60 : decode cX12_as 60 = .ok (.istore 4, 2) := by decide +kernel
theorem dX12_as_62 : decode cX12_as 62 = .ok (.iload 4, 2) := by decide +kernel
theorem dX12_as_64 : decode cX12_as 64 = .ok (.ifCond .eq 11, 3) := by decide +kernel
theorem dX12_as_67 : decode cX12_as 67 = .ok (.aload_n 0, 1) := by decide +kernel
theorem dX12_as_68 : decode cX12_as 68 = .ok (.iload_n 1, 1) := by decide +kernel
theorem dX12_as_69 : decode cX12_as 69 = .ok (.invokevirtual 75, 3) := by decide +kernel
theorem dX12_as_72 : decode cX12_as 72 = .ok (.goto 8, 3) := by decide +kernel
theorem dX12_as_75 : decode cX12_as 75 = .ok (.aload_n 0, 1) := by decide +kernel
theorem dX12_as_76 : decode cX12_as 76 = .ok (.iconst 3, 1) := by decide +kernel
theorem dX12_as_77 : decode cX12_as 77 = .ok (.invokevirtual 71, 3) := by decide +kernel
theorem dX12_as_80 : decode cX12_as 80 = .ok (.ireturn, 1) := by decide +kernel
theorem dX12_begins_0 : decode cX12_begins 0 = .ok (.aload_n 0, 1) := by decide +kernel
theorem dX12_begins_1 : decode cX12_begins 1 = .ok (.getfield 231, 3) := by decide +kernel
theorem dX12_begins_4 : decode cX12_begins 4 = .ok (.bipush 16, 2) := by decide +kernel
theorem dX12_begins_6 : decode cX12_begins 6 = .ok (.if_icmp .ge 23, 3) := by decide +kernel
theorem dX12_begins_9 : decode cX12_begins 9 = .ok (.aload_n 0, 1) := by decide +kernel
theorem dX12_begins_10 : decode cX12_begins 10 = .ok (.getfield 53, 3) := by decide +kernel
theorem dX12_begins_13 : decode cX12_begins 13 = .ok (.aload_n 0, 1) := by decide +kernel
theorem dX12_begins_14 : decode cX12_begins 14 = .ok (.getfield 231, 3) := by decide +kernel
theorem dX12_begins_17 : decode cX12_begins 17 = .ok (.iload_n 1, 1) := by decide +kernel
theorem dX12_begins_18 : decode cX12_begins 18 = .ok (.iastore, 1) := by decide +kernel
theorem dX12_begins_19 : decode cX12_begins 19 = .ok (.aload_n 0, 1) := by decide +kernel
theorem dX12_begins_20 : decode cX12_begins 20 = .ok (.dup, 1) := by decide +kernel
theorem dX12_begins_21 : decode cX12_begins 21 = .ok (.getfield 231, 3) := by decide +kernel
theorem dX12_begins_24 : decode cX12_begins 24 = .ok (.iconst 1, 1) := by decide +kernel
theorem dX12_begins_25 : decode cX12_begins 25 = .ok (.iadd, 1) := by decide +kernel
theorem dX12_begins_26 : decode cX12_begins 26 = .ok (.putfield 231, 3) := by decide +kernel
theorem dX12_begins_29 : decode cX12_begins 29 = .ok (.return_, 1) := by decide +kernel
set_option maxRecDepth 20000 in
theorem ggX12_plainMark_X12_kindIn : GoodIn wsX12_plainMark wsX12_kindIn := goodIn_r _ [6, 1, 13, 14, 15, 16, 17, 18, 19, 20, 21, 22, 23, 24, 25, 26, 27, 28, 29, 30, 31, 32, 33, 34, 35, 36, 37] (by decide +kernel) (by decide +kernel)
set_option maxRecDepth 20000 in
theorem gX12_plainMark_X12_kindIn : GoodIn wsX12_plainMark (wsV RX12 228 RX12 yX12_kindIn wsX12_kindIn) := goodIn_app (goodIn_of _ (by decide +kernel)) ggX12_plainMark_X12_kindIn
set_option maxRecDepth 20000 in
theorem ggX12_plainMark_X12_begins : GoodIn wsX12_plainMark wsX12_begins := goodIn_r _ [10, 11, 12, 13, 14, 15, 16, 17, 18, 19, 20, 21, 22, 23, 24, 25, 26, 27, 28, 29, 30, 31, 32, 33, 34, 35, 36, 37] (by decide +kernel) (by decide +kernel)
set_option maxRecDepth 20000 in
theorem gX12_plainMark_X12_begins : GoodIn wsX12_plainMark (wsV RX12 234 RX12 yX12_begins wsX12_begins) := goodIn_app (goodIn_of _ (by decide +kernel)) ggX12_plainMark_X12_begins
theorem dX12_plainMark_0 : decode cX12_plainMark 0 = .ok (.aload_n 0, 1) := by decide +kernel
theorem dX12_plainMark_1 : decode cX12_plainMark 1 = .ok (.iload_n 1, 1) := by decide +kernel
theorem dX12_plainMark_2 : decode cX12_plainMark 2 = .ok (.invokevirtual 228, 3) := by decide +kernel
theorem dX12_plainMark_5 : decode cX12_plainMark 5 = .ok (.istore_n 2, 1) := by decide +kernel
theorem dX12_plainMark_6 : decode cX12_plainMark 6 = .ok (.iload_n 2, 1) := by decide +kernel
theorem dX12_plainMark_7 : decode cX12_plainMark 7 = .ok (.iconst 1, 1) := by decide +kernel
theorem dX12_plainMark_8 : decode cX12_plainMark 8 = .ok (.if_icmp .eq 19, 3) := by decide +kernel
theorem dX12_plainMark_11 : decode cX12_plainMark 11 = .ok (.aload_n 0, 1) := by decide +kernel
theorem dX12_plainMark_12 : decode cX12_plainMark 12 = .ok (.iload_n 2, 1) := by decide +kernel
theorem dX12_plainMark_13 : decode cX12_plainMark 13 = .ok (.iconst 2, 1) := by decide +kernel
theorem dX12_plainMark_14 : decode cX12_plainMark 14 = .ok (.if_icmp .ne 8, 3) := by decide +kernel
theorem dX12_plainMark_17 : decode cX12_plainMark 17 = .ok (.bipush 24, 2) := by decide +kernel
theorem dX12_plainMark_19 : decode cX12_plainMark 19 = .ok (.goto 5, 3) := by decide +kernel
theorem dX12_plainMark_22 : decode cX12_plainMark 22 = .ok (.bipush 22, 2) := by decide +kernel
theorem dX12_plainMark_24 : decode cX12_plainMark 24 = .ok (.invokevirtual 234, 3) := by decide +kernel
theorem dX12_plainMark_27 : decode cX12_plainMark 27 = .ok (.aload_n 0, 1) := by decide +kernel
theorem dX12_plainMark_28 : decode cX12_plainMark 28 = .ok (.bipush 21, 2) := by decide +kernel
theorem dX12_plainMark_30 : decode cX12_plainMark 30 = .ok (.invokevirtual 234, 3) := by decide +kernel
theorem dX12_plainMark_33 : decode cX12_plainMark 33 = .ok (.aload_n 0, 1) := by decide +kernel
theorem dX12_plainMark_34 : decode cX12_plainMark 34 = .ok (.bipush 20, 2) := by decide +kernel
theorem dX12_plainMark_36 : decode cX12_plainMark 36 = .ok (.invokevirtual 234, 3) := by decide +kernel
theorem dX12_plainMark_39 : decode cX12_plainMark 39 = .ok (.iload_n 1, 1) := by decide +kernel
theorem dX12_plainMark_40 : decode cX12_plainMark 40 = .ok (.aload_n 0, 1) := by decide +kernel
theorem dX12_plainMark_41 : decode cX12_plainMark 41 = .ok (.getfield 25, 3) := by decide +kernel
theorem dX12_plainMark_44 : decode cX12_plainMark 44 = .ok (.iconst 4, 1) := by decide +kernel
theorem dX12_plainMark_45 : decode cX12_plainMark 45 = .ok (.bipush 6, 2) := by decide +kernel
theorem dX12_plainMark_47 : decode cX12_plainMark 47 = .ok (.iload_n 1, 1) := by decide +kernel
theorem dX12_plainMark_48 : decode cX12_plainMark 48 = .ok (.imul, 1) := by decide +kernel
theorem dX12_plainMark_49 : decode cX12_plainMark 49 = .ok (.iadd, 1) := by decide +kernel
theorem dX12_plainMark_50 : decode cX12_plainMark 50 = .ok (.iconst 3, 1) := by decide +kernel
theorem dX12_plainMark_51 : decode cX12_plainMark 51 = .ok (.iadd, 1) := by decide +kernel
theorem dX12_plainMark_52 : decode cX12_plainMark 52 = .ok (.iaload, 1) := by decide +kernel
theorem dX12_plainMark_53 : decode cX12_plainMark 53 = .ok (.iadd, 1) := by decide +kernel
theorem dX12_plainMark_54 : decode cX12_plainMark 54 = .ok (.istore_n 3, 1) := by decide +kernel
theorem dX12_plainMark_55 : decode cX12_plainMark 55 = .ok (.iload_n 2, 1) := by decide +kernel
theorem dX12_plainMark_56 : decode cX12_plainMark 56 = .ok (.iconst 2, 1) := by decide +kernel
theorem dX12_plainMark_57 : decode cX12_plainMark 57 = .ok (.if_icmp .ne 9, 3) := by decide +kernel
theorem dX12_plainMark_60 : decode cX12_plainMark 60 = .ok (.iconst 2, 1) := by decide +kernel
theorem dX12_plainMark_61 : decode cX12_plainMark 61 = .ok (.iload_n 3, 1) := by decide +kernel
theorem dX12_plainMark_62 : decode cX12_plainMark 62 = .ok (.imul, 1) := by decide +kernel
theorem dX12_plainMark_63 : decode cX12_plainMark 63 = .ok (.goto 17, 3) := by decide +kernel
theorem dX12_plainMark_66 : decode cX12_plainMark 66 = .ok (.iload_n 2, 1) := by decide +kernel
theorem dX12_plainMark_67 : decode cX12_plainMark 67 = .ok (.iconst 3, 1) := by decide +kernel
theorem dX12_plainMark_68 : decode cX12_plainMark 68 = .ok (.if_icmp .ne 11, 3) := by decide +kernel
theorem dX12_plainMark_71 : decode cX12_plainMark 71 = .ok (.iload_n 3, 1) := by decide +kernel
theorem dX12_plainMark_72 : decode cX12_plainMark 72 = .ok (.sipush 1000, 3) := by decide +kernel
theorem dX12_plainMark_75 : decode cX12_plainMark 75 = .ok (.isub, 1) := by decide +kernel
theorem dX12_plainMark_76 : decode cX12_plainMark 76 = .ok (.goto 4, 3) := by decide +kernel
theorem dX12_plainMark_79 : decode cX12_plainMark 79 = .ok (.iload_n 3, 1) := by decide +kernel
theorem dX12_plainMark_80 : decode cX12_plainMark 80 = .ok (.ireturn, 1) := by decide +kernel
set_option maxRecDepth 20000 in
theorem ggX12_fellowSize_X12_kindIn : GoodIn wsX12_fellowSize wsX12_kindIn := goodIn_r _ [6, 1, 13, 14, 15, 16, 17, 18, 19, 20, 21, 22, 23, 24, 25, 26, 27, 28, 29, 30, 31, 32, 33, 34, 35, 36, 37] (by decide +kernel) (by decide +kernel)
set_option maxRecDepth 20000 in
theorem gX12_fellowSize_X12_kindIn : GoodIn wsX12_fellowSize (wsV RX12 228 RX12 yX12_kindIn wsX12_kindIn) := goodIn_app (goodIn_of _ (by decide +kernel)) ggX12_fellowSize_X12_kindIn
set_option maxRecDepth 20000 in
theorem ggX12_fellowSize_X12_begins : GoodIn wsX12_fellowSize wsX12_begins := goodIn_r _ [10, 11, 12, 13, 14, 15, 16, 17, 18, 19, 20, 21, 22, 23, 24, 25, 26, 27, 28, 29, 30, 31, 32, 33, 34, 35, 36, 37] (by decide +kernel) (by decide +kernel)
set_option maxRecDepth 20000 in
theorem gX12_fellowSize_X12_begins : GoodIn wsX12_fellowSize (wsV RX12 234 RX12 yX12_begins wsX12_begins) := goodIn_app (goodIn_of _ (by decide +kernel)) ggX12_fellowSize_X12_begins
theorem dX12_fellowSize_0 : decode cX12_fellowSize 0 = .ok (.aload_n 0, 1) := by decide +kernel
theorem dX12_fellowSize_1 : decode cX12_fellowSize 1 = .ok (.iload_n 1, 1) := by decide +kernel
theorem dX12_fellowSize_2 : decode cX12_fellowSize 2 = .ok (.invokevirtual 228, 3) := by decide +kernel
theorem dX12_fellowSize_5 : decode cX12_fellowSize 5 = .ok (.iconst 5, 1) := by decide +kernel
theorem dX12_fellowSize_6 : decode cX12_fellowSize 6 = .ok (.if_icmp .ne 7, 3) := by decide +kernel
theorem dX12_fellowSize_9 : decode cX12_fellowSize 9 = .ok (.iconst 1, 1) := by decide +kernel
theorem dX12_fellowSize_10 : decode cX12_fellowSize 10 = .ok (.goto 4, 3) := by decide +kernel
theorem dX12_fellowSize_13 : decode cX12_fellowSize 13 = .ok (.iconst 0, 1) := by decide +kernel
theorem dX12_fellowSize_14 : decode cX12_fellowSize 14 = .ok (.istore_n 2, 1) := by decide +kernel
theorem dX12_fellowSize_15 : decode cX12_fellowSize 15 = .ok (.iload_n 2, 1) := by decide +kernel
theorem dX12_fellowSize_16 : decode cX12_fellowSize 16 = .ok (.ifCond .eq 9, 3) := by decide +kernel
theorem dX12_fellowSize_19 : decode cX12_fellowSize 19 = .ok (.aload_n 0, 1) := by decide +kernel
theorem dX12_fellowSize_20 : decode cX12_fellowSize 20 = .ok (.bipush 14, 2) := by decide +kernel
theorem dX12_fellowSize_22 : decode cX12_fellowSize 22 = .ok (.invokevirtual 234, 3) := by decide +kernel
theorem dX12_fellowSize_25 : decode cX12_fellowSize 25 = .ok (.aload_n 0, 1) := by decide +kernel
theorem dX12_fellowSize_26 : decode cX12_fellowSize 26 = .ok (.bipush 13, 2) := by decide +kernel
theorem dX12_fellowSize_28 : decode cX12_fellowSize 28 = .ok (.invokevirtual 234, 3) := by decide +kernel
theorem dX12_fellowSize_31 : decode cX12_fellowSize 31 = .ok (.aload_n 0, 1) := by decide +kernel
theorem dX12_fellowSize_32 : decode cX12_fellowSize 32 = .ok (.bipush 10, 2) := by decide +kernel
theorem dX12_fellowSize_34 : decode cX12_fellowSize 34 = .ok (.invokevirtual 234, 3) := by decide +kernel
theorem dX12_fellowSize_37 : decode cX12_fellowSize 37 = .ok (.aload_n 0, 1) := by decide +kernel
theorem dX12_fellowSize_38 : decode cX12_fellowSize 38 = .ok (.getfield 25, 3) := by decide +kernel
theorem dX12_fellowSize_41 : decode cX12_fellowSize 41 = .ok (.iconst 4, 1) := by decide +kernel
theorem dX12_fellowSize_42 : decode cX12_fellowSize 42 = .ok (.bipush 6, 2) := by decide +kernel
theorem dX12_fellowSize_44 : decode cX12_fellowSize 44 = .ok (.iload_n 1, 1) := by decide +kernel
theorem dX12_fellowSize_45 : decode cX12_fellowSize 45 = .ok (.imul, 1) := by decide +kernel
theorem dX12_fellowSize_46 : decode cX12_fellowSize 46 = .ok (.iadd, 1) := by decide +kernel
theorem dX12_fellowSize_47 : decode cX12_fellowSize 47 = .ok (.iconst 1, 1) := by decide +kernel
theorem dX12_fellowSize_48 : decode cX12_fellowSize 48 = .ok (.iadd, 1) := by decide +kernel
theorem dX12_fellowSize_49 : decode cX12_fellowSize 49 = .ok (.iaload, 1) := by decide +kernel
theorem dX12_fellowSize_50 : decode cX12_fellowSize 50 = .ok (.bipush 100, 2) := by decide +kernel
theorem dX12_fellowSize_52 : decode cX12_fellowSize 52 = .ok (.isub, 1) := by decide +kernel
theorem dX12_fellowSize_53 : decode cX12_fellowSize 53 = .ok (.istore_n 3, 1) := by decide +kernel
theorem dX12_fellowSize_54 : decode cX12_fellowSize 54 = .ok (.iload_n 2, 1) := by decide +kernel
theorem dX12_fellowSize_55 : decode cX12_fellowSize 55 = .ok (.ifCond .eq 9, 3) := by decide +kernel
theorem dX12_fellowSize_58 : decode cX12_fellowSize 58 = .ok (.iconst 2, 1) := by decide +kernel
theorem dX12_fellowSize_59 : decode cX12_fellowSize 59 = .ok (.iload_n 3, 1) := by decide +kernel
theorem dX12_fellowSize_60 : decode cX12_fellowSize 60 = .ok (.imul, 1) := by decide +kernel
theorem dX12_fellowSize_61 : decode cX12_fellowSize 61 = .ok (.goto 4, 3) := by decide +kernel
theorem dX12_fellowSize_64 : decode cX12_fellowSize 64 = .ok (.iload_n 3, 1) := by decide +kernel
theorem dX12_fellowSize_65 : decode cX12_fellowSize 65 = .ok (.ireturn, 1) := by decide +kernel
set_option maxRecDepth 20000 in
theorem ggX12_plainSize_X12_kindIn : GoodIn wsX12_plainSize wsX12_kindIn := goodIn_r _ [6, 1, 17, 18, 19, 20, 21, 22, 23, 24, 25, 26, 27, 28, 29, 30, 31, 32, 33, 34, 35, 36, 37, 38, 39, 40, 41] (by decide +kernel) (by decide +kernel)
set_option maxRecDepth 20000 in
theorem gX12_plainSize_X12_kindIn : GoodIn wsX12_plainSize (wsV RX12 228 RX12 yX12_kindIn wsX12_kindIn) := goodIn_app (goodIn_of _ (by decide +kernel)) ggX12_plainSize_X12_kindIn
set_option maxRecDepth 20000 in
theorem ggX12_plainSize_X12_begins : GoodIn wsX12_plainSize wsX12_begins := goodIn_r _ [10, 11, 12, 17, 18, 19, 20, 21, 22, 23, 24, 25, 26, 27, 28, 29, 30, 31, 32, 33, 34, 35, 36, 37, 38, 39, 40, 41] (by decide +kernel) (by decide +kernel)
set_option maxRecDepth 20000 in
theorem gX12_plainSize_X12_begins : GoodIn wsX12_plainSize (wsV RX12 234 RX12 yX12_begins wsX12_begins) := goodIn_app (goodIn_of _ (by decide +kernel)) ggX12_plainSize_X12_begins
set_option maxRecDepth 20000 in
theorem ggX12_plainSize_X12_plainMark : GoodIn wsX12_plainSize wsX12_plainMark := goodIn_r _ [16, 1, 2, 3, 4, 5, 6, 7, 8, 9, 10, 11, 12, 17, 18, 19, 20, 21, 22, 23, 24, 25, 26, 27, 28, 29, 30, 31, 32, 33, 34, 35, 36, 37, 38, 39, 40, 41] (by decide +kernel) (by decide +kernel)
set_option maxRecDepth 20000 in
theorem gX12_plainSize_X12_plainMark : GoodIn wsX12_plainSize (wsV RX12 237 RX12 yX12_plainMark wsX12_plainMark) := goodIn_app (goodIn_of _ (by decide +kernel)) ggX12_plainSize_X12_plainMark
theorem dX12_plainSize_0 : decode cX12_plainSize 0 = .ok (.aload_n 0, 1) := by decide +kernel
theorem dX12_plainSize_1 : decode cX12_plainSize 1 = .ok (.iload_n 1, 1) := by decide +kernel
theorem dX12_plainSize_2 : decode cX12_plainSize 2 = .ok (.invokevirtual 228, 3) := by decide +kernel
theorem dX12_plainSize_5 : decode cX12_plainSize 5 = .ok (.iconst 2, 1) := by decide +kernel
theorem dX12_plainSize_6 : decode cX12_plainSize 6 = .ok (.if_icmp .ne 7, 3) := by decide +kernel
theorem dX12_plainSize_9 : decode cX12_plainSize 9 = .ok (.iconst 1, 1) := by decide +kernel
theorem dX12_plainSize_10 : decode cX12_plainSize 10 = .ok (.goto 4, 3) := by decide +kernel
theorem dX12_plainSize_13 : decode cX12_plainSize 13 = .ok (.iconst 0, 1) := by decide +kernel
theorem dX12_plainSize_14 : decode cX12_plainSize 14 = .ok (.istore_n 2, 1) := by decide +kernel
theorem dX12_plainSize_15 : decode cX12_plainSize 15 = .ok (.iload_n 2, 1) := by decide +kernel
theorem dX12_plainSize_16 : decode cX12_plainSize 16 = .ok (.ifCond .eq 9, 3) := by decide +kernel
theorem dX12_plainSize_19 : decode cX12_plainSize 19 = .ok (.aload_n 0, 1) := by decide +kernel
theorem dX12_plainSize_20 : decode cX12_plainSize 20 = .ok (.bipush 12, 2) := by decide +kernel
theorem dX12_plainSize_22 : decode cX12_plainSize 22 = .ok (.invokevirtual 234, 3) := by decide +kernel
theorem dX12_plainSize_25 : decode cX12_plainSize 25 = .ok (.aload_n 0, 1) := by decide +kernel
theorem dX12_plainSize_26 : decode cX12_plainSize 26 = .ok (.bipush 11, 2) := by decide +kernel
theorem dX12_plainSize_28 : decode cX12_plainSize 28 = .ok (.invokevirtual 234, 3) := by decide +kernel
theorem dX12_plainSize_31 : decode cX12_plainSize 31 = .ok (.aload_n 0, 1) := by decide +kernel
theorem dX12_plainSize_32 : decode cX12_plainSize 32 = .ok (.bipush 10, 2) := by decide +kernel
theorem dX12_plainSize_34 : decode cX12_plainSize 34 = .ok (.invokevirtual 234, 3) := by decide +kernel
theorem dX12_plainSize_37 : decode cX12_plainSize 37 = .ok (.aload_n 0, 1) := by decide +kernel
theorem dX12_plainSize_38 : decode cX12_plainSize 38 = .ok (.getfield 25, 3) := by decide +kernel
theorem dX12_plainSize_41 : decode cX12_plainSize 41 = .ok (.iconst 4, 1) := by decide +kernel
theorem dX12_plainSize_42 : decode cX12_plainSize 42 = .ok (.bipush 6, 2) := by decide +kernel
theorem dX12_plainSize_44 : decode cX12_plainSize 44 = .ok (.iload_n 1, 1) := by decide +kernel
theorem dX12_plainSize_45 : decode cX12_plainSize 45 = .ok (.imul, 1) := by decide +kernel
theorem dX12_plainSize_46 : decode cX12_plainSize 46 = .ok (.iadd, 1) := by decide +kernel
theorem dX12_plainSize_47 : decode cX12_plainSize 47 = .ok (.iconst 1, 1) := by decide +kernel
theorem dX12_plainSize_48 : decode cX12_plainSize 48 = .ok (.iadd, 1) := by decide +kernel
theorem dX12_plainSize_49 : decode cX12_plainSize 49 = .ok (.iaload, 1) := by decide +kernel
theorem dX12_plainSize_50 : decode cX12_plainSize 50 = .ok (.aload_n 0, 1) := by decide +kernel
theorem dX12_plainSize_51 : decode cX12_plainSize 51 = .ok (.iload_n 1, 1) := by decide +kernel
theorem dX12_plainSize_52 : decode cX12_plainSize 52 = .ok (.invokevirtual 237, 3) := by decide +kernel
theorem dX12_plainSize_55 : decode cX12_plainSize 55 = .ok (.iadd, 1) := by decide +kernel
theorem dX12_plainSize_56 : decode cX12_plainSize 56 = .ok (.istore_n 3, 1) := by decide +kernel
theorem dX12_plainSize_57 : decode cX12_plainSize 57 = .ok (.iload_n 2, 1) := by decide +kernel
theorem dX12_plainSize_58 : decode cX12_plainSize 58 = .ok (.ifCond .eq 8, 3) := by decide +kernel
theorem dX12_plainSize_61 : decode cX12_plainSize 61 = .ok (.iload_n 3, 1) := by decide +kernel
theorem dX12_plainSize_62 : decode cX12_plainSize 62 = .ok (.ineg, 1) := by decide +kernel
theorem dX12_plainSize_63 : decode cX12_plainSize 63 = .ok (.goto 4, 3) := by decide +kernel
theorem dX12_plainSize_66 : decode cX12_plainSize 66 = .ok (.iload_n 3, 1) := by decide +kernel
theorem dX12_plainSize_67 : decode cX12_plainSize 67 = .ok (.ireturn, 1) := by decide +kernel
set_option maxRecDepth 20000 in
theorem ggX12_fellowMark_X12_begins : GoodIn wsX12_fellowMark wsX12_begins := goodIn_r _ [5, 6, 7, 17, 18, 19, 20, 21, 22, 23, 24, 25, 26, 27, 28, 29, 30, 31, 32, 33, 34, 35, 36, 37, 38, 39, 40, 41] (by decide +kernel) (by decide +kernel)
set_option maxRecDepth 20000 in
theorem gX12_fellowMark_X12_begins : GoodIn wsX12_fellowMark (wsV RX12 234 RX12 yX12_begins wsX12_begins) := goodIn_app (goodIn_of _ (by decide +kernel)) ggX12_fellowMark_X12_begins
set_option maxRecDepth 20000 in
theorem ggX12_fellowMark_X12_fellowSize : GoodIn wsX12_fellowMark wsX12_fellowSize := goodIn_r _ [11, 12, 13, 14, 15, 4, 16, 1, 2, 3, 5, 6, 7, 17, 18, 19, 20, 21, 22, 23, 24, 25, 26, 27, 28, 29, 30, 31, 32, 33, 34, 35, 36, 37, 38, 39, 40, 41] (by decide +kernel) (by decide +kernel)
set_option maxRecDepth 20000 in
theorem gX12_fellowMark_X12_fellowSize : GoodIn wsX12_fellowMark (wsV RX12 240 RX12 yX12_fellowSize wsX12_fellowSize) := goodIn_app (goodIn_of _ (by decide +kernel)) ggX12_fellowMark_X12_fellowSize
theorem dX12_fellowMark_0 : decode cX12_fellowMark 0 = .ok (.aload_n 0, 1) := by decide +kernel
theorem dX12_fellowMark_1 : decode cX12_fellowMark 1 = .ok (.bipush 23, 2) := by decide +kernel
theorem dX12_fellowMark_3 : decode cX12_fellowMark 3 = .ok (.invokevirtual 234, 3) := by decide +kernel
theorem dX12_fellowMark_6 : decode cX12_fellowMark 6 = .ok (.aload_n 0, 1) := by decide +kernel
theorem dX12_fellowMark_7 : decode cX12_fellowMark 7 = .ok (.bipush 20, 2) := by decide +kernel
theorem dX12_fellowMark_9 : decode cX12_fellowMark 9 = .ok (.invokevirtual 234, 3) := by decide +kernel
theorem dX12_fellowMark_12 : decode cX12_fellowMark 12 = .ok (.iload_n 1, 1) := by decide +kernel
theorem dX12_fellowMark_13 : decode cX12_fellowMark 13 = .ok (.aload_n 0, 1) := by decide +kernel
theorem dX12_fellowMark_14 : decode cX12_fellowMark 14 = .ok (.iload_n 1, 1) := by decide +kernel
theorem dX12_fellowMark_15 : decode cX12_fellowMark 15 = .ok (.invokevirtual 240, 3) := by decide +kernel
theorem dX12_fellowMark_18 : decode cX12_fellowMark 18 = .ok (.isub, 1) := by decide +kernel
theorem dX12_fellowMark_19 : decode cX12_fellowMark 19 = .ok (.ireturn, 1) := by decide +kernel
set_option maxRecDepth 20000 in
theorem ggX12_ask_X12_isTurnip : GoodIn wsX12_ask wsX12_isTurnip := goodIn_r _ [7, 8, 9, 10, 6, 11, 37, 38, 39, 40, 41, 42, 43, 44, 45, 46, 47, 48, 49, 50, 51, 52, 53, 54, 55, 56, 57, 58, 59, 60, 61] (by decide +kernel) (by decide +kernel)
set_option maxRecDepth 20000 in
theorem gX12_ask_X12_isTurnip : GoodIn wsX12_ask (wsV RX12 187 RX12 yX12_isTurnip wsX12_isTurnip) := goodIn_app (goodIn_of _ (by decide +kernel)) ggX12_ask_X12_isTurnip
set_option maxRecDepth 20000 in
theorem ggX12_ask_X12_in : GoodIn wsX12_ask wsX12_in := goodIn_r _ [11] (by decide +kernel) (by decide +kernel)
set_option maxRecDepth 20000 in
theorem gX12_ask_X12_in : GoodIn wsX12_ask (va_wsS RX12 62 yX12_in wsX12_in) := goodIn_app (goodIn_of _ (by decide +kernel)) ggX12_ask_X12_in
set_option maxRecDepth 20000 in
theorem ggX12_ask_X12_kindIn : GoodIn wsX12_ask wsX12_kindIn := goodIn_r _ [15, 8, 37, 38, 39, 40, 41, 42, 43, 44, 45, 46, 47, 48, 49, 50, 51, 52, 53, 54, 55, 56, 57, 58, 59, 60, 61] (by decide +kernel) (by decide +kernel)
set_option maxRecDepth 20000 in
theorem gX12_ask_X12_kindIn : GoodIn wsX12_ask (wsV RX12 228 RX12 yX12_kindIn wsX12_kindIn) := goodIn_app (goodIn_of _ (by decide +kernel)) ggX12_ask_X12_kindIn
set_option maxRecDepth 20000 in
theorem ggX12_ask_X12_fellowSize : GoodIn wsX12_ask wsX12_fellowSize := goodIn_r _ [19, 8, 12, 13, 14, 6, 15, 20, 21, 22, 23, 2, 24, 37, 38, 39, 40, 41, 42, 43, 44, 45, 46, 47, 48, 49, 50, 51, 52, 53, 54, 55, 56, 57, 58, 59, 60, 61] (by decide +kernel) (by decide +kernel)
set_option maxRecDepth 20000 in
theorem gX12_ask_X12_fellowSize : GoodIn wsX12_ask (wsV RX12 240 RX12 yX12_fellowSize wsX12_fellowSize) := goodIn_app (goodIn_of _ (by decide +kernel)) ggX12_ask_X12_fellowSize
set_option maxRecDepth 20000 in
theorem ggX12_ask_X12_plainSize : GoodIn wsX12_ask wsX12_plainSize := goodIn_r _ [28, 8, 12, 13, 14, 6, 15, 20, 21, 22, 23, 2, 24, 29, 30, 31, 32, 37, 38, 39, 40, 41, 42, 43, 44, 45, 46, 47, 48, 49, 50, 51, 52, 53, 54, 55, 56, 57, 58, 59, 60, 61] (by decide +kernel) (by decide +kernel)
set_option maxRecDepth 20000 in
theorem gX12_ask_X12_plainSize : GoodIn wsX12_ask (wsV RX12 243 RX12 yX12_plainSize wsX12_plainSize) := goodIn_app (goodIn_of _ (by decide +kernel)) ggX12_ask_X12_plainSize
set_option maxRecDepth 20000 in
theorem ggX12_ask_X12_fellowMark : GoodIn wsX12_ask wsX12_fellowMark := goodIn_r _ [36, 20, 21, 22, 6, 23, 2, 24, 16, 17, 18, 19, 8, 12, 13, 14, 15, 37, 38, 39, 40, 41, 42, 43, 44, 45, 46, 47, 48, 49, 50, 51, 52, 53, 54, 55, 56, 57, 58, 59, 60, 61] (by decide +kernel) (by decide +kernel)
set_option maxRecDepth 20000 in
theorem gX12_ask_X12_fellowMark : GoodIn wsX12_ask (wsV RX12 246 RX12 yX12_fellowMark wsX12_fellowMark) := goodIn_app (goodIn_of _ (by decide +kernel)) ggX12_ask_X12_fellowMark
set_option maxRecDepth 20000 in
theorem ggX12_ask_X12_plainMark : GoodIn wsX12_ask wsX12_plainMark := goodIn_r _ [32, 8, 12, 13, 14, 6, 15, 20, 21, 22, 23, 2, 24, 37, 38, 39, 40, 41, 42, 43, 44, 45, 46, 47, 48, 49, 50, 51, 52, 53, 54, 55, 56, 57, 58, 59, 60, 61] (by decide +kernel) (by decide +kernel)
set_option maxRecDepth 20000 in
theorem gX12_ask_X12_plainMark : GoodIn wsX12_ask (wsV RX12 237 RX12 yX12_plainMark wsX12_plainMark) := goodIn_app (goodIn_of _ (by decide +kernel)) ggX12_ask_X12_plainMark
theorem dX12_ask_0 : decode cX12_ask 0 = .ok (.aload_n 0, 1) := by decide +kernel
theorem dX12_ask_1 : decode cX12_ask 1 = .ok (.iload_n 1, 1) := by decide +kernel
theorem dX12_ask_2 : decode cX12_ask 2 = .ok (.invokevirtual 187, 3) := by decide +kernel
theorem dX12_ask_5 : decode cX12_ask 5 = .ok (.ifCond .eq 12, 3) := by decide +kernel
theorem dX12_ask_8 : decode cX12_ask 8 = .ok (.iload_n 2, 1) := by decide +kernel
theorem dX12_ask_9 : decode cX12_ask 9 = .ok (.iconst 0, 1) := by decide +kernel
theorem dX12_ask_10 : decode cX12_ask 10 = .ok (.iconst 1, 1) := by decide +kernel
theorem dX12_ask_11 : decode cX12_ask 11 = .ok (.invokestatic 62, 3) := by decide +kernel
theorem dX12_ask_14 : decode cX12_ask 14 = .ok (.ifCond .ne 6, 3) := by decide +kernel
theorem dX12_ask_17 : decode cX12_ask 17 = .ok (.ldc 70, 2) := by decide +kernel
theorem dX12_ask_19 : decode cX12_ask 19 = .ok (.ireturn, 1) := by decide +kernel
theorem dX12_ask_20 : decode cX12_ask 20 = .ok (.aload_n 0, 1) := by decide +kernel
theorem dX12_ask_21 : decode cX12_ask 21 = .ok (.iconst 0, 1) := by decide +kernel
theorem dX12_ask_22 : decode cX12_ask 22 = .ok (.putfield 231, 3) := by decide +kernel
theorem dX12_ask_25 : decode cX12_ask 25 = .ok (.aload_n 0, 1) := by decide +kernel
theorem dX12_ask_26 : decode cX12_ask 26 = .ok (.iload_n 1, 1) := by decide +kernel
theorem dX12_ask_27 : decode cX12_ask 27 = .ok (.invokevirtual 228, 3) := by decide +kernel
theorem dX12_ask_30 : decode cX12_ask 30 = .ok (.iconst 4, 1) := by decide +kernel
theorem dX12_ask_31 : decode cX12_ask 31 = .ok (.if_icmp .lt 7, 3) := by decide +kernel
theorem dX12_ask_34 : decode cX12_ask 34 = .ok (.iconst 1, 1) := by decide +kernel
theorem dX12_ask_35 : decode cX12_ask 35 = .ok (.goto 4, 3) := by decide +kernel
theorem dX12_ask_38 : decode cX12_ask 38 = .ok (.iconst 0, 1) := by decide +kernel
theorem dX12_ask_39 : decode cX12_ask 39 = .ok (.istore_n 3, 1) := by decide +kernel
theorem dX12_ask_40 : decode cX12_ask 40 = .ok (.iload_n 2, 1) := by decide +kernel
theorem dX12_ask_41 : decode cX12_ask 41 = .ok (.ifCond .ne 21, 3) := by decide +kernel
theorem dX12_ask_44 : decode cX12_ask 44 = .ok (.iload_n 3, 1) := by decide +kernel
theorem dX12_ask_45 : decode cX12_ask 45 = .ok (.ifCond .eq 11, 3) := by decide +kernel
theorem dX12_ask_48 : decode cX12_ask 48 = .ok (.aload_n 0, 1) := by decide +kernel
theorem dX12_ask_49 : decode cX12_ask 49 = .ok (.iload_n 1, 1) := by decide +kernel
theorem dX12_ask_50 : decode cX12_ask 50 = .ok (.invokevirtual 240, 3) := by decide +kernel
theorem dX12_ask_53 : decode cX12_ask 53 = .ok (.goto 8, 3) := by decide +kernel
theorem dX12_ask_56 : decode cX12_ask 56 = .ok (.aload_n 0, 1) := by decide +kernel
theorem dX12_ask_57 : decode cX12_ask 57 = .ok (.iload_n 1, 1) := by decide +kernel
theorem dX12_ask_58 : decode cX12_ask 58 = .ok (.invokevirtual 243, 3) := by decide +kernel
theorem dX12_ask_61 : decode cX12_ask 61 = .ok (.ireturn, 1) := by decide +kernel
theorem dX12_ask_62 : decode cX12_ask 62 = .ok (.iload_n 3, 1) := by decide +kernel
theorem dX12_ask_63 : decode cX12_ask 63 = .ok (.ifCond .eq 11, 3) := by decide +kernel
theorem dX12_ask_66 : decode cX12_ask 66 = .ok (.aload_n 0, 1) := by decide +kernel
theorem dX12_ask_67 : decode cX12_ask 67 = .ok (.iload_n 1, 1) := by decide +kernel
theorem dX12_ask_68 : decode cX12_ask 68 = .ok (.invokevirtual 246, 3) := by decide +kernel
theorem dX12_ask_71 : decode cX12_ask 71 = .ok (.goto 8, 3) := by decide +kernel
theorem dX12_ask_74 : decode cX12_ask 74 = .ok (.aload_n 0, 1) := by decide +kernel
theorem dX12_ask_75 : decode cX12_ask 75 = .ok (.iload_n 1, 1) := by decide +kernel
theorem dX12_ask_76 : decode cX12_ask 76 = .ok (.invokevirtual 237, 3) := by decide +kernel
theorem dX12_ask_79 : decode cX12_ask 79 = .ok (.ireturn, 1) := by decide +kernel
set_option maxRecDepth 20000 in
theorem ggX12_trace_X12_in : GoodIn wsX12_trace wsX12_in := goodIn_r _ [7] (by decide +kernel) (by decide +kernel)
set_option maxRecDepth 20000 in
theorem gX12_trace_X12_in : GoodIn wsX12_trace (va_wsS RX12 62 yX12_in wsX12_in) := goodIn_app (goodIn_of _ (by decide +kernel)) ggX12_trace_X12_in
theorem dX12_trace_0 : decode cX12_trace 0 = .ok (.iload_n 1, 1) := by decide +kernel
theorem dX12_trace_1 : decode cX12_trace 1 = .ok (.iconst 0, 1) := by decide +kernel
theorem dX12_trace_2 : decode cX12_trace 2 = .ok (.aload_n 0, 1) := by decide +kernel
theorem dX12_trace_3 : decode cX12_trace 3 = .ok (.getfield 231, 3) := by decide +kernel
theorem dX12_trace_6 : decode cX12_trace 6 = .ok (.iconst 1, 1) := by decide +kernel
theorem dX12_trace_7 : decode cX12_trace 7 = .ok (.isub, 1) := by decide +kernel
theorem dX12_trace_8 : decode cX12_trace 8 = .ok (.invokestatic 62, 3) := by decide +kernel
theorem dX12_trace_11 : decode cX12_trace 11 = .ok (.ifCond .eq 12, 3) := by decide +kernel
theorem dX12_trace_14 : decode cX12_trace 14 = .ok (.aload_n 0, 1) := by decide +kernel
theorem dX12_trace_15 : decode cX12_trace 15 = .ok (.getfield 53, 3) := by decide +kernel
theorem dX12_trace_18 : decode cX12_trace 18 = .ok (.iload_n 1, 1) := by decide +kernel
theorem dX12_trace_19 : decode cX12_trace 19 = .ok (.iaload, 1) := by decide +kernel
theorem dX12_trace_20 : decode cX12_trace 20 = .ok (.goto 5, 3) := by decide +kernel
theorem dX12_trace_23 : decode cX12_trace 23 = .ok (.ldc 56, 2) := by decide +kernel
theorem dX12_trace_25 : decode cX12_trace 25 = .ok (.ireturn, 1) := by decide +kernel
set_option maxRecDepth 20000 in
theorem ggX12_count_X12_isMissing : GoodIn wsX12_count wsX12_isMissing := goodIn_r _ [9, 10, 11, 19, 20, 21, 22, 23, 24, 25, 26, 27, 28, 29, 30, 31, 32, 33, 34, 35, 36, 37, 38, 39, 40, 41, 42, 43] (by decide +kernel) (by decide +kernel)
set_option maxRecDepth 20000 in
theorem gX12_count_X12_isMissing : GoodIn wsX12_count (wsV RX12 78 RX12 yX12_isMissing wsX12_isMissing) := goodIn_app (goodIn_of _ (by decide +kernel)) ggX12_count_X12_isMissing
set_option maxRecDepth 20000 in
theorem ggX12_count_X12_sumOf : GoodIn wsX12_count wsX12_sumOf := goodIn_r _ [14] (by decide +kernel) (by decide +kernel)
set_option maxRecDepth 20000 in
theorem gX12_count_X12_sumOf : GoodIn wsX12_count (va_wsS RX12 184 yX12_sumOf wsX12_sumOf) := goodIn_app (goodIn_of _ (by decide +kernel)) ggX12_count_X12_sumOf
set_option maxRecDepth 20000 in
theorem ggX12_count_X12_married : GoodIn wsX12_count wsX12_married := goodIn_r _ [18, 1, 11, 19, 20, 21, 22, 23, 24, 25, 26, 27, 28, 29, 30, 31, 32, 33, 34, 35, 36, 37, 38, 39, 40, 41, 42, 43] (by decide +kernel) (by decide +kernel)
set_option maxRecDepth 20000 in
theorem gX12_count_X12_married : GoodIn wsX12_count (wsV RX12 190 RX12 yX12_married wsX12_married) := goodIn_app (goodIn_of _ (by decide +kernel)) ggX12_count_X12_married
theorem dX12_count_0 : decode cX12_count 0 = .ok (.iconst 0, 1) := by decide +kernel
theorem dX12_count_1 : decode cX12_count 1 = .ok (.istore_n 2, 1) := by decide +kernel
theorem dX12_count_2 : decode cX12_count 2 = .ok (.iload_n 1, 1) := by decide +kernel
theorem dX12_count_3 : decode cX12_count 3 = .ok (.tableswitch 133 0 8 #[49, 81, 88, 95, 102, 109, 118, 123, 128], 49) := by decide +kernel
theorem dX12_count_52 : decode cX12_count 52 = .ok (.iconst 0, 1) := by decide +kernel
theorem dX12_count_53 : decode cX12_count 53 = .ok (.istore_n 3, 1) := by decide +kernel
theorem dX12_count_54 : decode cX12_count 54 = .ok (.iload_n 3, 1) := by decide +kernel
theorem dX12_count_55 : decode cX12_count 55 = .ok (.bipush 8, 2) := by decide +kernel
theorem dX12_count_57 : decode cX12_count 57 = .ok (.if_icmp .ge 25, 3) := by decide +kernel
theorem dX12_count_60 : decode cX12_count 60 = .ok (.iload_n 2, 1) := by decide +kernel
theorem dX12_count_61 : decode cX12_count 61 = .ok (.aload_n 0, 1) := by decide +kernel
theorem dX12_count_62 : decode cX12_count 62 = .ok (.iload_n 3, 1) := by decide +kernel
theorem dX12_count_63 : decode cX12_count 63 = .ok (.invokevirtual 78, 3) := by decide +kernel
theorem dX12_count_66 : decode cX12_count 66 = .ok (.ifCond .eq 7, 3) := by decide +kernel
theorem dX12_count_69 : decode cX12_count 69 = .ok (.iconst 0, 1) := by decide +kernel
theorem dX12_count_70 : decode cX12_count 70 = .ok (.goto 4, 3) := by decide +kernel
theorem dX12_count_73 : decode cX12_count 73 = .ok (.iconst 1, 1) := by decide +kernel
theorem dX12_count_74 : decode cX12_count 74 = .ok (.iadd, 1) := by decide +kernel
theorem dX12_count_75 : decode cX12_count 75 = .ok (.istore_n 2, 1) := by decide +kernel
theorem dX12_count_76 : decode cX12_count 76 = .ok (.iinc 3 1, 3) := by decide +kernel
theorem dX12_count_79 : decode cX12_count 79 = .ok (.goto (-25), 3) := by decide +kernel
theorem dX12_count_82 : decode cX12_count 82 = .ok (.iload_n 2, 1) := by decide +kernel
theorem dX12_count_83 : decode cX12_count 83 = .ok (.ireturn, 1) := by decide +kernel
theorem dX12_count_84 : decode cX12_count 84 = .ok (.aload_n 0, 1) := by decide +kernel
theorem dX12_count_85 : decode cX12_count 85 = .ok (.getfield 25, 3) := by decide +kernel
theorem dX12_count_88 : decode cX12_count 88 = .ok (.iconst 2, 1) := by decide +kernel
theorem dX12_count_89 : decode cX12_count 89 = .ok (.iaload, 1) := by decide +kernel
theorem dX12_count_90 : decode cX12_count 90 = .ok (.ireturn, 1) := by decide +kernel
theorem dX12_count_91 : decode cX12_count 91 = .ok (.aload_n 0, 1) := by decide +kernel
theorem dX12_count_92 : decode cX12_count 92 = .ok (.getfield 25, 3) := by decide +kernel
theorem dX12_count_95 : decode cX12_count 95 = .ok (.iconst 3, 1) := by decide +kernel
theorem dX12_count_96 : decode cX12_count 96 = .ok (.iaload, 1) := by decide +kernel
theorem dX12_count_97 : decode cX12_count 97 = .ok (.ireturn, 1) := by decide +kernel
theorem dX12_count_98 : decode cX12_count 98 = .ok (.aload_n 0, 1) := by decide +kernel
theorem dX12_count_99 : decode cX12_count 99 = .ok (.getfield 25, 3) := by decide +kernel
theorem dX12_count_102 : decode cX12_count 102 = .ok (.iconst 0, 1) := by decide +kernel
theorem dX12_count_103 : decode cX12_count 103 = .ok (.iaload, 1) := by decide +kernel
theorem dX12_count_104 : decode cX12_count 104 = .ok (.ireturn, 1) := by decide +kernel
theorem dX12_count_105 : decode cX12_count 105 = .ok (.aload_n 0, 1) := by decide +kernel
theorem dX12_count_106 : decode cX12_count 106 = .ok (.getfield 25, 3) := by decide +kernel
theorem dX12_count_109 : decode cX12_count 109 = .ok (.iconst 1, 1) := by decide +kernel
theorem dX12_count_110 : decode cX12_count 110 = .ok (.iaload, 1) := by decide +kernel
theorem dX12_count_111 : decode cX12_count 111 = .ok (.ireturn, 1) := by decide +kernel
theorem dX12_count_112 : decode cX12_count 112 = .ok (.aload_n 0, 1) := by decide +kernel
theorem dX12_count_113 : decode cX12_count 113 = .ok (.getfield 25, 3) := by decide +kernel
theorem dX12_count_116 : decode cX12_count 116 = .ok (.iconst 1, 1) := by decide +kernel
theorem dX12_count_117 : decode cX12_count 117 = .ok (.invokestatic 184, 3) := by decide +kernel
theorem dX12_count_120 : decode cX12_count 120 = .ok (.ireturn, 1) := by decide +kernel
theorem dX12_count_121 : decode cX12_count 121 = .ok (.aload_n 0, 1) := by decide +kernel
theorem dX12_count_122 : decode cX12_count 122 = .ok (.invokevirtual 190, 3) := by decide +kernel
theorem dX12_count_125 : decode cX12_count 125 = .ok (.ireturn, 1) := by decide +kernel
theorem dX12_count_126 : decode cX12_count 126 = .ok (.aload_n 0, 1) := by decide +kernel
theorem dX12_count_127 : decode cX12_count 127 = .ok (.getfield 145, 3) := by decide +kernel
theorem dX12_count_130 : decode cX12_count 130 = .ok (.ireturn, 1) := by decide +kernel
theorem dX12_count_131 : decode cX12_count 131 = .ok (.aload_n 0, 1) := by decide +kernel
theorem dX12_count_132 : decode cX12_count 132 = .ok (.getfield 88, 3) := by decide +kernel
theorem dX12_count_135 : decode cX12_count 135 = .ok (.ireturn, 1) := by decide +kernel
theorem dX12_count_136 : decode cX12_count 136 = .ok (.ldc 70, 2) := by decide +kernel
theorem dX12_count_138 : decode cX12_count 138 = .ok (.ireturn, 1) := by decide +kernel
theorem dX12_status_0 : decode cX12_status 0 = .ok (.aload_n 0, 1) := by decide +kernel
theorem dX12_status_1 : decode cX12_status 1 = .ok (.getfield 57, 3) := by decide +kernel
theorem dX12_status_4 : decode cX12_status 4 = .ok (.ireturn, 1) := by decide +kernel
theorem dJ6_bitCount_0f7a4_0 : decode cJ6_bitCount_0f7a4 0 = .ok (.iload_n 0, 1) := by decide +kernel
theorem dJ6_bitCount_0f7a4_1 : decode cJ6_bitCount_0f7a4 1 = .ok (.iload_n 0, 1) := by decide +kernel
theorem dJ6_bitCount_0f7a4_2 : decode cJ6_bitCount_0f7a4 2 = .ok (.iconst 1, 1) := by decide +kernel
theorem dJ6_bitCount_0f7a4_3 : decode cJ6_bitCount_0f7a4 3 = .ok (.iushr, 1) := by decide +kernel
theorem dJ6_bitCount_0f7a4_4 : decode cJ6_bitCount_0f7a4 4 = .ok (.ldc_w 265, 3) := by decide +kernel
theorem dJ6_bitCount_0f7a4_7 : decode cJ6_bitCount_0f7a4 7 = .ok (.iand, 1) := by decide +kernel
theorem dJ6_bitCount_0f7a4_8 : decode cJ6_bitCount_0f7a4 8 = .ok (.isub, 1) := by decide +kernel
theorem dJ6_bitCount_0f7a4_9 : decode cJ6_bitCount_0f7a4 9 = .ok (.istore_n 0, 1) := by decide +kernel
theorem dJ6_bitCount_0f7a4_10 : decode cJ6_bitCount_0f7a4 10 = .ok (.iload_n 0, 1) := by decide +kernel
theorem dJ6_bitCount_0f7a4_11 : decode cJ6_bitCount_0f7a4 11 = .ok (.ldc_w 266, 3) := by decide +kernel
theorem dJ6_bitCount_0f7a4_14 : decode cJ6_bitCount_0f7a4 14 = .ok (.iand, 1) := by decide +kernel
theorem dJ6_bitCount_0f7a4_15 : decode cJ6_bitCount_0f7a4 15 = .ok (.iload_n 0, 1) := by decide +kernel
theorem dJ6_bitCount_0f7a4_16 : decode cJ6_bitCount_0f7a4 16 = .ok (.iconst 2, 1) := by decide +kernel
theorem dJ6_bitCount_0f7a4_17 : decode cJ6_bitCount_0f7a4 17 = .ok (.iushr, 1) := by decide +kernel
theorem dJ6_bitCount_0f7a4_18 : decode cJ6_bitCount_0f7a4 18 = .ok (.ldc_w 266, 3) := by decide +kernel
theorem dJ6_bitCount_0f7a4_21 : decode cJ6_bitCount_0f7a4 21 = .ok (.iand, 1) := by decide +kernel
theorem dJ6_bitCount_0f7a4_22 : decode cJ6_bitCount_0f7a4 22 = .ok (.iadd, 1) := by decide +kernel
theorem dJ6_bitCount_0f7a4_23 : decode cJ6_bitCount_0f7a4 23 = .ok (.istore_n 0, 1) := by decide +kernel
theorem dJ6_bitCount_0f7a4_24 : decode cJ6_bitCount_0f7a4 24 = .ok (.iload_n 0, 1) := by decide +kernel
theorem dJ6_bitCount_0f7a4_25 : decode cJ6_bitCount_0f7a4 25 = .ok (.iload_n 0, 1) := by decide +kernel
theorem dJ6_bitCount_0f7a4_26 : decode cJ6_bitCount_0f7a4 26 = .ok (.iconst 4, 1) := by decide +kernel
theorem dJ6_bitCount_0f7a4_27 : decode cJ6_bitCount_0f7a4 27 = .ok (.iushr, 1) := by decide +kernel
theorem dJ6_bitCount_0f7a4_28 : decode cJ6_bitCount_0f7a4 28 = .ok (.iadd, 1) := by decide +kernel
theorem dJ6_bitCount_0f7a4_29 : decode cJ6_bitCount_0f7a4 29 = .ok (.ldc_w 267, 3) := by decide +kernel
theorem dJ6_bitCount_0f7a4_32 : decode cJ6_bitCount_0f7a4 32 = .ok (.iand, 1) := by decide +kernel
theorem dJ6_bitCount_0f7a4_33 : decode cJ6_bitCount_0f7a4 33 = .ok (.istore_n 0, 1) := by decide +kernel
theorem dJ6_bitCount_0f7a4_34 : decode cJ6_bitCount_0f7a4 34 = .ok (.iload_n 0, 1) := by decide +kernel
theorem dJ6_bitCount_0f7a4_35 : decode cJ6_bitCount_0f7a4 35 = .ok (.iload_n 0, 1) := by decide +kernel
theorem dJ6_bitCount_0f7a4_36 : decode cJ6_bitCount_0f7a4 36 = .ok (.bipush 8, 2) := by decide +kernel
theorem dJ6_bitCount_0f7a4_38 : decode cJ6_bitCount_0f7a4 38 = .ok (.iushr, 1) := by decide +kernel
theorem dJ6_bitCount_0f7a4_39 : decode cJ6_bitCount_0f7a4 39 = .ok (.iadd, 1) := by decide +kernel
theorem dJ6_bitCount_0f7a4_40 : decode cJ6_bitCount_0f7a4 40 = .ok (.istore_n 0, 1) := by decide +kernel
theorem dJ6_bitCount_0f7a4_41 : decode cJ6_bitCount_0f7a4 41 = .ok (.iload_n 0, 1) := by decide +kernel
theorem dJ6_bitCount_0f7a4_42 : decode cJ6_bitCount_0f7a4 42 = .ok (.iload_n 0, 1) := by decide +kernel
theorem dJ6_bitCount_0f7a4_43 : decode cJ6_bitCount_0f7a4 43 = .ok (.bipush 16, 2) := by decide +kernel
theorem dJ6_bitCount_0f7a4_45 : decode cJ6_bitCount_0f7a4 45 = .ok (.iushr, 1) := by decide +kernel
theorem dJ6_bitCount_0f7a4_46 : decode cJ6_bitCount_0f7a4 46 = .ok (.iadd, 1) := by decide +kernel
theorem dJ6_bitCount_0f7a4_47 : decode cJ6_bitCount_0f7a4 47 = .ok (.istore_n 0, 1) := by decide +kernel
theorem dJ6_bitCount_0f7a4_48 : decode cJ6_bitCount_0f7a4 48 = .ok (.iload_n 0, 1) := by decide +kernel
theorem dJ6_bitCount_0f7a4_49 : decode cJ6_bitCount_0f7a4 49 = .ok (.bipush 63, 2) := by decide +kernel
theorem dJ6_bitCount_0f7a4_51 : decode cJ6_bitCount_0f7a4 51 = .ok (.iand, 1) := by decide +kernel
theorem dJ6_bitCount_0f7a4_52 : decode cJ6_bitCount_0f7a4 52 = .ok (.ireturn, 1) := by decide +kernel
theorem dJ9_min_7cf53_0 : decode cJ9_min_7cf53 0 = .ok (.iload_n 0, 1) := by decide +kernel
theorem dJ9_min_7cf53_1 : decode cJ9_min_7cf53 1 = .ok (.iload_n 1, 1) := by decide +kernel
theorem dJ9_min_7cf53_2 : decode cJ9_min_7cf53 2 = .ok (.if_icmp .gt 7, 3) := by decide +kernel
theorem dJ9_min_7cf53_5 : decode cJ9_min_7cf53 5 = .ok (.iload_n 0, 1) := by decide +kernel
theorem dJ9_min_7cf53_6 : decode cJ9_min_7cf53 6 = .ok (.goto 4, 3) := by decide +kernel
theorem dJ9_min_7cf53_9 : decode cJ9_min_7cf53 9 = .ok (.iload_n 1, 1) := by decide +kernel
theorem dJ9_min_7cf53_10 : decode cJ9_min_7cf53 10 = .ok (.ireturn, 1) := by decide +kernel
theorem dJ7_fill_53178_0 : decode cJ7_fill_53178 0 = .ok (.iconst 0, 1) := by decide +kernel
theorem dJ7_fill_53178_1 : decode cJ7_fill_53178 1 = .ok (.istore_n 2, 1) := by decide +kernel
theorem dJ7_fill_53178_2 : decode cJ7_fill_53178 2 = .ok (.aload_n 0, 1) := by decide +kernel
theorem dJ7_fill_53178_3 : decode cJ7_fill_53178 3 = .ok (.arraylength, 1) := by decide +kernel
theorem dJ7_fill_53178_4 : decode cJ7_fill_53178 4 = .ok (.istore_n 3, 1) := by decide +kernel
theorem dJ7_fill_53178_5 : decode cJ7_fill_53178 5 = .ok (.iload_n 2, 1) := by decide +kernel
theorem dJ7_fill_53178_6 : decode cJ7_fill_53178 6 = .ok (.iload_n 3, 1) := by decide +kernel
theorem dJ7_fill_53178_7 : decode cJ7_fill_53178 7 = .ok (.if_icmp .ge 13, 3) := by decide +kernel
theorem dJ7_fill_53178_10 : decode cJ7_fill_53178 10 = .ok (.aload_n 0, 1) := by decide +kernel
theorem dJ7_fill_53178_11 : decode cJ7_fill_53178 11 = .ok (.iload_n 2, 1) := by decide +kernel
theorem dJ7_fill_53178_12 : decode cJ7_fill_53178 12 = .ok (.iload_n 1, 1) := by decide +kernel
theorem dJ7_fill_53178_13 : decode cJ7_fill_53178 13 = .ok (.iastore, 1) := by decide +kernel
theorem dJ7_fill_53178_14 : decode cJ7_fill_53178 14 = .ok (.iinc 2 1, 3) := by decide +kernel
theorem dJ7_fill_53178_17 : decode cJ7_fill_53178 17 = .ok (.goto (-12), 3) := by decide +kernel
theorem dJ7_fill_53178_20 : decode cJ7_fill_53178 20 = .ok (.return_, 1) := by decide +kernel
set_option maxRecDepth 20000 in
theorem ggL_law_X11_init : GoodIn wsL_law wsX11_init := goodIn_r _ [8, 9, 10, 11, 12, 13, 14, 15, 16, 17, 18, 19, 20, 21, 22, 23, 24, 25, 26, 27, 28, 29, 30, 31, 32, 33, 34, 35, 36, 37, 38, 39, 40, 41, 42, 43, 44, 45, 46, 47, 48, 49, 50, 51, 52, 53, 54, 55, 56, 57, 58, 59, 60, 61, 62, 63, 64, 65, 66, 67, 68, 69, 70, 71, 72, 73, 74, 75, 76, 77, 78, 79, 80, 81, 82, 83, 84, 85, 86, 87, 88, 89, 90, 91, 92, 93, 94, 95, 96, 97, 98, 99, 100, 101, 102, 103, 104, 105, 106, 107, 108, 109, 110, 111, 112, 113, 114, 115, 988, 989, 990, 991, 992, 993, 994, 995, 996, 997, 998, 999, 1000, 1026, 1027, 1028, 1029, 1030, 1031, 1032, 1033, 1034, 1035, 1036, 1037, 1038, 1039, 1040, 1041, 1042, 1043, 1044, 1045, 1046, 1047, 1048, 1049, 1050, 1051, 1052, 1053, 1054, 1055, 1056, 1057, 1058, 1059, 1060, 1061, 1062] (by decide +kernel) (by decide +kernel)
set_option maxRecDepth 20000 in
theorem gL_law_X11_init : GoodIn wsL_law (wsX11_init) := ggL_law_X11_init
set_option maxRecDepth 20000 in
theorem ggL_law_X12_init : GoodIn wsL_law wsX12_init := goodIn_r _ [118, 119, 10, 11, 55, 120, 121, 122, 123, 124, 125, 126, 127, 128, 129, 130, 131, 132, 133, 134, 135, 136, 1001, 1002, 1003, 1004, 1005, 1006, 1007, 1008, 1009, 1010, 1011, 1012, 1013, 1014, 1015, 1016, 1017, 1018, 1019, 1020, 1021, 1022, 1023, 1024, 1025] (by decide +kernel) (by decide +kernel)
set_option maxRecDepth 20000 in
theorem gL_law_X12_init : GoodIn wsL_law (wsX12_init) := ggL_law_X12_init
set_option maxRecDepth 20000 in
theorem ggL_law_X11_row : GoodIn wsL_law wsX11_row := goodIn_r _ [140, 141, 13, 142, 143, 2, 144, 145, 146, 147, 148, 149, 150, 151, 152, 153, 154, 155, 156, 43, 157, 158, 159, 160, 89, 161, 162, 163, 164, 165, 166, 167, 168, 988, 989, 990, 991, 992, 993, 994, 995, 996, 997, 998, 999, 1000, 1038, 1039, 1040, 1041] (by decide +kernel) (by decide +kernel)
set_option maxRecDepth 20000 in
theorem gL_law_X11_row : GoodIn wsL_law (wsV RL 13 RX11 yX11_row wsX11_row) := goodIn_app (goodIn_of _ (by decide +kernel)) ggL_law_X11_row
set_option maxRecDepth 20000 in
theorem ggL_law_X12_row : GoodIn wsL_law wsX12_row := goodIn_r _ [172, 173, 120, 121, 122, 174, 175, 5, 176, 177, 178, 179, 180, 181, 182, 183, 184, 185, 186, 187, 188, 189, 1001, 1002, 1003, 1004, 1005, 1006, 1007, 1008, 1009, 1010, 1011, 1012, 1013, 1014, 1015, 1016, 1017, 1018, 1019, 1020, 1021, 1022, 1023, 1024, 1025] (by decide +kernel) (by decide +kernel)
set_option maxRecDepth 20000 in
theorem gL_law_X12_row : GoodIn wsL_law (wsV RL 17 RX12 yX12_row wsX12_row) := goodIn_app (goodIn_of _ (by decide +kernel)) ggL_law_X12_row
set_option maxRecDepth 20000 in
theorem ggL_law_X11_set : GoodIn wsL_law wsX11_set := goodIn_r _ [193, 141, 13, 194, 195, 142, 143, 2, 144, 148, 149, 150, 151, 152, 153, 196, 197, 198, 43, 199, 160, 200, 201, 202, 203, 159, 165, 166, 167, 168, 988, 989, 990, 991, 992, 993, 994, 995, 996, 997, 998, 999, 1000, 1038, 1039, 1040, 1041] (by decide +kernel) (by decide +kernel)
set_option maxRecDepth 20000 in
theorem gL_law_X11_set : GoodIn wsL_law (wsV RL 18 RX11 yX11_set wsX11_set) := goodIn_app (goodIn_of _ (by decide +kernel)) ggL_law_X11_set
set_option maxRecDepth 20000 in
theorem ggL_law_X12_set : GoodIn wsL_law wsX12_set := goodIn_r _ [207, 173, 121, 122, 120, 174, 175, 5, 176, 177, 178, 179, 208, 209, 210, 211, 136, 180, 181, 182, 183, 184, 185, 212, 213, 214, 186, 187, 188, 189, 1001, 1002, 1003, 1004, 1005, 1006, 1007, 1008, 1009, 1010, 1011, 1012, 1013, 1014, 1015, 1016, 1017, 1018, 1019, 1020, 1021, 1022, 1023, 1024, 1025] (by decide +kernel) (by decide +kernel)
set_option maxRecDepth 20000 in
theorem gL_law_X12_set : GoodIn wsL_law (wsV RL 21 RX12 yX12_set wsX12_set) := goodIn_app (goodIn_of _ (by decide +kernel)) ggL_law_X12_set
set_option maxRecDepth 20000 in
theorem ggL_law_X11_copy : GoodIn wsL_law wsX11_copy := goodIn_r _ [218, 141, 13, 194, 219, 195, 220, 221, 222, 223, 142, 143, 2, 144, 148, 149, 150, 151, 152, 153, 196, 197, 198, 43, 199, 160, 165, 166, 167, 168, 988, 989, 990, 991, 992, 993, 994, 995, 996, 997, 998, 999, 1000, 1038, 1039, 1040, 1041] (by decide +kernel) (by decide +kernel)
set_option maxRecDepth 20000 in
theorem gL_law_X11_copy : GoodIn wsL_law (wsV RL 22 RX11 yX11_copy wsX11_copy) := goodIn_app (goodIn_of _ (by decide +kernel)) ggL_law_X11_copy
set_option maxRecDepth 20000 in
theorem ggL_law_X12_copy : GoodIn wsL_law wsX12_copy := goodIn_r _ [227, 173, 120, 123, 122, 174, 175, 5, 176, 177, 178, 179, 208, 209, 210, 211, 136, 180, 181, 182, 183, 184, 185, 228, 229, 230, 231, 121, 186, 187, 188, 189, 1001, 1002, 1003, 1004, 1005, 1006, 1007, 1008, 1009, 1010, 1011, 1012, 1013, 1014, 1015, 1016, 1017, 1018, 1019, 1020, 1021, 1022, 1023, 1024, 1025] (by decide +kernel) (by decide +kernel)
set_option maxRecDepth 20000 in
theorem gL_law_X12_copy : GoodIn wsL_law (wsV RL 26 RX12 yX12_copy wsX12_copy) := goodIn_app (goodIn_of _ (by decide +kernel)) ggL_law_X12_copy
set_option maxRecDepth 20000 in
theorem ggL_law_X11_drop : GoodIn wsL_law wsX11_drop := goodIn_r _ [235, 141, 13, 194, 236, 142, 143, 2, 144, 148, 149, 150, 151, 152, 153, 165, 166, 167, 168, 988, 989, 990, 991, 992, 993, 994, 995, 996, 997, 998, 999, 1000, 1038, 1039, 1040, 1041] (by decide +kernel) (by decide +kernel)
set_option maxRecDepth 20000 in
theorem gL_law_X11_drop : GoodIn wsL_law (wsV RL 27 RX11 yX11_drop wsX11_drop) := goodIn_app (goodIn_of _ (by decide +kernel)) ggL_law_X11_drop
set_option maxRecDepth 20000 in
theorem ggL_law_X12_drop : GoodIn wsL_law wsX12_drop := goodIn_r _ [240, 173, 120, 136, 121, 174, 175, 5, 176, 177, 178, 179, 208, 209, 210, 211, 180, 181, 182, 183, 184, 185, 186, 187, 188, 189, 1001, 1002, 1003, 1004, 1005, 1006, 1007, 1008, 1009, 1010, 1011, 1012, 1013, 1014, 1015, 1016, 1017, 1018, 1019, 1020, 1021, 1022, 1023, 1024, 1025] (by decide +kernel) (by decide +kernel)
set_option maxRecDepth 20000 in
theorem gL_law_X12_drop : GoodIn wsL_law (wsV RL 31 RX12 yX12_drop wsX12_drop) := goodIn_app (goodIn_of _ (by decide +kernel)) ggL_law_X12_drop
set_option maxRecDepth 20000 in
theorem ggL_law_X11_feed : GoodIn wsL_law wsX11_feed := goodIn_r _ [244, 141, 17, 245, 246, 145, 146, 2, 147, 247, 248, 249, 16, 250, 251, 56, 988, 989, 990, 991, 992, 993, 994, 995, 996, 997, 998, 999, 1000, 1026, 1027, 1028, 1029, 1030] (by decide +kernel) (by decide +kernel)
set_option maxRecDepth 20000 in
theorem gL_law_X11_feed : GoodIn wsL_law (wsV RL 32 RX11 yX11_feed wsX11_feed) := goodIn_app (goodIn_of _ (by decide +kernel)) ggL_law_X11_feed
set_option maxRecDepth 20000 in
theorem ggL_law_X12_feed : GoodIn wsL_law wsX12_feed := goodIn_r _ [255, 173, 256, 257, 124, 177, 178, 5, 179, 1001, 1002, 1003, 1004, 1005, 1006, 1007, 1008, 1009, 1010, 1011, 1012, 1013, 1014, 1015, 1016, 1017, 1018, 1019, 1020, 1021, 1022, 1023, 1024, 1025] (by decide +kernel) (by decide +kernel)
set_option maxRecDepth 20000 in
theorem gL_law_X12_feed : GoodIn wsL_law (wsV RL 35 RX12 yX12_feed wsX12_feed) := goodIn_app (goodIn_of _ (by decide +kernel)) ggL_law_X12_feed
set_option maxRecDepth 20000 in
theorem ggL_law_X11_field : GoodIn wsL_law wsX11_field := goodIn_r _ [261, 17, 47, 23, 245, 262, 263, 264, 265, 46, 266, 267, 268, 269, 270, 16, 271, 272, 251, 273, 274, 275, 45, 276, 277, 278, 99, 100, 101, 279, 280, 281, 282, 283, 284, 285, 286, 287, 288, 289, 290, 291, 292, 293, 56, 294, 295, 296, 297, 298, 299, 300, 301, 302, 303, 304, 305, 146, 2, 147, 306, 307, 308, 309, 310, 311, 312, 313, 314, 315, 316, 317, 318, 319, 320, 321, 322, 323, 95, 96, 324, 221, 222, 223, 97, 98, 988, 989, 990, 991, 992, 993, 994, 995, 996, 997, 998, 999, 1000, 1026, 1027, 1028, 1029, 1030, 1042, 1043, 1044, 1045, 1046, 1047, 1048, 1049, 1050, 1051, 1052, 1053, 1054] (by decide +kernel) (by decide +kernel)
set_option maxRecDepth 20000 in
theorem gL_law_X11_field : GoodIn wsL_law (wsV RL 36 RX11 yX11_field wsX11_field) := goodIn_app (goodIn_of _ (by decide +kernel)) ggL_law_X11_field
set_option maxRecDepth 20000 in
theorem ggL_law_X12_field : GoodIn wsL_law wsX12_field := goodIn_r _ [328, 126, 329, 330, 331, 332, 256, 333, 125, 334, 335, 336, 337, 5, 338, 339, 340, 341, 342, 343, 124, 177, 178, 179, 344, 345, 346, 347, 348, 349, 350, 351, 352, 353, 354, 355, 356, 357, 358, 359, 360, 361, 362, 363, 364, 365, 366, 367, 368, 369, 370, 371, 136, 372, 373, 374, 1001, 1002, 1003, 1004, 1005, 1006, 1007, 1008, 1009, 1010, 1011, 1012, 1013, 1014, 1015, 1016, 1017, 1018, 1019, 1020, 1021, 1022, 1023, 1024, 1025] (by decide +kernel) (by decide +kernel)
set_option maxRecDepth 20000 in
theorem gL_law_X12_field : GoodIn wsL_law (wsV RL 40 RX12 yX12_field wsX12_field) := goodIn_app (goodIn_of _ (by decide +kernel)) ggL_law_X12_field
set_option maxRecDepth 20000 in
theorem ggL_law_X11_fault : GoodIn wsL_law wsX11_fault := goodIn_r _ [378, 263, 988, 989, 990, 991, 992, 993, 994, 995, 996, 997, 998, 999, 1000] (by decide +kernel) (by decide +kernel)
set_option maxRecDepth 20000 in
theorem gL_law_X11_fault : GoodIn wsL_law (wsV RL 41 RX11 yX11_fault wsX11_fault) := goodIn_app (goodIn_of _ (by decide +kernel)) ggL_law_X11_fault
set_option maxRecDepth 20000 in
theorem ggL_law_X12_fault : GoodIn wsL_law wsX12_fault := goodIn_r _ [382, 348, 1001, 1002, 1003, 1004, 1005, 1006, 1007, 1008, 1009, 1010, 1011, 1012, 1013, 1014, 1015, 1016, 1017, 1018, 1019, 1020, 1021, 1022, 1023, 1024, 1025] (by decide +kernel) (by decide +kernel)
set_option maxRecDepth 20000 in
theorem gL_law_X12_fault : GoodIn wsL_law (wsV RL 44 RX12 yX12_fault wsX12_fault) := goodIn_app (goodIn_of _ (by decide +kernel)) ggL_law_X12_fault
set_option maxRecDepth 20000 in
theorem ggL_law_X11_years : GoodIn wsL_law wsX11_years := goodIn_r _ [386, 46, 267, 387, 141, 388, 246, 145, 146, 2, 147, 389, 390, 391, 392, 25, 393, 266, 394, 395, 396, 397, 318, 319, 320, 45, 321, 277, 278, 322, 323, 95, 96, 324, 221, 222, 223, 97, 98, 99, 100, 101, 398, 399, 400, 401, 402, 403, 404, 405, 102, 406, 407, 408, 409, 410, 103, 411, 412, 413, 414, 415, 416, 417, 418, 38, 419, 420, 421, 422, 423, 32, 424, 425, 426, 427, 29, 428, 429, 430, 431, 35, 432, 433, 434, 435, 436, 437, 438, 439, 440, 441, 442, 443, 41, 444, 445, 446, 447, 448, 449, 450, 451, 452, 453, 454, 455, 456, 457, 988, 989, 990, 991, 992, 993, 994, 995, 996, 997, 998, 999, 1000, 1042, 1043, 1044, 1045, 1046, 1047, 1048, 1049, 1050, 1051, 1052, 1053, 1054] (by decide +kernel) (by decide +kernel)
set_option maxRecDepth 20000 in
theorem gL_law_X11_years : GoodIn wsL_law (wsV RL 45 RX11 yX11_years wsX11_years) := goodIn_app (goodIn_of _ (by decide +kernel)) ggL_law_X11_years
set_option maxRecDepth 20000 in
theorem ggL_law_X12_years : GoodIn wsL_law wsX12_years := goodIn_r _ [461, 462, 173, 125, 257, 463, 464, 465, 5, 466, 177, 178, 179, 467, 468, 469, 470, 334, 128, 372, 373, 374, 471, 472, 473, 474, 132, 475, 476, 477, 136, 478, 479, 480, 481, 482, 483, 484, 485, 486, 487, 488, 489, 490, 491, 492, 493, 494, 495, 496, 497, 498, 1001, 1002, 1003, 1004, 1005, 1006, 1007, 1008, 1009, 1010, 1011, 1012, 1013, 1014, 1015, 1016, 1017, 1018, 1019, 1020, 1021, 1022, 1023, 1024, 1025] (by decide +kernel) (by decide +kernel)
set_option maxRecDepth 20000 in
theorem gL_law_X12_years : GoodIn wsL_law (wsV RL 48 RX12 yX12_years wsX12_years) := goodIn_app (goodIn_of _ (by decide +kernel)) ggL_law_X12_years
set_option maxRecDepth 20000 in
theorem ggL_law_X11_marry : GoodIn wsL_law wsX11_marry := goodIn_r _ [502, 141, 46, 503, 387, 504, 505, 506, 2, 507, 267, 389, 390, 391, 392, 25, 393, 266, 394, 395, 396, 397, 318, 319, 320, 45, 321, 277, 278, 322, 323, 95, 96, 324, 221, 222, 223, 97, 98, 99, 100, 101, 508, 509, 510, 511, 988, 989, 990, 991, 992, 993, 994, 995, 996, 997, 998, 999, 1000, 1042, 1043, 1044, 1045, 1046, 1047, 1048, 1049, 1050, 1051, 1052, 1053, 1054] (by decide +kernel) (by decide +kernel)
set_option maxRecDepth 20000 in
theorem gL_law_X11_marry : GoodIn wsL_law (wsV RL 49 RX11 yX11_marry wsX11_marry) := goodIn_app (goodIn_of _ (by decide +kernel)) ggL_law_X11_marry
set_option maxRecDepth 20000 in
theorem ggL_law_X12_marry : GoodIn wsL_law wsX12_marry := goodIn_r _ [515, 173, 125, 136, 462, 516, 517, 518, 5, 519, 177, 178, 179, 467, 468, 469, 470, 334, 128, 372, 373, 374, 520, 521, 522, 523, 1001, 1002, 1003, 1004, 1005, 1006, 1007, 1008, 1009, 1010, 1011, 1012, 1013, 1014, 1015, 1016, 1017, 1018, 1019, 1020, 1021, 1022, 1023, 1024, 1025] (by decide +kernel) (by decide +kernel)
set_option maxRecDepth 20000 in
theorem gL_law_X12_marry : GoodIn wsL_law (wsV RL 53 RX12 yX12_marry wsX12_marry) := goodIn_app (goodIn_of _ (by decide +kernel)) ggL_law_X12_marry
set_option maxRecDepth 20000 in
theorem ggL_law_X11_part : GoodIn wsL_law wsX11_part := goodIn_r _ [527, 141, 46, 503, 387, 504, 505, 506, 2, 507, 267, 389, 390, 391, 392, 25, 393, 266, 394, 395, 396, 397, 318, 319, 320, 45, 321, 277, 278, 322, 323, 95, 96, 324, 221, 222, 223, 97, 98, 99, 100, 101, 988, 989, 990, 991, 992, 993, 994, 995, 996, 997, 998, 999, 1000, 1042, 1043, 1044, 1045, 1046, 1047, 1048, 1049, 1050, 1051, 1052, 1053, 1054] (by decide +kernel) (by decide +kernel)
set_option maxRecDepth 20000 in
theorem gL_law_X11_part : GoodIn wsL_law (wsV RL 54 RX11 yX11_part wsX11_part) := goodIn_app (goodIn_of _ (by decide +kernel)) ggL_law_X11_part
set_option maxRecDepth 20000 in
theorem ggL_law_X12_part : GoodIn wsL_law wsX12_part := goodIn_r _ [531, 173, 125, 136, 462, 516, 517, 518, 5, 519, 177, 178, 179, 467, 468, 469, 470, 334, 128, 372, 373, 374, 1001, 1002, 1003, 1004, 1005, 1006, 1007, 1008, 1009, 1010, 1011, 1012, 1013, 1014, 1015, 1016, 1017, 1018, 1019, 1020, 1021, 1022, 1023, 1024, 1025] (by decide +kernel) (by decide +kernel)
set_option maxRecDepth 20000 in
theorem gL_law_X12_part : GoodIn wsL_law (wsV RL 57 RX12 yX12_part wsX12_part) := goodIn_app (goodIn_of _ (by decide +kernel)) ggL_law_X12_part
set_option maxRecDepth 20000 in
theorem ggL_law_X11_swap : GoodIn wsL_law wsX11_swap := goodIn_r _ [535, 141, 46, 536, 504, 505, 506, 2, 507, 267, 389, 390, 391, 392, 25, 393, 266, 394, 395, 396, 397, 318, 319, 320, 45, 321, 277, 278, 322, 323, 95, 96, 324, 221, 222, 223, 97, 98, 99, 100, 101, 537, 538, 539, 540, 988, 989, 990, 991, 992, 993, 994, 995, 996, 997, 998, 999, 1000, 1042, 1043, 1044, 1045, 1046, 1047, 1048, 1049, 1050, 1051, 1052, 1053, 1054] (by decide +kernel) (by decide +kernel)
set_option maxRecDepth 20000 in
theorem gL_law_X11_swap : GoodIn wsL_law (wsV RL 58 RX11 yX11_swap wsX11_swap) := goodIn_app (goodIn_of _ (by decide +kernel)) ggL_law_X11_swap
set_option maxRecDepth 20000 in
theorem ggL_law_X12_swap : GoodIn wsL_law wsX12_swap := goodIn_r _ [544, 173, 125, 516, 517, 518, 5, 519, 177, 178, 179, 467, 468, 469, 470, 334, 128, 372, 373, 374, 545, 546, 547, 1001, 1002, 1003, 1004, 1005, 1006, 1007, 1008, 1009, 1010, 1011, 1012, 1013, 1014, 1015, 1016, 1017, 1018, 1019, 1020, 1021, 1022, 1023, 1024, 1025] (by decide +kernel) (by decide +kernel)
set_option maxRecDepth 20000 in
theorem gL_law_X12_swap : GoodIn wsL_law (wsV RL 61 RX12 yX12_swap wsX12_swap) := goodIn_app (goodIn_of _ (by decide +kernel)) ggL_law_X12_swap
set_option maxRecDepth 20000 in
theorem ggL_law_X11_lean : GoodIn wsL_law wsX11_lean := goodIn_r _ [551, 141, 46, 552, 504, 505, 506, 2, 507, 267, 389, 390, 391, 392, 25, 393, 266, 394, 395, 396, 397, 318, 319, 320, 45, 321, 277, 278, 322, 323, 95, 96, 324, 221, 222, 223, 97, 98, 99, 100, 101, 988, 989, 990, 991, 992, 993, 994, 995, 996, 997, 998, 999, 1000, 1042, 1043, 1044, 1045, 1046, 1047, 1048, 1049, 1050, 1051, 1052, 1053, 1054] (by decide +kernel) (by decide +kernel)
set_option maxRecDepth 20000 in
theorem gL_law_X11_lean : GoodIn wsL_law (wsV RL 62 RX11 yX11_lean wsX11_lean) := goodIn_app (goodIn_of _ (by decide +kernel)) ggL_law_X11_lean
set_option maxRecDepth 20000 in
theorem ggL_law_X12_lean : GoodIn wsL_law wsX12_lean := goodIn_r _ [556, 173, 125, 516, 517, 518, 5, 519, 177, 178, 179, 467, 468, 469, 470, 334, 128, 372, 373, 374, 1001, 1002, 1003, 1004, 1005, 1006, 1007, 1008, 1009, 1010, 1011, 1012, 1013, 1014, 1015, 1016, 1017, 1018, 1019, 1020, 1021, 1022, 1023, 1024, 1025] (by decide +kernel) (by decide +kernel)
set_option maxRecDepth 20000 in
theorem gL_law_X12_lean : GoodIn wsL_law (wsV RL 65 RX12 yX12_lean wsX12_lean) := goodIn_app (goodIn_of _ (by decide +kernel)) ggL_law_X12_lean
set_option maxRecDepth 20000 in
theorem ggL_law_X11_ground : GoodIn wsL_law wsX11_ground := goodIn_r _ [560, 46, 267, 387, 141, 561, 145, 146, 2, 147, 389, 390, 391, 392, 25, 393, 266, 394, 395, 396, 397, 318, 319, 320, 45, 321, 277, 278, 322, 323, 95, 96, 324, 221, 222, 223, 97, 98, 99, 100, 101, 988, 989, 990, 991, 992, 993, 994, 995, 996, 997, 998, 999, 1000, 1042, 1043, 1044, 1045, 1046, 1047, 1048, 1049, 1050, 1051, 1052, 1053, 1054] (by decide +kernel) (by decide +kernel)
set_option maxRecDepth 20000 in
theorem gL_law_X11_ground : GoodIn wsL_law (wsV RL 66 RX11 yX11_ground wsX11_ground) := goodIn_app (goodIn_of _ (by decide +kernel)) ggL_law_X11_ground
set_option maxRecDepth 20000 in
theorem ggL_law_X12_ground : GoodIn wsL_law wsX12_ground := goodIn_r _ [565, 462, 173, 125, 463, 464, 465, 5, 466, 177, 178, 179, 467, 468, 469, 470, 334, 128, 372, 373, 374, 1001, 1002, 1003, 1004, 1005, 1006, 1007, 1008, 1009, 1010, 1011, 1012, 1013, 1014, 1015, 1016, 1017, 1018, 1019, 1020, 1021, 1022, 1023, 1024, 1025] (by decide +kernel) (by decide +kernel)
set_option maxRecDepth 20000 in
theorem gL_law_X12_ground : GoodIn wsL_law (wsV RL 69 RX12 yX12_ground wsX12_ground) := goodIn_app (goodIn_of _ (by decide +kernel)) ggL_law_X12_ground
set_option maxRecDepth 20000 in
theorem ggL_law_X11_undo : GoodIn wsL_law wsX11_undo := goodIn_r _ [569, 266, 387, 393, 46, 25, 318, 319, 320, 45, 321, 277, 278, 322, 323, 95, 96, 324, 221, 222, 223, 97, 98, 99, 100, 101, 988, 989, 990, 991, 992, 993, 994, 995, 996, 997, 998, 999, 1000, 1042, 1043, 1044, 1045, 1046, 1047, 1048, 1049, 1050, 1051, 1052, 1053, 1054] (by decide +kernel) (by decide +kernel)
set_option maxRecDepth 20000 in
theorem gL_law_X11_undo : GoodIn wsL_law (wsV RL 70 RX11 yX11_undo wsX11_undo) := goodIn_app (goodIn_of _ (by decide +kernel)) ggL_law_X11_undo
set_option maxRecDepth 20000 in
theorem ggL_law_X12_undo : GoodIn wsL_law wsX12_undo := goodIn_r _ [573, 334, 462, 128, 125, 372, 373, 5, 374, 1001, 1002, 1003, 1004, 1005, 1006, 1007, 1008, 1009, 1010, 1011, 1012, 1013, 1014, 1015, 1016, 1017, 1018, 1019, 1020, 1021, 1022, 1023, 1024, 1025] (by decide +kernel) (by decide +kernel)
set_option maxRecDepth 20000 in
theorem gL_law_X12_undo : GoodIn wsL_law (wsV RL 73 RX12 yX12_undo wsX12_undo) := goodIn_app (goodIn_of _ (by decide +kernel)) ggL_law_X12_undo
set_option maxRecDepth 20000 in
theorem ggL_law_X11_turnip : GoodIn wsL_law wsX11_turnip := goodIn_r _ [577, 141, 46, 578, 579, 536, 552, 503, 580, 504, 505, 506, 2, 507, 267, 581, 582, 583, 584, 398, 399, 400, 45, 401, 323, 278, 585, 408, 409, 410, 277, 102, 95, 99, 103, 98, 411, 412, 413, 414, 101, 96, 415, 416, 417, 418, 38, 419, 420, 421, 422, 423, 32, 424, 425, 426, 427, 29, 428, 429, 430, 431, 35, 432, 433, 434, 435, 436, 437, 438, 439, 440, 441, 442, 443, 41, 444, 445, 446, 447, 448, 449, 988, 989, 990, 991, 992, 993, 994, 995, 996, 997, 998, 999, 1000, 1042, 1043, 1044, 1045, 1046, 1047, 1048, 1049, 1050, 1051, 1052, 1053, 1054] (by decide +kernel) (by decide +kernel)
set_option maxRecDepth 20000 in
theorem gL_law_X11_turnip : GoodIn wsL_law (wsV RL 74 RX11 yX11_turnip wsX11_turnip) := goodIn_app (goodIn_of _ (by decide +kernel)) ggL_law_X11_turnip
set_option maxRecDepth 20000 in
theorem ggL_law_X12_turnip : GoodIn wsL_law wsX12_turnip := goodIn_r _ [589, 173, 125, 516, 517, 518, 5, 519, 177, 178, 179, 475, 476, 477, 136, 478, 479, 480, 481, 482, 483, 484, 485, 486, 487, 488, 489, 490, 491, 492, 1001, 1002, 1003, 1004, 1005, 1006, 1007, 1008, 1009, 1010, 1011, 1012, 1013, 1014, 1015, 1016, 1017, 1018, 1019, 1020, 1021, 1022, 1023, 1024, 1025] (by decide +kernel) (by decide +kernel)
set_option maxRecDepth 20000 in
theorem gL_law_X12_turnip : GoodIn wsL_law (wsV RL 77 RX12 yX12_turnip wsX12_turnip) := goodIn_app (goodIn_of _ (by decide +kernel)) ggL_law_X12_turnip
set_option maxRecDepth 20000 in
theorem ggL_law_X11_place : GoodIn wsL_law wsX11_place := goodIn_r _ [593, 46, 594, 141, 504, 505, 506, 2, 507, 267, 988, 989, 990, 991, 992, 993, 994, 995, 996, 997, 998, 999, 1000, 1042, 1043, 1044, 1045, 1046, 1047, 1048, 1049, 1050, 1051, 1052, 1053, 1054] (by decide +kernel) (by decide +kernel)
set_option maxRecDepth 20000 in
theorem gL_law_X11_place : GoodIn wsL_law (wsV RL 78 RX11 yX11_place wsX11_place) := goodIn_app (goodIn_of _ (by decide +kernel)) ggL_law_X11_place
set_option maxRecDepth 20000 in
theorem ggL_law_X12_place : GoodIn wsL_law wsX12_place := goodIn_r _ [598, 125, 173, 516, 517, 518, 5, 519, 177, 178, 179, 490, 491, 492, 136, 1001, 1002, 1003, 1004, 1005, 1006, 1007, 1008, 1009, 1010, 1011, 1012, 1013, 1014, 1015, 1016, 1017, 1018, 1019, 1020, 1021, 1022, 1023, 1024, 1025] (by decide +kernel) (by decide +kernel)
set_option maxRecDepth 20000 in
theorem gL_law_X12_place : GoodIn wsL_law (wsV RL 81 RX12 yX12_place wsX12_place) := goodIn_app (goodIn_of _ (by decide +kernel)) ggL_law_X12_place
set_option maxRecDepth 20000 in
theorem ggL_law_X11_ahead : GoodIn wsL_law wsX11_ahead := goodIn_r _ [602, 141, 51, 578, 579, 504, 505, 506, 2, 507, 46, 267, 145, 146, 147, 603, 604, 605, 50, 606, 114, 112, 607, 319, 320, 45, 321, 277, 278, 322, 323, 95, 96, 324, 221, 222, 223, 97, 98, 99, 100, 101, 608, 399, 400, 401, 609, 403, 404, 405, 102, 406, 395, 396, 397, 407, 408, 409, 410, 103, 411, 412, 413, 414, 415, 416, 417, 418, 38, 419, 420, 421, 422, 423, 32, 424, 425, 426, 427, 29, 428, 429, 430, 431, 35, 432, 433, 434, 435, 436, 437, 438, 439, 440, 441, 442, 443, 41, 444, 445, 446, 447, 448, 449, 988, 989, 990, 991, 992, 993, 994, 995, 996, 997, 998, 999, 1000, 1042, 1043, 1044, 1045, 1046, 1047, 1048, 1049, 1050, 1051, 1052, 1053, 1054, 1055, 1056, 1057, 1058, 1059, 1060, 1061, 1062] (by decide +kernel) (by decide +kernel)
set_option maxRecDepth 20000 in
theorem gL_law_X11_ahead : GoodIn wsL_law (wsV RL 82 RX11 yX11_ahead wsX11_ahead) := goodIn_app (goodIn_of _ (by decide +kernel)) ggL_law_X11_ahead
set_option maxRecDepth 20000 in
theorem ggL_law_X12_ahead : GoodIn wsL_law wsX12_ahead := goodIn_r _ [613, 173, 125, 127, 516, 517, 518, 5, 519, 177, 178, 179, 372, 373, 374, 614, 615, 616, 617, 471, 472, 473, 474, 132, 475, 476, 477, 136, 478, 479, 480, 481, 482, 483, 484, 485, 486, 487, 488, 489, 490, 491, 492, 493, 494, 495, 1001, 1002, 1003, 1004, 1005, 1006, 1007, 1008, 1009, 1010, 1011, 1012, 1013, 1014, 1015, 1016, 1017, 1018, 1019, 1020, 1021, 1022, 1023, 1024, 1025] (by decide +kernel) (by decide +kernel)
set_option maxRecDepth 20000 in
theorem gL_law_X12_ahead : GoodIn wsL_law (wsV RL 85 RX12 yX12_ahead wsX12_ahead) := goodIn_app (goodIn_of _ (by decide +kernel)) ggL_law_X12_ahead
set_option maxRecDepth 20000 in
theorem ggL_law_X11_risen : GoodIn wsL_law wsX11_risen := goodIn_r _ [621, 141, 51, 504, 505, 506, 2, 507, 46, 267, 145, 146, 147, 622, 623, 624, 50, 625, 114, 112, 626, 627, 607, 319, 320, 45, 321, 277, 278, 322, 323, 95, 96, 324, 221, 222, 223, 97, 98, 99, 100, 101, 608, 399, 400, 401, 609, 403, 404, 405, 102, 406, 395, 396, 397, 407, 408, 409, 410, 103, 411, 412, 413, 414, 415, 416, 417, 418, 38, 419, 420, 421, 422, 423, 32, 424, 425, 426, 427, 29, 428, 429, 430, 431, 35, 432, 433, 434, 435, 436, 437, 438, 439, 440, 441, 442, 443, 41, 444, 445, 446, 447, 448, 449, 988, 989, 990, 991, 992, 993, 994, 995, 996, 997, 998, 999, 1000, 1042, 1043, 1044, 1045, 1046, 1047, 1048, 1049, 1050, 1051, 1052, 1053, 1054, 1055, 1056, 1057, 1058, 1059, 1060, 1061, 1062] (by decide +kernel) (by decide +kernel)
set_option maxRecDepth 20000 in
theorem gL_law_X11_risen : GoodIn wsL_law (wsV RL 86 RX11 yX11_risen wsX11_risen) := goodIn_app (goodIn_of _ (by decide +kernel)) ggL_law_X11_risen
set_option maxRecDepth 20000 in
theorem ggL_law_X12_risen : GoodIn wsL_law wsX12_risen := goodIn_r _ [631, 173, 125, 127, 136, 516, 517, 518, 5, 519, 177, 178, 179, 372, 373, 374, 471, 472, 473, 474, 132, 475, 476, 477, 478, 479, 480, 481, 482, 483, 484, 485, 486, 487, 488, 489, 490, 491, 492, 493, 494, 495, 1001, 1002, 1003, 1004, 1005, 1006, 1007, 1008, 1009, 1010, 1011, 1012, 1013, 1014, 1015, 1016, 1017, 1018, 1019, 1020, 1021, 1022, 1023, 1024, 1025] (by decide +kernel) (by decide +kernel)
set_option maxRecDepth 20000 in
theorem gL_law_X12_risen : GoodIn wsL_law (wsV RL 89 RX12 yX12_risen wsX12_risen) := goodIn_app (goodIn_of _ (by decide +kernel)) ggL_law_X12_risen
set_option maxRecDepth 20000 in
theorem ggL_law_X11_squire : GoodIn wsL_law wsX11_squire := goodIn_r _ [635, 46, 267, 387, 141, 51, 584, 636, 145, 146, 2, 147, 637, 638, 639, 50, 640, 114, 112, 641, 626, 642, 607, 319, 320, 45, 321, 277, 278, 322, 323, 95, 96, 324, 221, 222, 223, 97, 98, 99, 100, 101, 608, 399, 400, 401, 609, 403, 404, 405, 102, 406, 395, 396, 397, 407, 408, 409, 410, 103, 411, 412, 413, 414, 415, 416, 417, 418, 38, 419, 420, 421, 422, 423, 32, 424, 425, 426, 427, 29, 428, 429, 430, 431, 35, 432, 433, 434, 435, 436, 437, 438, 439, 440, 441, 442, 443, 41, 444, 445, 446, 447, 448, 449, 988, 989, 990, 991, 992, 993, 994, 995, 996, 997, 998, 999, 1000, 1042, 1043, 1044, 1045, 1046, 1047, 1048, 1049, 1050, 1051, 1052, 1053, 1054, 1055, 1056, 1057, 1058, 1059, 1060, 1061, 1062] (by decide +kernel) (by decide +kernel)
set_option maxRecDepth 20000 in
theorem gL_law_X11_squire : GoodIn wsL_law (wsV RL 90 RX11 yX11_squire wsX11_squire) := goodIn_app (goodIn_of _ (by decide +kernel)) ggL_law_X11_squire
set_option maxRecDepth 20000 in
theorem ggL_law_X12_squire : GoodIn wsL_law wsX12_squire := goodIn_r _ [646, 462, 173, 125, 127, 136, 463, 464, 465, 5, 466, 177, 178, 179, 372, 373, 374, 471, 472, 473, 474, 132, 475, 476, 477, 478, 479, 480, 481, 482, 483, 484, 485, 486, 487, 488, 489, 490, 491, 492, 493, 494, 495, 1001, 1002, 1003, 1004, 1005, 1006, 1007, 1008, 1009, 1010, 1011, 1012, 1013, 1014, 1015, 1016, 1017, 1018, 1019, 1020, 1021, 1022, 1023, 1024, 1025] (by decide +kernel) (by decide +kernel)
set_option maxRecDepth 20000 in
theorem gL_law_X12_squire : GoodIn wsL_law (wsV RL 93 RX12 yX12_squire wsX12_squire) := goodIn_app (goodIn_of _ (by decide +kernel)) ggL_law_X12_squire
set_option maxRecDepth 20000 in
theorem ggL_law_X11_pairs : GoodIn wsL_law wsX11_pairs := goodIn_r _ [650, 46, 267, 387, 141, 51, 651, 652, 145, 146, 2, 147, 504, 505, 506, 507, 653, 654, 655, 50, 656, 110, 657, 658, 162, 163, 164, 659, 660, 661, 662, 112, 641, 663, 664, 665, 666, 114, 667, 668, 221, 222, 223, 111, 607, 319, 320, 45, 321, 277, 278, 322, 323, 95, 96, 324, 97, 98, 99, 100, 101, 608, 399, 400, 401, 609, 403, 404, 405, 102, 406, 395, 396, 397, 407, 408, 409, 410, 103, 411, 412, 413, 414, 415, 416, 417, 418, 38, 419, 420, 421, 422, 423, 32, 424, 425, 426, 427, 29, 428, 429, 430, 431, 35, 432, 433, 434, 435, 436, 437, 438, 439, 440, 441, 442, 443, 41, 444, 445, 446, 447, 448, 449, 669, 451, 452, 453, 454, 455, 456, 457, 581, 582, 583, 584, 988, 989, 990, 991, 992, 993, 994, 995, 996, 997, 998, 999, 1000, 1042, 1043, 1044, 1045, 1046, 1047, 1048, 1049, 1050, 1051, 1052, 1053, 1054, 1055, 1056, 1057, 1058, 1059, 1060, 1061, 1062] (by decide +kernel) (by decide +kernel)
set_option maxRecDepth 20000 in
theorem gL_law_X11_pairs : GoodIn wsL_law (wsV RL 94 RX11 yX11_pairs wsX11_pairs) := goodIn_app (goodIn_of _ (by decide +kernel)) ggL_law_X11_pairs
set_option maxRecDepth 20000 in
theorem ggL_law_X12_pairs : GoodIn wsL_law wsX12_pairs := goodIn_r _ [673, 462, 173, 133, 136, 125, 127, 134, 463, 464, 465, 5, 466, 177, 178, 179, 516, 517, 518, 519, 372, 373, 374, 614, 615, 616, 617, 471, 472, 473, 474, 132, 475, 476, 477, 478, 479, 480, 481, 482, 483, 484, 485, 486, 487, 488, 489, 490, 491, 492, 493, 494, 495, 496, 497, 498, 674, 675, 676, 677, 678, 679, 680, 681, 1001, 1002, 1003, 1004, 1005, 1006, 1007, 1008, 1009, 1010, 1011, 1012, 1013, 1014, 1015, 1016, 1017, 1018, 1019, 1020, 1021, 1022, 1023, 1024, 1025] (by decide +kernel) (by decide +kernel)
set_option maxRecDepth 20000 in
theorem gL_law_X12_pairs : GoodIn wsL_law (wsV RL 97 RX12 yX12_pairs wsX12_pairs) := goodIn_app (goodIn_of _ (by decide +kernel)) ggL_law_X12_pairs
set_option maxRecDepth 20000 in
theorem ggL_law_X11_change : GoodIn wsL_law wsX11_change := goodIn_r _ [685, 46, 267, 387, 141, 584, 51, 651, 145, 146, 2, 147, 686, 687, 688, 50, 689, 657, 112, 641, 114, 607, 319, 320, 45, 321, 277, 278, 322, 323, 95, 96, 324, 221, 222, 223, 97, 98, 99, 100, 101, 690, 538, 539, 540, 608, 399, 400, 401, 609, 403, 404, 405, 102, 406, 395, 396, 397, 407, 408, 409, 410, 103, 411, 412, 413, 414, 415, 416, 417, 418, 38, 419, 420, 421, 422, 423, 32, 424, 425, 426, 427, 29, 428, 429, 430, 431, 35, 432, 433, 434, 435, 436, 437, 438, 439, 440, 441, 442, 443, 41, 444, 445, 446, 447, 448, 449, 669, 451, 452, 453, 454, 455, 456, 457, 988, 989, 990, 991, 992, 993, 994, 995, 996, 997, 998, 999, 1000, 1042, 1043, 1044, 1045, 1046, 1047, 1048, 1049, 1050, 1051, 1052, 1053, 1054, 1055, 1056, 1057, 1058, 1059, 1060, 1061, 1062] (by decide +kernel) (by decide +kernel)
set_option maxRecDepth 20000 in
theorem gL_law_X11_change : GoodIn wsL_law (wsV RL 98 RX11 yX11_change wsX11_change) := goodIn_app (goodIn_of _ (by decide +kernel)) ggL_law_X11_change
set_option maxRecDepth 20000 in
theorem ggL_law_X12_change : GoodIn wsL_law wsX12_change := goodIn_r _ [694, 462, 173, 136, 125, 127, 463, 464, 465, 5, 466, 177, 178, 179, 372, 373, 374, 545, 546, 547, 614, 615, 616, 617, 471, 472, 473, 474, 132, 475, 476, 477, 478, 479, 480, 481, 482, 483, 484, 485, 486, 487, 488, 489, 490, 491, 492, 493, 494, 495, 496, 497, 498, 1001, 1002, 1003, 1004, 1005, 1006, 1007, 1008, 1009, 1010, 1011, 1012, 1013, 1014, 1015, 1016, 1017, 1018, 1019, 1020, 1021, 1022, 1023, 1024, 1025] (by decide +kernel) (by decide +kernel)
set_option maxRecDepth 20000 in
theorem gL_law_X12_change : GoodIn wsL_law (wsV RL 101 RX12 yX12_change wsX12_change) := goodIn_app (goodIn_of _ (by decide +kernel)) ggL_law_X12_change
set_option maxRecDepth 20000 in
theorem ggL_law_X11_power : GoodIn wsL_law wsX11_power := goodIn_r _ [698, 46, 141, 504, 505, 506, 2, 507, 267, 699, 700, 701, 45, 702, 277, 96, 703, 451, 452, 453, 454, 455, 456, 457, 988, 989, 990, 991, 992, 993, 994, 995, 996, 997, 998, 999, 1000, 1042, 1043, 1044, 1045, 1046, 1047, 1048, 1049, 1050, 1051, 1052, 1053, 1054] (by decide +kernel) (by decide +kernel)
set_option maxRecDepth 20000 in
theorem gL_law_X11_power : GoodIn wsL_law (wsV RL 102 RX11 yX11_power wsX11_power) := goodIn_app (goodIn_of _ (by decide +kernel)) ggL_law_X11_power
set_option maxRecDepth 20000 in
theorem ggL_law_X12_power : GoodIn wsL_law wsX12_power := goodIn_r _ [707, 173, 125, 516, 517, 518, 5, 519, 177, 178, 179, 481, 482, 483, 708, 709, 710, 711, 496, 497, 498, 1001, 1002, 1003, 1004, 1005, 1006, 1007, 1008, 1009, 1010, 1011, 1012, 1013, 1014, 1015, 1016, 1017, 1018, 1019, 1020, 1021, 1022, 1023, 1024, 1025] (by decide +kernel) (by decide +kernel)
set_option maxRecDepth 20000 in
theorem gL_law_X12_power : GoodIn wsL_law (wsV RL 105 RX12 yX12_power wsX12_power) := goodIn_app (goodIn_of _ (by decide +kernel)) ggL_law_X12_power
set_option maxRecDepth 20000 in
theorem ggL_law_X11_blocs : GoodIn wsL_law wsX11_blocs := goodIn_r _ [715, 46, 267, 387, 141, 584, 145, 146, 2, 147, 716, 717, 718, 45, 719, 277, 703, 451, 452, 453, 454, 455, 456, 457, 96, 720, 436, 437, 438, 439, 440, 441, 721, 988, 989, 990, 991, 992, 993, 994, 995, 996, 997, 998, 999, 1000, 1042, 1043, 1044, 1045, 1046, 1047, 1048, 1049, 1050, 1051, 1052, 1053, 1054] (by decide +kernel) (by decide +kernel)
set_option maxRecDepth 20000 in
theorem gL_law_X11_blocs : GoodIn wsL_law (wsV RL 106 RX11 yX11_blocs wsX11_blocs) := goodIn_app (goodIn_of _ (by decide +kernel)) ggL_law_X11_blocs
set_option maxRecDepth 20000 in
theorem ggL_law_X12_blocs : GoodIn wsL_law wsX12_blocs := goodIn_r _ [725, 462, 173, 136, 125, 463, 464, 465, 5, 466, 177, 178, 179, 708, 709, 710, 711, 481, 482, 483, 496, 497, 498, 726, 727, 728, 1001, 1002, 1003, 1004, 1005, 1006, 1007, 1008, 1009, 1010, 1011, 1012, 1013, 1014, 1015, 1016, 1017, 1018, 1019, 1020, 1021, 1022, 1023, 1024, 1025] (by decide +kernel) (by decide +kernel)
set_option maxRecDepth 20000 in
theorem gL_law_X12_blocs : GoodIn wsL_law (wsV RL 109 RX12 yX12_blocs wsX12_blocs) := goodIn_app (goodIn_of _ (by decide +kernel)) ggL_law_X12_blocs
set_option maxRecDepth 20000 in
theorem ggL_law_X11_fits : GoodIn wsL_law wsX11_fits := goodIn_r _ [732, 141, 13, 194, 51, 504, 505, 506, 2, 507, 46, 267, 142, 143, 144, 145, 146, 147, 148, 149, 150, 151, 152, 153, 196, 197, 198, 43, 199, 160, 733, 734, 735, 50, 736, 114, 112, 607, 319, 320, 45, 321, 277, 278, 322, 323, 95, 96, 324, 221, 222, 223, 97, 98, 99, 100, 101, 737, 738, 739, 740, 113, 741, 742, 743, 744, 745, 746, 747, 748, 626, 749, 608, 399, 400, 401, 609, 403, 404, 405, 102, 406, 395, 396, 397, 407, 408, 409, 410, 103, 411, 412, 413, 414, 415, 416, 417, 418, 38, 419, 420, 421, 422, 423, 32, 424, 425, 426, 427, 29, 428, 429, 430, 431, 35, 432, 433, 434, 435, 436, 437, 438, 439, 440, 441, 442, 443, 41, 444, 445, 446, 447, 448, 449, 165, 166, 167, 168, 988, 989, 990, 991, 992, 993, 994, 995, 996, 997, 998, 999, 1000, 1038, 1039, 1040, 1041, 1042, 1043, 1044, 1045, 1046, 1047, 1048, 1049, 1050, 1051, 1052, 1053, 1054, 1055, 1056, 1057, 1058, 1059, 1060, 1061, 1062] (by decide +kernel) (by decide +kernel)
set_option maxRecDepth 20000 in
theorem gL_law_X11_fits : GoodIn wsL_law (wsV RL 110 RX11 yX11_fits wsX11_fits) := goodIn_app (goodIn_of _ (by decide +kernel)) ggL_law_X11_fits
set_option maxRecDepth 20000 in
theorem ggL_law_X12_fits : GoodIn wsL_law wsX12_fits := goodIn_r _ [753, 173, 516, 517, 518, 5, 519, 125, 177, 178, 179, 174, 175, 176, 208, 209, 210, 211, 120, 136, 180, 181, 182, 183, 184, 185, 228, 229, 230, 231, 121, 754, 755, 756, 757, 127, 122, 372, 373, 374, 471, 472, 473, 474, 132, 475, 476, 477, 478, 479, 480, 481, 482, 483, 484, 485, 486, 487, 488, 489, 490, 491, 492, 493, 494, 495, 186, 187, 188, 189, 1001, 1002, 1003, 1004, 1005, 1006, 1007, 1008, 1009, 1010, 1011, 1012, 1013, 1014, 1015, 1016, 1017, 1018, 1019, 1020, 1021, 1022, 1023, 1024, 1025] (by decide +kernel) (by decide +kernel)
set_option maxRecDepth 20000 in
theorem gL_law_X12_fits : GoodIn wsL_law (wsV RL 113 RX12 yX12_fits wsX12_fits) := goodIn_app (goodIn_of _ (by decide +kernel)) ggL_law_X12_fits
set_option maxRecDepth 20000 in
theorem ggL_law_X11_chance : GoodIn wsL_law wsX11_chance := goodIn_r _ [761, 141, 51, 504, 505, 506, 2, 507, 46, 267, 145, 146, 147, 762, 763, 764, 50, 765, 109, 112, 607, 319, 320, 45, 321, 277, 278, 322, 323, 95, 96, 324, 221, 222, 223, 97, 98, 99, 100, 101, 766, 767, 768, 769, 626, 609, 403, 404, 405, 102, 406, 395, 396, 397, 407, 408, 409, 410, 103, 411, 412, 413, 414, 415, 416, 417, 418, 38, 419, 420, 421, 422, 423, 32, 424, 425, 426, 427, 29, 428, 429, 430, 431, 35, 432, 433, 434, 435, 436, 437, 438, 439, 440, 441, 442, 443, 41, 444, 445, 446, 447, 448, 449, 988, 989, 990, 991, 992, 993, 994, 995, 996, 997, 998, 999, 1000, 1042, 1043, 1044, 1045, 1046, 1047, 1048, 1049, 1050, 1051, 1052, 1053, 1054, 1055, 1056, 1057, 1058, 1059, 1060, 1061, 1062] (by decide +kernel) (by decide +kernel)
set_option maxRecDepth 20000 in
theorem gL_law_X11_chance : GoodIn wsL_law (wsV RL 114 RX11 yX11_chance wsX11_chance) := goodIn_app (goodIn_of _ (by decide +kernel)) ggL_law_X11_chance
set_option maxRecDepth 20000 in
theorem ggL_law_X12_chance : GoodIn wsL_law wsX12_chance := goodIn_r _ [773, 173, 125, 127, 516, 517, 518, 5, 519, 177, 178, 179, 372, 373, 374, 481, 482, 483, 471, 472, 473, 474, 132, 475, 476, 477, 136, 478, 479, 480, 484, 485, 486, 487, 488, 489, 490, 491, 492, 493, 494, 495, 1001, 1002, 1003, 1004, 1005, 1006, 1007, 1008, 1009, 1010, 1011, 1012, 1013, 1014, 1015, 1016, 1017, 1018, 1019, 1020, 1021, 1022, 1023, 1024, 1025] (by decide +kernel) (by decide +kernel)
set_option maxRecDepth 20000 in
theorem gL_law_X12_chance : GoodIn wsL_law (wsV RL 117 RX12 yX12_chance wsX12_chance) := goodIn_app (goodIn_of _ (by decide +kernel)) ggL_law_X12_chance
set_option maxRecDepth 20000 in
theorem ggL_law_X11_drawn : GoodIn wsL_law wsX11_drawn := goodIn_r _ [777, 46, 267, 387, 778, 141, 51, 145, 146, 2, 147, 779, 780, 781, 50, 782, 114, 112, 641, 783, 784, 785, 743, 786, 787, 607, 319, 320, 45, 321, 277, 278, 322, 323, 95, 96, 324, 221, 222, 223, 97, 98, 99, 100, 101, 690, 538, 539, 540, 608, 399, 400, 401, 609, 403, 404, 405, 102, 406, 395, 396, 397, 407, 408, 409, 410, 103, 411, 412, 413, 414, 415, 416, 417, 418, 38, 419, 420, 421, 422, 423, 32, 424, 425, 426, 427, 29, 428, 429, 430, 431, 35, 432, 433, 434, 435, 436, 437, 438, 439, 440, 441, 442, 443, 41, 444, 445, 446, 447, 448, 449, 450, 451, 452, 453, 454, 455, 456, 457, 788, 789, 790, 791, 988, 989, 990, 991, 992, 993, 994, 995, 996, 997, 998, 999, 1000, 1042, 1043, 1044, 1045, 1046, 1047, 1048, 1049, 1050, 1051, 1052, 1053, 1054, 1055, 1056, 1057, 1058, 1059, 1060, 1061, 1062] (by decide +kernel) (by decide +kernel)
set_option maxRecDepth 20000 in
theorem gL_law_X11_drawn : GoodIn wsL_law (wsV RL 118 RX11 yX11_drawn wsX11_drawn) := goodIn_app (goodIn_of _ (by decide +kernel)) ggL_law_X11_drawn
set_option maxRecDepth 20000 in
theorem ggL_law_X12_drawn : GoodIn wsL_law wsX12_drawn := goodIn_r _ [795, 462, 796, 173, 125, 127, 797, 798, 799, 800, 801, 463, 464, 465, 5, 466, 177, 178, 179, 372, 373, 374, 545, 546, 547, 471, 472, 473, 474, 132, 475, 476, 477, 136, 478, 479, 480, 481, 482, 483, 484, 485, 486, 487, 488, 489, 490, 491, 492, 493, 494, 495, 496, 497, 498, 1001, 1002, 1003, 1004, 1005, 1006, 1007, 1008, 1009, 1010, 1011, 1012, 1013, 1014, 1015, 1016, 1017, 1018, 1019, 1020, 1021, 1022, 1023, 1024, 1025] (by decide +kernel) (by decide +kernel)
set_option maxRecDepth 20000 in
theorem gL_law_X12_drawn : GoodIn wsL_law (wsV RL 121 RX12 yX12_drawn wsX12_drawn) := goodIn_app (goodIn_of _ (by decide +kernel)) ggL_law_X12_drawn
set_option maxRecDepth 20000 in
theorem ggL_law_X11_image : GoodIn wsL_law wsX11_image := goodIn_r _ [805, 141, 46, 267, 387, 26, 145, 146, 2, 147, 318, 319, 320, 45, 321, 277, 278, 322, 323, 95, 96, 324, 221, 222, 223, 97, 98, 99, 100, 101, 988, 989, 990, 991, 992, 993, 994, 995, 996, 997, 998, 999, 1000, 1042, 1043, 1044, 1045, 1046, 1047, 1048, 1049, 1050, 1051, 1052, 1053, 1054] (by decide +kernel) (by decide +kernel)
set_option maxRecDepth 20000 in
theorem gL_law_X11_image : GoodIn wsL_law (wsV RL 122 RX11 yX11_image wsX11_image) := goodIn_app (goodIn_of _ (by decide +kernel)) ggL_law_X11_image
set_option maxRecDepth 20000 in
theorem ggL_law_X12_image : GoodIn wsL_law wsX12_image := goodIn_r _ [809, 173, 462, 125, 129, 131, 177, 178, 5, 179, 463, 464, 465, 466, 372, 373, 374, 1001, 1002, 1003, 1004, 1005, 1006, 1007, 1008, 1009, 1010, 1011, 1012, 1013, 1014, 1015, 1016, 1017, 1018, 1019, 1020, 1021, 1022, 1023, 1024, 1025] (by decide +kernel) (by decide +kernel)
set_option maxRecDepth 20000 in
theorem gL_law_X12_image : GoodIn wsL_law (wsV RL 125 RX12 yX12_image wsX12_image) := goodIn_app (goodIn_of _ (by decide +kernel)) ggL_law_X12_image
set_option maxRecDepth 20000 in
theorem ggL_law_X11_restore : GoodIn wsL_law wsX11_restore := goodIn_r _ [813, 141, 26, 267, 387, 46, 266, 145, 146, 2, 147, 318, 319, 320, 45, 321, 277, 278, 322, 323, 95, 96, 324, 221, 222, 223, 97, 98, 99, 100, 101, 988, 989, 990, 991, 992, 993, 994, 995, 996, 997, 998, 999, 1000, 1042, 1043, 1044, 1045, 1046, 1047, 1048, 1049, 1050, 1051, 1052, 1053, 1054] (by decide +kernel) (by decide +kernel)
set_option maxRecDepth 20000 in
theorem gL_law_X11_restore : GoodIn wsL_law (wsV RL 126 RX11 yX11_restore wsX11_restore) := goodIn_app (goodIn_of _ (by decide +kernel)) ggL_law_X11_restore
set_option maxRecDepth 20000 in
theorem ggL_law_X12_restore : GoodIn wsL_law wsX12_restore := goodIn_r _ [817, 173, 131, 462, 129, 125, 334, 177, 178, 5, 179, 372, 373, 374, 1001, 1002, 1003, 1004, 1005, 1006, 1007, 1008, 1009, 1010, 1011, 1012, 1013, 1014, 1015, 1016, 1017, 1018, 1019, 1020, 1021, 1022, 1023, 1024, 1025] (by decide +kernel) (by decide +kernel)
set_option maxRecDepth 20000 in
theorem gL_law_X12_restore : GoodIn wsL_law (wsV RL 129 RX12 yX12_restore wsX12_restore) := goodIn_app (goodIn_of _ (by decide +kernel)) ggL_law_X12_restore
set_option maxRecDepth 20000 in
theorem ggL_law_X11_kind : GoodIn wsL_law wsX11_kind := goodIn_r _ [821, 46, 822, 823, 141, 504, 505, 506, 2, 507, 267, 988, 989, 990, 991, 992, 993, 994, 995, 996, 997, 998, 999, 1000, 1042, 1043, 1044, 1045, 1046, 1047, 1048, 1049, 1050, 1051, 1052, 1053, 1054, 1036, 1034, 1033, 1035, 1037] (by decide +kernel) (by decide +kernel)
set_option maxRecDepth 20000 in
theorem gL_law_X11_kind : GoodIn wsL_law (wsV RL 130 RX11 yX11_kind wsX11_kind) := goodIn_app (goodIn_of _ (by decide +kernel)) ggL_law_X11_kind
set_option maxRecDepth 20000 in
theorem ggL_law_X12_kind : GoodIn wsL_law wsX12_kind := goodIn_r _ [827, 173, 516, 517, 518, 5, 519, 125, 177, 178, 179, 828, 829, 830, 831, 1001, 1002, 1003, 1004, 1005, 1006, 1007, 1008, 1009, 1010, 1011, 1012, 1013, 1014, 1015, 1016, 1017, 1018, 1019, 1020, 1021, 1022, 1023, 1024, 1025] (by decide +kernel) (by decide +kernel)
set_option maxRecDepth 20000 in
theorem gL_law_X12_kind : GoodIn wsL_law (wsV RL 133 RX12 yX12_kind wsX12_kind) := goodIn_app (goodIn_of _ (by decide +kernel)) ggL_law_X12_kind
set_option maxRecDepth 20000 in
theorem ggL_law_X11_as : GoodIn wsL_law wsX11_as := goodIn_r _ [835, 141, 46, 822, 504, 505, 506, 2, 507, 267, 145, 146, 147, 836, 837, 838, 839, 66, 840, 841, 842, 843, 844, 845, 846, 847, 848, 849, 165, 166, 167, 168, 152, 148, 149, 150, 151, 153, 988, 989, 990, 991, 992, 993, 994, 995, 996, 997, 998, 999, 1000, 1042, 1043, 1044, 1045, 1046, 1047, 1048, 1049, 1050, 1051, 1052, 1053, 1054] (by decide +kernel) (by decide +kernel)
set_option maxRecDepth 20000 in
theorem gL_law_X11_as : GoodIn wsL_law (wsV RL 134 RX11 yX11_as wsX11_as) := goodIn_app (goodIn_of _ (by decide +kernel)) ggL_law_X11_as
set_option maxRecDepth 20000 in
theorem ggL_law_X12_as : GoodIn wsL_law wsX12_as := goodIn_r _ [853, 173, 516, 517, 518, 5, 519, 125, 177, 178, 179, 828, 829, 830, 831, 186, 187, 188, 189, 184, 180, 181, 182, 183, 185, 1001, 1002, 1003, 1004, 1005, 1006, 1007, 1008, 1009, 1010, 1011, 1012, 1013, 1014, 1015, 1016, 1017, 1018, 1019, 1020, 1021, 1022, 1023, 1024, 1025] (by decide +kernel) (by decide +kernel)
set_option maxRecDepth 20000 in
theorem gL_law_X12_as : GoodIn wsL_law (wsV RL 137 RX12 yX12_as wsX12_as) := goodIn_app (goodIn_of _ (by decide +kernel)) ggL_law_X12_as
set_option maxRecDepth 20000 in
theorem ggL_law_X11_ask : GoodIn wsL_law wsX11_ask := goodIn_r _ [857, 141, 21, 858, 46, 822, 504, 505, 506, 2, 507, 267, 145, 146, 147, 859, 860, 861, 862, 863, 38, 864, 865, 866, 867, 20, 868, 869, 60, 870, 871, 872, 66, 873, 874, 875, 876, 877, 32, 878, 879, 880, 881, 882, 883, 29, 884, 885, 886, 887, 888, 889, 890, 891, 892, 893, 894, 895, 896, 897, 898, 899, 900, 901, 902, 903, 904, 905, 35, 906, 907, 908, 909, 910, 911, 912, 913, 41, 914, 915, 916, 917, 449, 918, 919, 920, 921, 922, 923, 924, 925, 926, 927, 928, 929, 930, 931, 932, 988, 989, 990, 991, 992, 993, 994, 995, 996, 997, 998, 999, 1000, 1031, 1032, 1042, 1043, 1044, 1045, 1046, 1047, 1048, 1049, 1050, 1051, 1052, 1053, 1054] (by decide +kernel) (by decide +kernel)
set_option maxRecDepth 20000 in
theorem gL_law_X11_ask : GoodIn wsL_law (wsV RL 138 RX11 yX11_ask wsX11_ask) := goodIn_app (goodIn_of _ (by decide +kernel)) ggL_law_X11_ask
set_option maxRecDepth 20000 in
theorem ggL_law_X12_ask : GoodIn wsL_law wsX12_ask := goodIn_r _ [936, 173, 937, 516, 517, 518, 5, 519, 125, 177, 178, 179, 828, 829, 830, 831, 938, 939, 940, 941, 942, 943, 944, 945, 135, 946, 947, 948, 949, 950, 951, 952, 953, 954, 955, 956, 957, 1001, 1002, 1003, 1004, 1005, 1006, 1007, 1008, 1009, 1010, 1011, 1012, 1013, 1014, 1015, 1016, 1017, 1018, 1019, 1020, 1021, 1022, 1023, 1024, 1025] (by decide +kernel) (by decide +kernel)
set_option maxRecDepth 20000 in
theorem gL_law_X12_ask : GoodIn wsL_law (wsV RL 141 RX12 yX12_ask wsX12_ask) := goodIn_app (goodIn_of _ (by decide +kernel)) ggL_law_X12_ask
set_option maxRecDepth 20000 in
theorem ggL_law_X11_trace : GoodIn wsL_law wsX11_trace := goodIn_r _ [961, 21, 858, 962, 584, 988, 989, 990, 991, 992, 993, 994, 995, 996, 997, 998, 999, 1000, 1031, 1032] (by decide +kernel) (by decide +kernel)
set_option maxRecDepth 20000 in
theorem gL_law_X11_trace : GoodIn wsL_law (wsV RL 142 RX11 yX11_trace wsX11_trace) := goodIn_app (goodIn_of _ (by decide +kernel)) ggL_law_X11_trace
set_option maxRecDepth 20000 in
theorem ggL_law_X12_trace : GoodIn wsL_law wsX12_trace := goodIn_r _ [966, 937, 135, 136, 177, 178, 5, 179, 1001, 1002, 1003, 1004, 1005, 1006, 1007, 1008, 1009, 1010, 1011, 1012, 1013, 1014, 1015, 1016, 1017, 1018, 1019, 1020, 1021, 1022, 1023, 1024, 1025] (by decide +kernel) (by decide +kernel)
set_option maxRecDepth 20000 in
theorem gL_law_X12_trace : GoodIn wsL_law (wsV RL 145 RX12 yX12_trace wsX12_trace) := goodIn_app (goodIn_of _ (by decide +kernel)) ggL_law_X12_trace
set_option maxRecDepth 20000 in
theorem ggL_law_X11_count : GoodIn wsL_law wsX11_count := goodIn_r _ [970, 46, 267, 388, 561, 971, 266, 17, 245, 141, 972, 973, 974, 2, 975, 13, 194, 450, 451, 452, 45, 453, 277, 454, 455, 456, 457, 96, 508, 509, 510, 511, 99, 988, 989, 990, 991, 992, 993, 994, 995, 996, 997, 998, 999, 1000, 1042, 1043, 1044, 1045, 1046, 1047, 1048, 1049, 1050, 1051, 1052, 1053, 1054, 1026, 1027, 1028, 1029, 1030, 1038, 1039, 1040, 1041] (by decide +kernel) (by decide +kernel)
set_option maxRecDepth 20000 in
theorem gL_law_X11_count : GoodIn wsL_law (wsV RL 146 RX11 yX11_count wsX11_count) := goodIn_app (goodIn_of _ (by decide +kernel)) ggL_law_X11_count
set_option maxRecDepth 20000 in
theorem ggL_law_X12_count : GoodIn wsL_law wsX12_count := goodIn_r _ [979, 125, 334, 256, 173, 208, 209, 210, 5, 211, 120, 136, 496, 497, 498, 520, 521, 522, 523, 1001, 1002, 1003, 1004, 1005, 1006, 1007, 1008, 1009, 1010, 1011, 1012, 1013, 1014, 1015, 1016, 1017, 1018, 1019, 1020, 1021, 1022, 1023, 1024, 1025] (by decide +kernel) (by decide +kernel)
set_option maxRecDepth 20000 in
theorem gL_law_X12_count : GoodIn wsL_law (wsV RL 149 RX12 yX12_count wsX12_count) := goodIn_app (goodIn_of _ (by decide +kernel)) ggL_law_X12_count
set_option maxRecDepth 20000 in
theorem ggL_law_X11_status : GoodIn wsL_law wsX11_status := goodIn_r _ [983, 152, 988, 989, 990, 991, 992, 993, 994, 995, 996, 997, 998, 999, 1000] (by decide +kernel) (by decide +kernel)
set_option maxRecDepth 20000 in
theorem gL_law_X11_status : GoodIn wsL_law (wsV RL 150 RX11 yX11_status wsX11_status) := goodIn_app (goodIn_of _ (by decide +kernel)) ggL_law_X11_status
set_option maxRecDepth 20000 in
theorem ggL_law_X12_status : GoodIn wsL_law wsX12_status := goodIn_r _ [987, 184, 1001, 1002, 1003, 1004, 1005, 1006, 1007, 1008, 1009, 1010, 1011, 1012, 1013, 1014, 1015, 1016, 1017, 1018, 1019, 1020, 1021, 1022, 1023, 1024, 1025] (by decide +kernel) (by decide +kernel)
set_option maxRecDepth 20000 in
theorem gL_law_X12_status : GoodIn wsL_law (wsV RL 153 RX12 yX12_status wsX12_status) := goodIn_app (goodIn_of _ (by decide +kernel)) ggL_law_X12_status
theorem dL_law_0 : decode cL_law 0 = .ok (.new 7, 3) := by decide +kernel
theorem dL_law_3 : decode cL_law 3 = .ok (.dup, 1) := by decide +kernel
theorem dL_law_4 : decode cL_law 4 = .ok (.invokespecial 9, 3) := by decide +kernel
theorem dL_law_7 : decode cL_law 7 = .ok (.astore_n 1, 1) := by decide +kernel
theorem dL_law_8 : decode cL_law 8 = .ok (.new 10, 3) := by decide +kernel
theorem dL_law_11 : decode cL_law 11 = .ok (.dup, 1) := by decide +kernel
theorem dL_law_12 : decode cL_law 12 = .ok (.invokespecial 12, 3) := by decide +kernel
theorem dL_law_15 : decode cL_law 15 = .ok (.astore_n 2, 1) := by decide +kernel
theorem dL_law_16 : decode cL_law 16 = .ok (.iconst 0, 1) := by decide +kernel
theorem dL_law_17 : decode cL_law 17 = .ok (.istore_n 3, 1) := by decide +kernel
theorem dL_law_18 : decode cL_law 18 = .ok (.iload_n 3, 1) := by decide +kernel
theorem dL_law_19 : decode cL_law 19 = .ok (.aload_n 0, 1) := by decide +kernel
theorem dL_law_20 : decode cL_law 20 = .ok (.arraylength, 1) := by decide +kernel
theorem dL_law_21 : decode cL_law 21 = .ok (.bipush 6, 2) := by decide +kernel
theorem dL_law_23 : decode cL_law 23 = .ok (.isub, 1) := by decide +kernel
theorem dL_law_24 : decode cL_law 24 = .ok (.if_icmp .gt 1188, 3) := by decide +kernel
theorem dL_law_27 : decode cL_law 27 = .ok (.aload_n 0, 1) := by decide +kernel
theorem dL_law_28 : decode cL_law 28 = .ok (.iload_n 3, 1) := by decide +kernel
theorem dL_law_29 : decode cL_law 29 = .ok (.iaload, 1) := by decide +kernel
theorem dL_law_30 : decode cL_law 30 = .ok (.bipush 63, 2) := by decide +kernel
theorem dL_law_32 : decode cL_law 32 = .ok (.iand, 1) := by decide +kernel
theorem dL_law_33 : decode cL_law 33 = .ok (.tableswitch 1173 0 33 #[151, 194, 237, 300, 323, 346, 359, 372, 395, 428, 451, 484, 507, 530, 543, 576, 599, 642, 675, 698, 731, 764, 787, 810, 873, 936, 979, 1002, 1025, 1048, 1081, 1114, 1137, 1160], 151) := by decide +kernel
theorem dL_law_184 : decode cL_law 184 = .ok (.aload_n 1, 1) := by decide +kernel
theorem dL_law_185 : decode cL_law 185 = .ok (.aload_n 0, 1) := by decide +kernel
theorem dL_law_186 : decode cL_law 186 = .ok (.iload_n 3, 1) := by decide +kernel
theorem dL_law_187 : decode cL_law 187 = .ok (.iconst 1, 1) := by decide +kernel
theorem dL_law_188 : decode cL_law 188 = .ok (.iadd, 1) := by decide +kernel
theorem dL_law_189 : decode cL_law 189 = .ok (.iaload, 1) := by decide +kernel
theorem dL_law_190 : decode cL_law 190 = .ok (.aload_n 0, 1) := by decide +kernel
theorem dL_law_191 : decode cL_law 191 = .ok (.iload_n 3, 1) := by decide +kernel
theorem dL_law_192 : decode cL_law 192 = .ok (.iconst 2, 1) := by decide +kernel
theorem dL_law_193 : decode cL_law 193 = .ok (.iadd, 1) := by decide +kernel
theorem dL_law_194 : decode cL_law 194 = .ok (.iaload, 1) := by decide +kernel
theorem dL_law_195 : decode cL_law 195 = .ok (.aload_n 0, 1) := by decide +kernel
theorem dL_law_196 : decode cL_law 196 = .ok (.iload_n 3, 1) := by decide +kernel
theorem dL_law_197 : decode cL_law 197 = .ok (.iconst 3, 1) := by decide +kernel
theorem dL_law_198 : decode cL_law 198 = .ok (.iadd, 1) := by decide +kernel
theorem dL_law_199 : decode cL_law 199 = .ok (.iaload, 1) := by decide +kernel
theorem dL_law_200 : decode cL_law 200 = .ok (.invokevirtual 13, 3) := by decide +kernel
theorem dL_law_203 : decode cL_law 203 = .ok (.aload_n 2, 1) := by decide +kernel
theorem dL_law_204 : decode cL_law 204 = .ok (.aload_n 0, 1) := by decide +kernel
theorem dL_law_205 : decode cL_law 205 = .ok (.iload_n 3, 1) := by decide +kernel
theorem dL_law_206 : decode cL_law 206 = .ok (.iconst 1, 1) := by decide +kernel
theorem dL_law_207 : decode cL_law 207 = .ok (.iadd, 1) := by decide +kernel
theorem dL_law_208 : decode cL_law 208 = .ok (.iaload, 1) := by decide +kernel
theorem dL_law_209 : decode cL_law 209 = .ok (.aload_n 0, 1) := by decide +kernel
theorem dL_law_210 : decode cL_law 210 = .ok (.iload_n 3, 1) := by decide +kernel
theorem dL_law_211 : decode cL_law 211 = .ok (.iconst 2, 1) := by decide +kernel
theorem dL_law_212 : decode cL_law 212 = .ok (.iadd, 1) := by decide +kernel
theorem dL_law_213 : decode cL_law 213 = .ok (.iaload, 1) := by decide +kernel
theorem dL_law_214 : decode cL_law 214 = .ok (.aload_n 0, 1) := by decide +kernel
theorem dL_law_215 : decode cL_law 215 = .ok (.iload_n 3, 1) := by decide +kernel
theorem dL_law_216 : decode cL_law 216 = .ok (.iconst 3, 1) := by decide +kernel
theorem dL_law_217 : decode cL_law 217 = .ok (.iadd, 1) := by decide +kernel
theorem dL_law_218 : decode cL_law 218 = .ok (.iaload, 1) := by decide +kernel
theorem dL_law_219 : decode cL_law 219 = .ok (.invokevirtual 17, 3) := by decide +kernel
theorem dL_law_222 : decode cL_law 222 = .ok (.if_icmp .eq 984, 3) := by decide +kernel
theorem dL_law_225 : decode cL_law 225 = .ok (.iconst 0, 1) := by decide +kernel
theorem dL_law_226 : decode cL_law 226 = .ok (.ireturn, 1) := by decide +kernel
theorem dL_law_227 : decode cL_law 227 = .ok (.aload_n 1, 1) := by decide +kernel
theorem dL_law_228 : decode cL_law 228 = .ok (.aload_n 0, 1) := by decide +kernel
theorem dL_law_229 : decode cL_law 229 = .ok (.iload_n 3, 1) := by decide +kernel
theorem dL_law_230 : decode cL_law 230 = .ok (.iconst 1, 1) := by decide +kernel
theorem dL_law_231 : decode cL_law 231 = .ok (.iadd, 1) := by decide +kernel
theorem dL_law_232 : decode cL_law 232 = .ok (.iaload, 1) := by decide +kernel
theorem dL_law_233 : decode cL_law 233 = .ok (.aload_n 0, 1) := by decide +kernel
theorem dL_law_234 : decode cL_law 234 = .ok (.iload_n 3, 1) := by decide +kernel
theorem dL_law_235 : decode cL_law 235 = .ok (.iconst 2, 1) := by decide +kernel
theorem dL_law_236 : decode cL_law 236 = .ok (.iadd, 1) := by decide +kernel
theorem dL_law_237 : decode cL_law 237 = .ok (.iaload, 1) := by decide +kernel
theorem dL_law_238 : decode cL_law 238 = .ok (.aload_n 0, 1) := by decide +kernel
theorem dL_law_239 : decode cL_law 239 = .ok (.iload_n 3, 1) := by decide +kernel
theorem dL_law_240 : decode cL_law 240 = .ok (.iconst 3, 1) := by decide +kernel
theorem dL_law_241 : decode cL_law 241 = .ok (.iadd, 1) := by decide +kernel
theorem dL_law_242 : decode cL_law 242 = .ok (.iaload, 1) := by decide +kernel
theorem dL_law_243 : decode cL_law 243 = .ok (.invokevirtual 18, 3) := by decide +kernel
theorem dL_law_246 : decode cL_law 246 = .ok (.aload_n 2, 1) := by decide +kernel
theorem dL_law_247 : decode cL_law 247 = .ok (.aload_n 0, 1) := by decide +kernel
theorem dL_law_248 : decode cL_law 248 = .ok (.iload_n 3, 1) := by decide +kernel
theorem dL_law_249 : decode cL_law 249 = .ok (.iconst 1, 1) := by decide +kernel
theorem dL_law_250 : decode cL_law 250 = .ok (.iadd, 1) := by decide +kernel
theorem dL_law_251 : decode cL_law 251 = .ok (.iaload, 1) := by decide +kernel
theorem dL_law_252 : decode cL_law 252 = .ok (.aload_n 0, 1) := by decide +kernel
theorem dL_law_253 : decode cL_law 253 = .ok (.iload_n 3, 1) := by decide +kernel
theorem dL_law_254 : decode cL_law 254 = .ok (.iconst 2, 1) := by decide +kernel
theorem dL_law_255 : decode cL_law 255 = .ok (.iadd, 1) := by decide +kernel
theorem dL_law_256 : decode cL_law 256 = .ok (.iaload, 1) := by decide +kernel
theorem dL_law_257 : decode cL_law 257 = .ok (.aload_n 0, 1) := by decide +kernel
theorem dL_law_258 : decode cL_law 258 = .ok (.iload_n 3, 1) := by decide +kernel
theorem dL_law_259 : decode cL_law 259 = .ok (.iconst 3, 1) := by decide +kernel
theorem dL_law_260 : decode cL_law 260 = .ok (.iadd, 1) := by decide +kernel
theorem dL_law_261 : decode cL_law 261 = .ok (.iaload, 1) := by decide +kernel
theorem dL_law_262 : decode cL_law 262 = .ok (.invokevirtual 21, 3) := by decide +kernel
theorem dL_law_265 : decode cL_law 265 = .ok (.if_icmp .eq 941, 3) := by decide +kernel
theorem dL_law_268 : decode cL_law 268 = .ok (.iconst 0, 1) := by decide +kernel
theorem dL_law_269 : decode cL_law 269 = .ok (.ireturn, 1) := by decide +kernel
theorem dL_law_270 : decode cL_law 270 = .ok (.aload_n 1, 1) := by decide +kernel
theorem dL_law_271 : decode cL_law 271 = .ok (.aload_n 0, 1) := by decide +kernel
theorem dL_law_272 : decode cL_law 272 = .ok (.iload_n 3, 1) := by decide +kernel
theorem dL_law_273 : decode cL_law 273 = .ok (.iconst 1, 1) := by decide +kernel
theorem dL_law_274 : decode cL_law 274 = .ok (.iadd, 1) := by decide +kernel
theorem dL_law_275 : decode cL_law 275 = .ok (.iaload, 1) := by decide +kernel
theorem dL_law_276 : decode cL_law 276 = .ok (.aload_n 0, 1) := by decide +kernel
theorem dL_law_277 : decode cL_law 277 = .ok (.iload_n 3, 1) := by decide +kernel
theorem dL_law_278 : decode cL_law 278 = .ok (.iconst 2, 1) := by decide +kernel
theorem dL_law_279 : decode cL_law 279 = .ok (.iadd, 1) := by decide +kernel
theorem dL_law_280 : decode cL_law 280 = .ok (.iaload, 1) := by decide +kernel
theorem dL_law_281 : decode cL_law 281 = .ok (.aload_n 0, 1) := by decide +kernel
theorem dL_law_282 : decode cL_law 282 = .ok (.iload_n 3, 1) := by decide +kernel
theorem dL_law_283 : decode cL_law 283 = .ok (.iconst 3, 1) := by decide +kernel
theorem dL_law_284 : decode cL_law 284 = .ok (.iadd, 1) := by decide +kernel
theorem dL_law_285 : decode cL_law 285 = .ok (.iaload, 1) := by decide +kernel
theorem dL_law_286 : decode cL_law 286 = .ok (.aload_n 0, 1) := by decide +kernel
theorem dL_law_287 : decode cL_law 287 = .ok (.iload_n 3, 1) := by decide +kernel
theorem dL_law_288 : decode cL_law 288 = .ok (.iconst 4, 1) := by decide +kernel
theorem dL_law_289 : decode cL_law 289 = .ok (.iadd, 1) := by decide +kernel
theorem dL_law_290 : decode cL_law 290 = .ok (.iaload, 1) := by decide +kernel
theorem dL_law_291 : decode cL_law 291 = .ok (.aload_n 0, 1) := by decide +kernel
theorem dL_law_292 : decode cL_law 292 = .ok (.iload_n 3, 1) := by decide +kernel
theorem dL_law_293 : decode cL_law 293 = .ok (.iconst 5, 1) := by decide +kernel
theorem dL_law_294 : decode cL_law 294 = .ok (.iadd, 1) := by decide +kernel
theorem dL_law_295 : decode cL_law 295 = .ok (.iaload, 1) := by decide +kernel
theorem dL_law_296 : decode cL_law 296 = .ok (.invokevirtual 22, 3) := by decide +kernel
theorem dL_law_299 : decode cL_law 299 = .ok (.aload_n 2, 1) := by decide +kernel
theorem dL_law_300 : decode cL_law 300 = .ok (.aload_n 0, 1) := by decide +kernel
theorem dL_law_301 : decode cL_law 301 = .ok (.iload_n 3, 1) := by decide +kernel
theorem dL_law_302 : decode cL_law 302 = .ok (.iconst 1, 1) := by decide +kernel
theorem dL_law_303 : decode cL_law 303 = .ok (.iadd, 1) := by decide +kernel
theorem dL_law_304 : decode cL_law 304 = .ok (.iaload, 1) := by decide +kernel
theorem dL_law_305 : decode cL_law 305 = .ok (.aload_n 0, 1) := by decide +kernel
theorem dL_law_306 : decode cL_law 306 = .ok (.iload_n 3, 1) := by decide +kernel
theorem dL_law_307 : decode cL_law 307 = .ok (.iconst 2, 1) := by decide +kernel
theorem dL_law_308 : decode cL_law 308 = .ok (.iadd, 1) := by decide +kernel
theorem dL_law_309 : decode cL_law 309 = .ok (.iaload, 1) := by decide +kernel
theorem dL_law_310 : decode cL_law 310 = .ok (.aload_n 0, 1) := by decide +kernel
theorem dL_law_311 : decode cL_law 311 = .ok (.iload_n 3, 1) := by decide +kernel
theorem dL_law_312 : decode cL_law 312 = .ok (.iconst 3, 1) := by decide +kernel
theorem dL_law_313 : decode cL_law 313 = .ok (.iadd, 1) := by decide +kernel
theorem dL_law_314 : decode cL_law 314 = .ok (.iaload, 1) := by decide +kernel
theorem dL_law_315 : decode cL_law 315 = .ok (.aload_n 0, 1) := by decide +kernel
theorem dL_law_316 : decode cL_law 316 = .ok (.iload_n 3, 1) := by decide +kernel
theorem dL_law_317 : decode cL_law 317 = .ok (.iconst 4, 1) := by decide +kernel
theorem dL_law_318 : decode cL_law 318 = .ok (.iadd, 1) := by decide +kernel
theorem dL_law_319 : decode cL_law 319 = .ok (.iaload, 1) := by decide +kernel
theorem dL_law_320 : decode cL_law 320 = .ok (.aload_n 0, 1) := by decide +kernel
theorem dL_law_321 : decode cL_law 321 = .ok (.iload_n 3, 1) := by decide +kernel
theorem dL_law_322 : decode cL_law 322 = .ok (.iconst 5, 1) := by decide +kernel
theorem dL_law_323 : decode cL_law 323 = .ok (.iadd, 1) := by decide +kernel
theorem dL_law_324 : decode cL_law 324 = .ok (.iaload, 1) := by decide +kernel
theorem dL_law_325 : decode cL_law 325 = .ok (.invokevirtual 26, 3) := by decide +kernel
theorem dL_law_328 : decode cL_law 328 = .ok (.if_icmp .eq 878, 3) := by decide +kernel
theorem dL_law_331 : decode cL_law 331 = .ok (.iconst 0, 1) := by decide +kernel
theorem dL_law_332 : decode cL_law 332 = .ok (.ireturn, 1) := by decide +kernel
theorem dL_law_333 : decode cL_law 333 = .ok (.aload_n 1, 1) := by decide +kernel
theorem dL_law_334 : decode cL_law 334 = .ok (.aload_n 0, 1) := by decide +kernel
theorem dL_law_335 : decode cL_law 335 = .ok (.iload_n 3, 1) := by decide +kernel
theorem dL_law_336 : decode cL_law 336 = .ok (.iconst 1, 1) := by decide +kernel
theorem dL_law_337 : decode cL_law 337 = .ok (.iadd, 1) := by decide +kernel
theorem dL_law_338 : decode cL_law 338 = .ok (.iaload, 1) := by decide +kernel
theorem dL_law_339 : decode cL_law 339 = .ok (.invokevirtual 27, 3) := by decide +kernel
theorem dL_law_342 : decode cL_law 342 = .ok (.aload_n 2, 1) := by decide +kernel
theorem dL_law_343 : decode cL_law 343 = .ok (.aload_n 0, 1) := by decide +kernel
theorem dL_law_344 : decode cL_law 344 = .ok (.iload_n 3, 1) := by decide +kernel
theorem dL_law_345 : decode cL_law 345 = .ok (.iconst 1, 1) := by decide +kernel
theorem dL_law_346 : decode cL_law 346 = .ok (.iadd, 1) := by decide +kernel
theorem dL_law_347 : decode cL_law 347 = .ok (.iaload, 1) := by decide +kernel
theorem dL_law_348 : decode cL_law 348 = .ok (.invokevirtual 31, 3) := by decide +kernel
theorem dL_law_351 : decode cL_law 351 = .ok (.if_icmp .eq 855, 3) := by decide +kernel
theorem dL_law_354 : decode cL_law 354 = .ok (.iconst 0, 1) := by decide +kernel
theorem dL_law_355 : decode cL_law 355 = .ok (.ireturn, 1) := by decide +kernel
theorem dL_law_356 : decode cL_law 356 = .ok (.aload_n 1, 1) := by decide +kernel
theorem dL_law_357 : decode cL_law 357 = .ok (.aload_n 0, 1) := by decide +kernel
theorem dL_law_358 : decode cL_law 358 = .ok (.iload_n 3, 1) := by decide +kernel
theorem dL_law_359 : decode cL_law 359 = .ok (.iconst 1, 1) := by decide +kernel
theorem dL_law_360 : decode cL_law 360 = .ok (.iadd, 1) := by decide +kernel
theorem dL_law_361 : decode cL_law 361 = .ok (.iaload, 1) := by decide +kernel
theorem dL_law_362 : decode cL_law 362 = .ok (.invokevirtual 32, 3) := by decide +kernel
theorem dL_law_365 : decode cL_law 365 = .ok (.aload_n 2, 1) := by decide +kernel
theorem dL_law_366 : decode cL_law 366 = .ok (.aload_n 0, 1) := by decide +kernel
theorem dL_law_367 : decode cL_law 367 = .ok (.iload_n 3, 1) := by decide +kernel
theorem dL_law_368 : decode cL_law 368 = .ok (.iconst 1, 1) := by decide +kernel
theorem dL_law_369 : decode cL_law 369 = .ok (.iadd, 1) := by decide +kernel
theorem dL_law_370 : decode cL_law 370 = .ok (.iaload, 1) := by decide +kernel
theorem dL_law_371 : decode cL_law 371 = .ok (.invokevirtual 35, 3) := by decide +kernel
theorem dL_law_374 : decode cL_law 374 = .ok (.if_icmp .eq 832, 3) := by decide +kernel
theorem dL_law_377 : decode cL_law 377 = .ok (.iconst 0, 1) := by decide +kernel
theorem dL_law_378 : decode cL_law 378 = .ok (.ireturn, 1) := by decide +kernel
theorem dL_law_379 : decode cL_law 379 = .ok (.aload_n 1, 1) := by decide +kernel
theorem dL_law_380 : decode cL_law 380 = .ok (.invokevirtual 36, 3) := by decide +kernel
theorem dL_law_383 : decode cL_law 383 = .ok (.aload_n 2, 1) := by decide +kernel
theorem dL_law_384 : decode cL_law 384 = .ok (.invokevirtual 40, 3) := by decide +kernel
theorem dL_law_387 : decode cL_law 387 = .ok (.if_icmp .eq 819, 3) := by decide +kernel
theorem dL_law_390 : decode cL_law 390 = .ok (.iconst 0, 1) := by decide +kernel
theorem dL_law_391 : decode cL_law 391 = .ok (.ireturn, 1) := by decide +kernel
theorem dL_law_392 : decode cL_law 392 = .ok (.aload_n 1, 1) := by decide +kernel
theorem dL_law_393 : decode cL_law 393 = .ok (.invokevirtual 41, 3) := by decide +kernel
theorem dL_law_396 : decode cL_law 396 = .ok (.aload_n 2, 1) := by decide +kernel
theorem dL_law_397 : decode cL_law 397 = .ok (.invokevirtual 44, 3) := by decide +kernel
theorem dL_law_400 : decode cL_law 400 = .ok (.if_icmp .eq 806, 3) := by decide +kernel
theorem dL_law_403 : decode cL_law 403 = .ok (.iconst 0, 1) := by decide +kernel
theorem dL_law_404 : decode cL_law 404 = .ok (.ireturn, 1) := by decide +kernel
theorem dL_law_405 : decode cL_law 405 = .ok (.aload_n 1, 1) := by decide +kernel
theorem dL_law_406 : decode cL_law 406 = .ok (.aload_n 0, 1) := by decide +kernel
theorem dL_law_407 : decode cL_law 407 = .ok (.iload_n 3, 1) := by decide +kernel
theorem dL_law_408 : decode cL_law 408 = .ok (.iconst 1, 1) := by decide +kernel
theorem dL_law_409 : decode cL_law 409 = .ok (.iadd, 1) := by decide +kernel
theorem dL_law_410 : decode cL_law 410 = .ok (.iaload, 1) := by decide +kernel
theorem dL_law_411 : decode cL_law 411 = .ok (.invokevirtual 45, 3) := by decide +kernel
theorem dL_law_414 : decode cL_law 414 = .ok (.aload_n 2, 1) := by decide +kernel
theorem dL_law_415 : decode cL_law 415 = .ok (.aload_n 0, 1) := by decide +kernel
theorem dL_law_416 : decode cL_law 416 = .ok (.iload_n 3, 1) := by decide +kernel
theorem dL_law_417 : decode cL_law 417 = .ok (.iconst 1, 1) := by decide +kernel
theorem dL_law_418 : decode cL_law 418 = .ok (.iadd, 1) := by decide +kernel
theorem dL_law_419 : decode cL_law 419 = .ok (.iaload, 1) := by decide +kernel
theorem dL_law_420 : decode cL_law 420 = .ok (.invokevirtual 48, 3) := by decide +kernel
theorem dL_law_423 : decode cL_law 423 = .ok (.if_icmp .eq 783, 3) := by decide +kernel
theorem dL_law_426 : decode cL_law 426 = .ok (.iconst 0, 1) := by decide +kernel
theorem dL_law_427 : decode cL_law 427 = .ok (.ireturn, 1) := by decide +kernel
theorem dL_law_428 : decode cL_law 428 = .ok (.aload_n 1, 1) := by decide +kernel
theorem dL_law_429 : decode cL_law 429 = .ok (.aload_n 0, 1) := by decide +kernel
theorem dL_law_430 : decode cL_law 430 = .ok (.iload_n 3, 1) := by decide +kernel
theorem dL_law_431 : decode cL_law 431 = .ok (.iconst 1, 1) := by decide +kernel
theorem dL_law_432 : decode cL_law 432 = .ok (.iadd, 1) := by decide +kernel
theorem dL_law_433 : decode cL_law 433 = .ok (.iaload, 1) := by decide +kernel
theorem dL_law_434 : decode cL_law 434 = .ok (.aload_n 0, 1) := by decide +kernel
theorem dL_law_435 : decode cL_law 435 = .ok (.iload_n 3, 1) := by decide +kernel
theorem dL_law_436 : decode cL_law 436 = .ok (.iconst 2, 1) := by decide +kernel
theorem dL_law_437 : decode cL_law 437 = .ok (.iadd, 1) := by decide +kernel
theorem dL_law_438 : decode cL_law 438 = .ok (.iaload, 1) := by decide +kernel
theorem dL_law_439 : decode cL_law 439 = .ok (.invokevirtual 49, 3) := by decide +kernel
theorem dL_law_442 : decode cL_law 442 = .ok (.aload_n 2, 1) := by decide +kernel
theorem dL_law_443 : decode cL_law 443 = .ok (.aload_n 0, 1) := by decide +kernel
theorem dL_law_444 : decode cL_law 444 = .ok (.iload_n 3, 1) := by decide +kernel
theorem dL_law_445 : decode cL_law 445 = .ok (.iconst 1, 1) := by decide +kernel
theorem dL_law_446 : decode cL_law 446 = .ok (.iadd, 1) := by decide +kernel
theorem dL_law_447 : decode cL_law 447 = .ok (.iaload, 1) := by decide +kernel
theorem dL_law_448 : decode cL_law 448 = .ok (.aload_n 0, 1) := by decide +kernel
theorem dL_law_449 : decode cL_law 449 = .ok (.iload_n 3, 1) := by decide +kernel
theorem dL_law_450 : decode cL_law 450 = .ok (.iconst 2, 1) := by decide +kernel
theorem dL_law_451 : decode cL_law 451 = .ok (.iadd, 1) := by decide +kernel
theorem dL_law_452 : decode cL_law 452 = .ok (.iaload, 1) := by decide +kernel
theorem dL_law_453 : decode cL_law 453 = .ok (.invokevirtual 53, 3) := by decide +kernel
theorem dL_law_456 : decode cL_law 456 = .ok (.if_icmp .eq 750, 3) := by decide +kernel
theorem dL_law_459 : decode cL_law 459 = .ok (.iconst 0, 1) := by decide +kernel
theorem dL_law_460 : decode cL_law 460 = .ok (.ireturn, 1) := by decide +kernel
theorem dL_law_461 : decode cL_law 461 = .ok (.aload_n 1, 1) := by decide +kernel
theorem dL_law_462 : decode cL_law 462 = .ok (.aload_n 0, 1) := by decide +kernel
theorem dL_law_463 : decode cL_law 463 = .ok (.iload_n 3, 1) := by decide +kernel
theorem dL_law_464 : decode cL_law 464 = .ok (.iconst 1, 1) := by decide +kernel
theorem dL_law_465 : decode cL_law 465 = .ok (.iadd, 1) := by decide +kernel
theorem dL_law_466 : decode cL_law 466 = .ok (.iaload, 1) := by decide +kernel
theorem dL_law_467 : decode cL_law 467 = .ok (.invokevirtual 54, 3) := by decide +kernel
theorem dL_law_470 : decode cL_law 470 = .ok (.aload_n 2, 1) := by decide +kernel
theorem dL_law_471 : decode cL_law 471 = .ok (.aload_n 0, 1) := by decide +kernel
theorem dL_law_472 : decode cL_law 472 = .ok (.iload_n 3, 1) := by decide +kernel
theorem dL_law_473 : decode cL_law 473 = .ok (.iconst 1, 1) := by decide +kernel
theorem dL_law_474 : decode cL_law 474 = .ok (.iadd, 1) := by decide +kernel
theorem dL_law_475 : decode cL_law 475 = .ok (.iaload, 1) := by decide +kernel
theorem dL_law_476 : decode cL_law 476 = .ok (.invokevirtual 57, 3) := by decide +kernel
theorem dL_law_479 : decode cL_law 479 = .ok (.if_icmp .eq 727, 3) := by decide +kernel
theorem dL_law_482 : decode cL_law 482 = .ok (.iconst 0, 1) := by decide +kernel
theorem dL_law_483 : decode cL_law 483 = .ok (.ireturn, 1) := by decide +kernel
theorem dL_law_484 : decode cL_law 484 = .ok (.aload_n 1, 1) := by decide +kernel
theorem dL_law_485 : decode cL_law 485 = .ok (.aload_n 0, 1) := by decide +kernel
theorem dL_law_486 : decode cL_law 486 = .ok (.iload_n 3, 1) := by decide +kernel
theorem dL_law_487 : decode cL_law 487 = .ok (.iconst 1, 1) := by decide +kernel
theorem dL_law_488 : decode cL_law 488 = .ok (.iadd, 1) := by decide +kernel
theorem dL_law_489 : decode cL_law 489 = .ok (.iaload, 1) := by decide +kernel
theorem dL_law_490 : decode cL_law 490 = .ok (.aload_n 0, 1) := by decide +kernel
theorem dL_law_491 : decode cL_law 491 = .ok (.iload_n 3, 1) := by decide +kernel
theorem dL_law_492 : decode cL_law 492 = .ok (.iconst 2, 1) := by decide +kernel
theorem dL_law_493 : decode cL_law 493 = .ok (.iadd, 1) := by decide +kernel
theorem dL_law_494 : decode cL_law 494 = .ok (.iaload, 1) := by decide +kernel
theorem dL_law_495 : decode cL_law 495 = .ok (.invokevirtual 58, 3) := by decide +kernel
theorem dL_law_498 : decode cL_law 498 = .ok (.aload_n 2, 1) := by decide +kernel
theorem dL_law_499 : decode cL_law 499 = .ok (.aload_n 0, 1) := by decide +kernel
theorem dL_law_500 : decode cL_law 500 = .ok (.iload_n 3, 1) := by decide +kernel
theorem dL_law_501 : decode cL_law 501 = .ok (.iconst 1, 1) := by decide +kernel
theorem dL_law_502 : decode cL_law 502 = .ok (.iadd, 1) := by decide +kernel
theorem dL_law_503 : decode cL_law 503 = .ok (.iaload, 1) := by decide +kernel
theorem dL_law_504 : decode cL_law 504 = .ok (.aload_n 0, 1) := by decide +kernel
theorem dL_law_505 : decode cL_law 505 = .ok (.iload_n 3, 1) := by decide +kernel
theorem dL_law_506 : decode cL_law 506 = .ok (.iconst 2, 1) := by decide +kernel
theorem dL_law_507 : decode cL_law 507 = .ok (.iadd, 1) := by decide +kernel
theorem dL_law_508 : decode cL_law 508 = .ok (.iaload, 1) := by decide +kernel
theorem dL_law_509 : decode cL_law 509 = .ok (.invokevirtual 61, 3) := by decide +kernel
theorem dL_law_512 : decode cL_law 512 = .ok (.if_icmp .eq 694, 3) := by decide +kernel
theorem dL_law_515 : decode cL_law 515 = .ok (.iconst 0, 1) := by decide +kernel
theorem dL_law_516 : decode cL_law 516 = .ok (.ireturn, 1) := by decide +kernel
theorem dL_law_517 : decode cL_law 517 = .ok (.aload_n 1, 1) := by decide +kernel
theorem dL_law_518 : decode cL_law 518 = .ok (.aload_n 0, 1) := by decide +kernel
theorem dL_law_519 : decode cL_law 519 = .ok (.iload_n 3, 1) := by decide +kernel
theorem dL_law_520 : decode cL_law 520 = .ok (.iconst 1, 1) := by decide +kernel
theorem dL_law_521 : decode cL_law 521 = .ok (.iadd, 1) := by decide +kernel
theorem dL_law_522 : decode cL_law 522 = .ok (.iaload, 1) := by decide +kernel
theorem dL_law_523 : decode cL_law 523 = .ok (.invokevirtual 62, 3) := by decide +kernel
theorem dL_law_526 : decode cL_law 526 = .ok (.aload_n 2, 1) := by decide +kernel
theorem dL_law_527 : decode cL_law 527 = .ok (.aload_n 0, 1) := by decide +kernel
theorem dL_law_528 : decode cL_law 528 = .ok (.iload_n 3, 1) := by decide +kernel
theorem dL_law_529 : decode cL_law 529 = .ok (.iconst 1, 1) := by decide +kernel
theorem dL_law_530 : decode cL_law 530 = .ok (.iadd, 1) := by decide +kernel
theorem dL_law_531 : decode cL_law 531 = .ok (.iaload, 1) := by decide +kernel
theorem dL_law_532 : decode cL_law 532 = .ok (.invokevirtual 65, 3) := by decide +kernel
theorem dL_law_535 : decode cL_law 535 = .ok (.if_icmp .eq 671, 3) := by decide +kernel
theorem dL_law_538 : decode cL_law 538 = .ok (.iconst 0, 1) := by decide +kernel
theorem dL_law_539 : decode cL_law 539 = .ok (.ireturn, 1) := by decide +kernel
theorem dL_law_540 : decode cL_law 540 = .ok (.aload_n 1, 1) := by decide +kernel
theorem dL_law_541 : decode cL_law 541 = .ok (.aload_n 0, 1) := by decide +kernel
theorem dL_law_542 : decode cL_law 542 = .ok (.iload_n 3, 1) := by decide +kernel
theorem dL_law_543 : decode cL_law 543 = .ok (.iconst 1, 1) := by decide +kernel
theorem dL_law_544 : decode cL_law 544 = .ok (.iadd, 1) := by decide +kernel
theorem dL_law_545 : decode cL_law 545 = .ok (.iaload, 1) := by decide +kernel
theorem dL_law_546 : decode cL_law 546 = .ok (.invokevirtual 66, 3) := by decide +kernel
theorem dL_law_549 : decode cL_law 549 = .ok (.aload_n 2, 1) := by decide +kernel
theorem dL_law_550 : decode cL_law 550 = .ok (.aload_n 0, 1) := by decide +kernel
theorem dL_law_551 : decode cL_law 551 = .ok (.iload_n 3, 1) := by decide +kernel
theorem dL_law_552 : decode cL_law 552 = .ok (.iconst 1, 1) := by decide +kernel
theorem dL_law_553 : decode cL_law 553 = .ok (.iadd, 1) := by decide +kernel
theorem dL_law_554 : decode cL_law 554 = .ok (.iaload, 1) := by decide +kernel
theorem dL_law_555 : decode cL_law 555 = .ok (.invokevirtual 69, 3) := by decide +kernel
theorem dL_law_558 : decode cL_law 558 = .ok (.if_icmp .eq 648, 3) := by decide +kernel
theorem dL_law_561 : decode cL_law 561 = .ok (.iconst 0, 1) := by decide +kernel
theorem dL_law_562 : decode cL_law 562 = .ok (.ireturn, 1) := by decide +kernel
theorem dL_law_563 : decode cL_law 563 = .ok (.aload_n 1, 1) := by decide +kernel
theorem dL_law_564 : decode cL_law 564 = .ok (.invokevirtual 70, 3) := by decide +kernel
theorem dL_law_567 : decode cL_law 567 = .ok (.aload_n 2, 1) := by decide +kernel
theorem dL_law_568 : decode cL_law 568 = .ok (.invokevirtual 73, 3) := by decide +kernel
theorem dL_law_571 : decode cL_law 571 = .ok (.if_icmp .eq 635, 3) := by decide +kernel
theorem dL_law_574 : decode cL_law 574 = .ok (.iconst 0, 1) := by decide +kernel
theorem dL_law_575 : decode cL_law 575 = .ok (.ireturn, 1) := by decide +kernel
theorem dL_law_576 : decode cL_law 576 = .ok (.aload_n 1, 1) := by decide +kernel
theorem dL_law_577 : decode cL_law 577 = .ok (.aload_n 0, 1) := by decide +kernel
theorem dL_law_578 : decode cL_law 578 = .ok (.iload_n 3, 1) := by decide +kernel
theorem dL_law_579 : decode cL_law 579 = .ok (.iconst 1, 1) := by decide +kernel
theorem dL_law_580 : decode cL_law 580 = .ok (.iadd, 1) := by decide +kernel
theorem dL_law_581 : decode cL_law 581 = .ok (.iaload, 1) := by decide +kernel
theorem dL_law_582 : decode cL_law 582 = .ok (.aload_n 0, 1) := by decide +kernel
theorem dL_law_583 : decode cL_law 583 = .ok (.iload_n 3, 1) := by decide +kernel
theorem dL_law_584 : decode cL_law 584 = .ok (.iconst 2, 1) := by decide +kernel
theorem dL_law_585 : decode cL_law 585 = .ok (.iadd, 1) := by decide +kernel
theorem dL_law_586 : decode cL_law 586 = .ok (.iaload, 1) := by decide +kernel
theorem dL_law_587 : decode cL_law 587 = .ok (.invokevirtual 74, 3) := by decide +kernel
theorem dL_law_590 : decode cL_law 590 = .ok (.aload_n 2, 1) := by decide +kernel
theorem dL_law_591 : decode cL_law 591 = .ok (.aload_n 0, 1) := by decide +kernel
theorem dL_law_592 : decode cL_law 592 = .ok (.iload_n 3, 1) := by decide +kernel
theorem dL_law_593 : decode cL_law 593 = .ok (.iconst 1, 1) := by decide +kernel
theorem dL_law_594 : decode cL_law 594 = .ok (.iadd, 1) := by decide +kernel
theorem dL_law_595 : decode cL_law 595 = .ok (.iaload, 1) := by decide +kernel
theorem dL_law_596 : decode cL_law 596 = .ok (.aload_n 0, 1) := by decide +kernel
theorem dL_law_597 : decode cL_law 597 = .ok (.iload_n 3, 1) := by decide +kernel
theorem dL_law_598 : decode cL_law 598 = .ok (.iconst 2, 1) := by decide +kernel
theorem dL_law_599 : decode cL_law 599 = .ok (.iadd, 1) := by decide +kernel
theorem dL_law_600 : decode cL_law 600 = .ok (.iaload, 1) := by decide +kernel
theorem dL_law_601 : decode cL_law 601 = .ok (.invokevirtual 77, 3) := by decide +kernel
theorem dL_law_604 : decode cL_law 604 = .ok (.if_icmp .eq 602, 3) := by decide +kernel
theorem dL_law_607 : decode cL_law 607 = .ok (.iconst 0, 1) := by decide +kernel
theorem dL_law_608 : decode cL_law 608 = .ok (.ireturn, 1) := by decide +kernel
theorem dL_law_609 : decode cL_law 609 = .ok (.aload_n 1, 1) := by decide +kernel
theorem dL_law_610 : decode cL_law 610 = .ok (.aload_n 0, 1) := by decide +kernel
theorem dL_law_611 : decode cL_law 611 = .ok (.iload_n 3, 1) := by decide +kernel
theorem dL_law_612 : decode cL_law 612 = .ok (.iconst 1, 1) := by decide +kernel
theorem dL_law_613 : decode cL_law 613 = .ok (.iadd, 1) := by decide +kernel
theorem dL_law_614 : decode cL_law 614 = .ok (.iaload, 1) := by decide +kernel
theorem dL_law_615 : decode cL_law 615 = .ok (.invokevirtual 78, 3) := by decide +kernel
theorem dL_law_618 : decode cL_law 618 = .ok (.aload_n 2, 1) := by decide +kernel
theorem dL_law_619 : decode cL_law 619 = .ok (.aload_n 0, 1) := by decide +kernel
theorem dL_law_620 : decode cL_law 620 = .ok (.iload_n 3, 1) := by decide +kernel
theorem dL_law_621 : decode cL_law 621 = .ok (.iconst 1, 1) := by decide +kernel
theorem dL_law_622 : decode cL_law 622 = .ok (.iadd, 1) := by decide +kernel
theorem dL_law_623 : decode cL_law 623 = .ok (.iaload, 1) := by decide +kernel
theorem dL_law_624 : decode cL_law 624 = .ok (.invokevirtual 81, 3) := by decide +kernel
theorem dL_law_627 : decode cL_law 627 = .ok (.if_icmp .eq 579, 3) := by decide +kernel
theorem dL_law_630 : decode cL_law 630 = .ok (.iconst 0, 1) := by decide +kernel
theorem dL_law_631 : decode cL_law 631 = .ok (.ireturn, 1) := by decide +kernel
theorem dL_law_632 : decode cL_law 632 = .ok (.aload_n 1, 1) := by decide +kernel
theorem dL_law_633 : decode cL_law 633 = .ok (.aload_n 0, 1) := by decide +kernel
theorem dL_law_634 : decode cL_law 634 = .ok (.iload_n 3, 1) := by decide +kernel
theorem dL_law_635 : decode cL_law 635 = .ok (.iconst 1, 1) := by decide +kernel
theorem dL_law_636 : decode cL_law 636 = .ok (.iadd, 1) := by decide +kernel
theorem dL_law_637 : decode cL_law 637 = .ok (.iaload, 1) := by decide +kernel
theorem dL_law_638 : decode cL_law 638 = .ok (.aload_n 0, 1) := by decide +kernel
theorem dL_law_639 : decode cL_law 639 = .ok (.iload_n 3, 1) := by decide +kernel
theorem dL_law_640 : decode cL_law 640 = .ok (.iconst 2, 1) := by decide +kernel
theorem dL_law_641 : decode cL_law 641 = .ok (.iadd, 1) := by decide +kernel
theorem dL_law_642 : decode cL_law 642 = .ok (.iaload, 1) := by decide +kernel
theorem dL_law_643 : decode cL_law 643 = .ok (.aload_n 0, 1) := by decide +kernel
theorem dL_law_644 : decode cL_law 644 = .ok (.iload_n 3, 1) := by decide +kernel
theorem dL_law_645 : decode cL_law 645 = .ok (.iconst 3, 1) := by decide +kernel
theorem dL_law_646 : decode cL_law 646 = .ok (.iadd, 1) := by decide +kernel
theorem dL_law_647 : decode cL_law 647 = .ok (.iaload, 1) := by decide +kernel
theorem dL_law_648 : decode cL_law 648 = .ok (.invokevirtual 82, 3) := by decide +kernel
theorem dL_law_651 : decode cL_law 651 = .ok (.aload_n 2, 1) := by decide +kernel
theorem dL_law_652 : decode cL_law 652 = .ok (.aload_n 0, 1) := by decide +kernel
theorem dL_law_653 : decode cL_law 653 = .ok (.iload_n 3, 1) := by decide +kernel
theorem dL_law_654 : decode cL_law 654 = .ok (.iconst 1, 1) := by decide +kernel
theorem dL_law_655 : decode cL_law 655 = .ok (.iadd, 1) := by decide +kernel
theorem dL_law_656 : decode cL_law 656 = .ok (.iaload, 1) := by decide +kernel
theorem dL_law_657 : decode cL_law 657 = .ok (.aload_n 0, 1) := by decide +kernel
theorem dL_law_658 : decode cL_law 658 = .ok (.iload_n 3, 1) := by decide +kernel
theorem dL_law_659 : decode cL_law 659 = .ok (.iconst 2, 1) := by decide +kernel
theorem dL_law_660 : decode cL_law 660 = .ok (.iadd, 1) := by decide +kernel
theorem dL_law_661 : decode cL_law 661 = .ok (.iaload, 1) := by decide +kernel
theorem dL_law_662 : decode cL_law 662 = .ok (.aload_n 0, 1) := by decide +kernel
theorem dL_law_663 : decode cL_law 663 = .ok (.iload_n 3, 1) := by decide +kernel
theorem dL_law_664 : decode cL_law 664 = .ok (.iconst 3, 1) := by decide +kernel
theorem dL_law_665 : decode cL_law 665 = .ok (.iadd, 1) := by decide +kernel
theorem dL_law_666 : decode cL_law 666 = .ok (.iaload, 1) := by decide +kernel
theorem dL_law_667 : decode cL_law 667 = .ok (.invokevirtual 85, 3) := by decide +kernel
theorem dL_law_670 : decode cL_law 670 = .ok (.if_icmp .eq 536, 3) := by decide +kernel
theorem dL_law_673 : decode cL_law 673 = .ok (.iconst 0, 1) := by decide +kernel
theorem dL_law_674 : decode cL_law 674 = .ok (.ireturn, 1) := by decide +kernel
theorem dL_law_675 : decode cL_law 675 = .ok (.aload_n 1, 1) := by decide +kernel
theorem dL_law_676 : decode cL_law 676 = .ok (.aload_n 0, 1) := by decide +kernel
theorem dL_law_677 : decode cL_law 677 = .ok (.iload_n 3, 1) := by decide +kernel
theorem dL_law_678 : decode cL_law 678 = .ok (.iconst 1, 1) := by decide +kernel
theorem dL_law_679 : decode cL_law 679 = .ok (.iadd, 1) := by decide +kernel
theorem dL_law_680 : decode cL_law 680 = .ok (.iaload, 1) := by decide +kernel
theorem dL_law_681 : decode cL_law 681 = .ok (.aload_n 0, 1) := by decide +kernel
theorem dL_law_682 : decode cL_law 682 = .ok (.iload_n 3, 1) := by decide +kernel
theorem dL_law_683 : decode cL_law 683 = .ok (.iconst 2, 1) := by decide +kernel
theorem dL_law_684 : decode cL_law 684 = .ok (.iadd, 1) := by decide +kernel
theorem dL_law_685 : decode cL_law 685 = .ok (.iaload, 1) := by decide +kernel
theorem dL_law_686 : decode cL_law 686 = .ok (.invokevirtual 86, 3) := by decide +kernel
theorem dL_law_689 : decode cL_law 689 = .ok (.aload_n 2, 1) := by decide +kernel
theorem dL_law_690 : decode cL_law 690 = .ok (.aload_n 0, 1) := by decide +kernel
theorem dL_law_691 : decode cL_law 691 = .ok (.iload_n 3, 1) := by decide +kernel
theorem dL_law_692 : decode cL_law 692 = .ok (.iconst 1, 1) := by decide +kernel
theorem dL_law_693 : decode cL_law 693 = .ok (.iadd, 1) := by decide +kernel
theorem dL_law_694 : decode cL_law 694 = .ok (.iaload, 1) := by decide +kernel
theorem dL_law_695 : decode cL_law 695 = .ok (.aload_n 0, 1) := by decide +kernel
theorem dL_law_696 : decode cL_law 696 = .ok (.iload_n 3, 1) := by decide +kernel
theorem dL_law_697 : decode cL_law 697 = .ok (.iconst 2, 1) := by decide +kernel
theorem dL_law_698 : decode cL_law 698 = .ok (.iadd, 1) := by decide +kernel
theorem dL_law_699 : decode cL_law 699 = .ok (.iaload, 1) := by decide +kernel
theorem dL_law_700 : decode cL_law 700 = .ok (.invokevirtual 89, 3) := by decide +kernel
theorem dL_law_703 : decode cL_law 703 = .ok (.if_icmp .eq 503, 3) := by decide +kernel
theorem dL_law_706 : decode cL_law 706 = .ok (.iconst 0, 1) := by decide +kernel
theorem dL_law_707 : decode cL_law 707 = .ok (.ireturn, 1) := by decide +kernel
theorem dL_law_708 : decode cL_law 708 = .ok (.aload_n 1, 1) := by decide +kernel
theorem dL_law_709 : decode cL_law 709 = .ok (.aload_n 0, 1) := by decide +kernel
theorem dL_law_710 : decode cL_law 710 = .ok (.iload_n 3, 1) := by decide +kernel
theorem dL_law_711 : decode cL_law 711 = .ok (.iconst 1, 1) := by decide +kernel
theorem dL_law_712 : decode cL_law 712 = .ok (.iadd, 1) := by decide +kernel
theorem dL_law_713 : decode cL_law 713 = .ok (.iaload, 1) := by decide +kernel
theorem dL_law_714 : decode cL_law 714 = .ok (.invokevirtual 90, 3) := by decide +kernel
theorem dL_law_717 : decode cL_law 717 = .ok (.aload_n 2, 1) := by decide +kernel
theorem dL_law_718 : decode cL_law 718 = .ok (.aload_n 0, 1) := by decide +kernel
theorem dL_law_719 : decode cL_law 719 = .ok (.iload_n 3, 1) := by decide +kernel
theorem dL_law_720 : decode cL_law 720 = .ok (.iconst 1, 1) := by decide +kernel
theorem dL_law_721 : decode cL_law 721 = .ok (.iadd, 1) := by decide +kernel
theorem dL_law_722 : decode cL_law 722 = .ok (.iaload, 1) := by decide +kernel
theorem dL_law_723 : decode cL_law 723 = .ok (.invokevirtual 93, 3) := by decide +kernel
theorem dL_law_726 : decode cL_law 726 = .ok (.if_icmp .eq 480, 3) := by decide +kernel
theorem dL_law_729 : decode cL_law 729 = .ok (.iconst 0, 1) := by decide +kernel
theorem dL_law_730 : decode cL_law 730 = .ok (.ireturn, 1) := by decide +kernel
theorem dL_law_731 : decode cL_law 731 = .ok (.aload_n 1, 1) := by decide +kernel
theorem dL_law_732 : decode cL_law 732 = .ok (.aload_n 0, 1) := by decide +kernel
theorem dL_law_733 : decode cL_law 733 = .ok (.iload_n 3, 1) := by decide +kernel
theorem dL_law_734 : decode cL_law 734 = .ok (.iconst 1, 1) := by decide +kernel
theorem dL_law_735 : decode cL_law 735 = .ok (.iadd, 1) := by decide +kernel
theorem dL_law_736 : decode cL_law 736 = .ok (.iaload, 1) := by decide +kernel
theorem dL_law_737 : decode cL_law 737 = .ok (.aload_n 0, 1) := by decide +kernel
theorem dL_law_738 : decode cL_law 738 = .ok (.iload_n 3, 1) := by decide +kernel
theorem dL_law_739 : decode cL_law 739 = .ok (.iconst 2, 1) := by decide +kernel
theorem dL_law_740 : decode cL_law 740 = .ok (.iadd, 1) := by decide +kernel
theorem dL_law_741 : decode cL_law 741 = .ok (.iaload, 1) := by decide +kernel
theorem dL_law_742 : decode cL_law 742 = .ok (.invokevirtual 94, 3) := by decide +kernel
theorem dL_law_745 : decode cL_law 745 = .ok (.aload_n 2, 1) := by decide +kernel
theorem dL_law_746 : decode cL_law 746 = .ok (.aload_n 0, 1) := by decide +kernel
theorem dL_law_747 : decode cL_law 747 = .ok (.iload_n 3, 1) := by decide +kernel
theorem dL_law_748 : decode cL_law 748 = .ok (.iconst 1, 1) := by decide +kernel
theorem dL_law_749 : decode cL_law 749 = .ok (.iadd, 1) := by decide +kernel
theorem dL_law_750 : decode cL_law 750 = .ok (.iaload, 1) := by decide +kernel
theorem dL_law_751 : decode cL_law 751 = .ok (.aload_n 0, 1) := by decide +kernel
theorem dL_law_752 : decode cL_law 752 = .ok (.iload_n 3, 1) := by decide +kernel
theorem dL_law_753 : decode cL_law 753 = .ok (.iconst 2, 1) := by decide +kernel
theorem dL_law_754 : decode cL_law 754 = .ok (.iadd, 1) := by decide +kernel
theorem dL_law_755 : decode cL_law 755 = .ok (.iaload, 1) := by decide +kernel
theorem dL_law_756 : decode cL_law 756 = .ok (.invokevirtual 97, 3) := by decide +kernel
theorem dL_law_759 : decode cL_law 759 = .ok (.if_icmp .eq 447, 3) := by decide +kernel
theorem dL_law_762 : decode cL_law 762 = .ok (.iconst 0, 1) := by decide +kernel
theorem dL_law_763 : decode cL_law 763 = .ok (.ireturn, 1) := by decide +kernel
theorem dL_law_764 : decode cL_law 764 = .ok (.aload_n 1, 1) := by decide +kernel
theorem dL_law_765 : decode cL_law 765 = .ok (.aload_n 0, 1) := by decide +kernel
theorem dL_law_766 : decode cL_law 766 = .ok (.iload_n 3, 1) := by decide +kernel
theorem dL_law_767 : decode cL_law 767 = .ok (.iconst 1, 1) := by decide +kernel
theorem dL_law_768 : decode cL_law 768 = .ok (.iadd, 1) := by decide +kernel
theorem dL_law_769 : decode cL_law 769 = .ok (.iaload, 1) := by decide +kernel
theorem dL_law_770 : decode cL_law 770 = .ok (.aload_n 0, 1) := by decide +kernel
theorem dL_law_771 : decode cL_law 771 = .ok (.iload_n 3, 1) := by decide +kernel
theorem dL_law_772 : decode cL_law 772 = .ok (.iconst 2, 1) := by decide +kernel
theorem dL_law_773 : decode cL_law 773 = .ok (.iadd, 1) := by decide +kernel
theorem dL_law_774 : decode cL_law 774 = .ok (.iaload, 1) := by decide +kernel
theorem dL_law_775 : decode cL_law 775 = .ok (.invokevirtual 98, 3) := by decide +kernel
theorem dL_law_778 : decode cL_law 778 = .ok (.aload_n 2, 1) := by decide +kernel
theorem dL_law_779 : decode cL_law 779 = .ok (.aload_n 0, 1) := by decide +kernel
theorem dL_law_780 : decode cL_law 780 = .ok (.iload_n 3, 1) := by decide +kernel
theorem dL_law_781 : decode cL_law 781 = .ok (.iconst 1, 1) := by decide +kernel
theorem dL_law_782 : decode cL_law 782 = .ok (.iadd, 1) := by decide +kernel
theorem dL_law_783 : decode cL_law 783 = .ok (.iaload, 1) := by decide +kernel
theorem dL_law_784 : decode cL_law 784 = .ok (.aload_n 0, 1) := by decide +kernel
theorem dL_law_785 : decode cL_law 785 = .ok (.iload_n 3, 1) := by decide +kernel
theorem dL_law_786 : decode cL_law 786 = .ok (.iconst 2, 1) := by decide +kernel
theorem dL_law_787 : decode cL_law 787 = .ok (.iadd, 1) := by decide +kernel
theorem dL_law_788 : decode cL_law 788 = .ok (.iaload, 1) := by decide +kernel
theorem dL_law_789 : decode cL_law 789 = .ok (.invokevirtual 101, 3) := by decide +kernel
theorem dL_law_792 : decode cL_law 792 = .ok (.if_icmp .eq 414, 3) := by decide +kernel
theorem dL_law_795 : decode cL_law 795 = .ok (.iconst 0, 1) := by decide +kernel
theorem dL_law_796 : decode cL_law 796 = .ok (.ireturn, 1) := by decide +kernel
theorem dL_law_797 : decode cL_law 797 = .ok (.aload_n 1, 1) := by decide +kernel
theorem dL_law_798 : decode cL_law 798 = .ok (.aload_n 0, 1) := by decide +kernel
theorem dL_law_799 : decode cL_law 799 = .ok (.iload_n 3, 1) := by decide +kernel
theorem dL_law_800 : decode cL_law 800 = .ok (.iconst 1, 1) := by decide +kernel
theorem dL_law_801 : decode cL_law 801 = .ok (.iadd, 1) := by decide +kernel
theorem dL_law_802 : decode cL_law 802 = .ok (.iaload, 1) := by decide +kernel
theorem dL_law_803 : decode cL_law 803 = .ok (.invokevirtual 102, 3) := by decide +kernel
theorem dL_law_806 : decode cL_law 806 = .ok (.aload_n 2, 1) := by decide +kernel
theorem dL_law_807 : decode cL_law 807 = .ok (.aload_n 0, 1) := by decide +kernel
theorem dL_law_808 : decode cL_law 808 = .ok (.iload_n 3, 1) := by decide +kernel
theorem dL_law_809 : decode cL_law 809 = .ok (.iconst 1, 1) := by decide +kernel
theorem dL_law_810 : decode cL_law 810 = .ok (.iadd, 1) := by decide +kernel
theorem dL_law_811 : decode cL_law 811 = .ok (.iaload, 1) := by decide +kernel
theorem dL_law_812 : decode cL_law 812 = .ok (.invokevirtual 105, 3) := by decide +kernel
theorem dL_law_815 : decode cL_law 815 = .ok (.if_icmp .eq 391, 3) := by decide +kernel
theorem dL_law_818 : decode cL_law 818 = .ok (.iconst 0, 1) := by decide +kernel
theorem dL_law_819 : decode cL_law 819 = .ok (.ireturn, 1) := by decide +kernel
theorem dL_law_820 : decode cL_law 820 = .ok (.aload_n 1, 1) := by decide +kernel
theorem dL_law_821 : decode cL_law 821 = .ok (.aload_n 0, 1) := by decide +kernel
theorem dL_law_822 : decode cL_law 822 = .ok (.iload_n 3, 1) := by decide +kernel
theorem dL_law_823 : decode cL_law 823 = .ok (.iconst 1, 1) := by decide +kernel
theorem dL_law_824 : decode cL_law 824 = .ok (.iadd, 1) := by decide +kernel
theorem dL_law_825 : decode cL_law 825 = .ok (.iaload, 1) := by decide +kernel
theorem dL_law_826 : decode cL_law 826 = .ok (.invokevirtual 106, 3) := by decide +kernel
theorem dL_law_829 : decode cL_law 829 = .ok (.aload_n 2, 1) := by decide +kernel
theorem dL_law_830 : decode cL_law 830 = .ok (.aload_n 0, 1) := by decide +kernel
theorem dL_law_831 : decode cL_law 831 = .ok (.iload_n 3, 1) := by decide +kernel
theorem dL_law_832 : decode cL_law 832 = .ok (.iconst 1, 1) := by decide +kernel
theorem dL_law_833 : decode cL_law 833 = .ok (.iadd, 1) := by decide +kernel
theorem dL_law_834 : decode cL_law 834 = .ok (.iaload, 1) := by decide +kernel
theorem dL_law_835 : decode cL_law 835 = .ok (.invokevirtual 109, 3) := by decide +kernel
theorem dL_law_838 : decode cL_law 838 = .ok (.if_icmp .eq 368, 3) := by decide +kernel
theorem dL_law_841 : decode cL_law 841 = .ok (.iconst 0, 1) := by decide +kernel
theorem dL_law_842 : decode cL_law 842 = .ok (.ireturn, 1) := by decide +kernel
theorem dL_law_843 : decode cL_law 843 = .ok (.aload_n 1, 1) := by decide +kernel
theorem dL_law_844 : decode cL_law 844 = .ok (.aload_n 0, 1) := by decide +kernel
theorem dL_law_845 : decode cL_law 845 = .ok (.iload_n 3, 1) := by decide +kernel
theorem dL_law_846 : decode cL_law 846 = .ok (.iconst 1, 1) := by decide +kernel
theorem dL_law_847 : decode cL_law 847 = .ok (.iadd, 1) := by decide +kernel
theorem dL_law_848 : decode cL_law 848 = .ok (.iaload, 1) := by decide +kernel
theorem dL_law_849 : decode cL_law 849 = .ok (.aload_n 0, 1) := by decide +kernel
theorem dL_law_850 : decode cL_law 850 = .ok (.iload_n 3, 1) := by decide +kernel
theorem dL_law_851 : decode cL_law 851 = .ok (.iconst 2, 1) := by decide +kernel
theorem dL_law_852 : decode cL_law 852 = .ok (.iadd, 1) := by decide +kernel
theorem dL_law_853 : decode cL_law 853 = .ok (.iaload, 1) := by decide +kernel
theorem dL_law_854 : decode cL_law 854 = .ok (.aload_n 0, 1) := by decide +kernel
theorem dL_law_855 : decode cL_law 855 = .ok (.iload_n 3, 1) := by decide +kernel
theorem dL_law_856 : decode cL_law 856 = .ok (.iconst 3, 1) := by decide +kernel
theorem dL_law_857 : decode cL_law 857 = .ok (.iadd, 1) := by decide +kernel
theorem dL_law_858 : decode cL_law 858 = .ok (.iaload, 1) := by decide +kernel
theorem dL_law_859 : decode cL_law 859 = .ok (.aload_n 0, 1) := by decide +kernel
theorem dL_law_860 : decode cL_law 860 = .ok (.iload_n 3, 1) := by decide +kernel
theorem dL_law_861 : decode cL_law 861 = .ok (.iconst 4, 1) := by decide +kernel
theorem dL_law_862 : decode cL_law 862 = .ok (.iadd, 1) := by decide +kernel
theorem dL_law_863 : decode cL_law 863 = .ok (.iaload, 1) := by decide +kernel
theorem dL_law_864 : decode cL_law 864 = .ok (.aload_n 0, 1) := by decide +kernel
theorem dL_law_865 : decode cL_law 865 = .ok (.iload_n 3, 1) := by decide +kernel
theorem dL_law_866 : decode cL_law 866 = .ok (.iconst 5, 1) := by decide +kernel
theorem dL_law_867 : decode cL_law 867 = .ok (.iadd, 1) := by decide +kernel
theorem dL_law_868 : decode cL_law 868 = .ok (.iaload, 1) := by decide +kernel
theorem dL_law_869 : decode cL_law 869 = .ok (.invokevirtual 110, 3) := by decide +kernel
theorem dL_law_872 : decode cL_law 872 = .ok (.aload_n 2, 1) := by decide +kernel
theorem dL_law_873 : decode cL_law 873 = .ok (.aload_n 0, 1) := by decide +kernel
theorem dL_law_874 : decode cL_law 874 = .ok (.iload_n 3, 1) := by decide +kernel
theorem dL_law_875 : decode cL_law 875 = .ok (.iconst 1, 1) := by decide +kernel
theorem dL_law_876 : decode cL_law 876 = .ok (.iadd, 1) := by decide +kernel
theorem dL_law_877 : decode cL_law 877 = .ok (.iaload, 1) := by decide +kernel
theorem dL_law_878 : decode cL_law 878 = .ok (.aload_n 0, 1) := by decide +kernel
theorem dL_law_879 : decode cL_law 879 = .ok (.iload_n 3, 1) := by decide +kernel
theorem dL_law_880 : decode cL_law 880 = .ok (.iconst 2, 1) := by decide +kernel
theorem dL_law_881 : decode cL_law 881 = .ok (.iadd, 1) := by decide +kernel
theorem dL_law_882 : decode cL_law 882 = .ok (.iaload, 1) := by decide +kernel
theorem dL_law_883 : decode cL_law 883 = .ok (.aload_n 0, 1) := by decide +kernel
theorem dL_law_884 : decode cL_law 884 = .ok (.iload_n 3, 1) := by decide +kernel
theorem dL_law_885 : decode cL_law 885 = .ok (.iconst 3, 1) := by decide +kernel
theorem dL_law_886 : decode cL_law 886 = .ok (.iadd, 1) := by decide +kernel
theorem dL_law_887 : decode cL_law 887 = .ok (.iaload, 1) := by decide +kernel
theorem dL_law_888 : decode cL_law 888 = .ok (.aload_n 0, 1) := by decide +kernel
theorem dL_law_889 : decode cL_law 889 = .ok (.iload_n 3, 1) := by decide +kernel
theorem dL_law_890 : decode cL_law 890 = .ok (.iconst 4, 1) := by decide +kernel
theorem dL_law_891 : decode cL_law 891 = .ok (.iadd, 1) := by decide +kernel
theorem dL_law_892 : decode cL_law 892 = .ok (.iaload, 1) := by decide +kernel
theorem dL_law_893 : decode cL_law 893 = .ok (.aload_n 0, 1) := by decide +kernel
theorem dL_law_894 : decode cL_law 894 = .ok (.iload_n 3, 1) := by decide +kernel
theorem dL_law_895 : decode cL_law 895 = .ok (.iconst 5, 1) := by decide +kernel
theorem dL_law_896 : decode cL_law 896 = .ok (.iadd, 1) := by decide +kernel
theorem dL_law_897 : decode cL_law 897 = .ok (.iaload, 1) := by decide +kernel
theorem dL_law_898 : decode cL_law 898 = .ok (.invokevirtual 113, 3) := by decide +kernel
theorem dL_law_901 : decode cL_law 901 = .ok (.if_icmp .eq 305, 3) := by decide +kernel
theorem dL_law_904 : decode cL_law 904 = .ok (.iconst 0, 1) := by decide +kernel
theorem dL_law_905 : decode cL_law 905 = .ok (.ireturn, 1) := by decide +kernel
theorem dL_law_906 : decode cL_law 906 = .ok (.aload_n 1, 1) := by decide +kernel
theorem dL_law_907 : decode cL_law 907 = .ok (.aload_n 0, 1) := by decide +kernel
theorem dL_law_908 : decode cL_law 908 = .ok (.iload_n 3, 1) := by decide +kernel
theorem dL_law_909 : decode cL_law 909 = .ok (.iconst 1, 1) := by decide +kernel
theorem dL_law_910 : decode cL_law 910 = .ok (.iadd, 1) := by decide +kernel
theorem dL_law_911 : decode cL_law 911 = .ok (.iaload, 1) := by decide +kernel
theorem dL_law_912 : decode cL_law 912 = .ok (.aload_n 0, 1) := by decide +kernel
theorem dL_law_913 : decode cL_law 913 = .ok (.iload_n 3, 1) := by decide +kernel
theorem dL_law_914 : decode cL_law 914 = .ok (.iconst 2, 1) := by decide +kernel
theorem dL_law_915 : decode cL_law 915 = .ok (.iadd, 1) := by decide +kernel
theorem dL_law_916 : decode cL_law 916 = .ok (.iaload, 1) := by decide +kernel
theorem dL_law_917 : decode cL_law 917 = .ok (.aload_n 0, 1) := by decide +kernel
theorem dL_law_918 : decode cL_law 918 = .ok (.iload_n 3, 1) := by decide +kernel
theorem dL_law_919 : decode cL_law 919 = .ok (.iconst 3, 1) := by decide +kernel
theorem dL_law_920 : decode cL_law 920 = .ok (.iadd, 1) := by decide +kernel
theorem dL_law_921 : decode cL_law 921 = .ok (.iaload, 1) := by decide +kernel
theorem dL_law_922 : decode cL_law 922 = .ok (.aload_n 0, 1) := by decide +kernel
theorem dL_law_923 : decode cL_law 923 = .ok (.iload_n 3, 1) := by decide +kernel
theorem dL_law_924 : decode cL_law 924 = .ok (.iconst 4, 1) := by decide +kernel
theorem dL_law_925 : decode cL_law 925 = .ok (.iadd, 1) := by decide +kernel
theorem dL_law_926 : decode cL_law 926 = .ok (.iaload, 1) := by decide +kernel
theorem dL_law_927 : decode cL_law 927 = .ok (.aload_n 0, 1) := by decide +kernel
theorem dL_law_928 : decode cL_law 928 = .ok (.iload_n 3, 1) := by decide +kernel
theorem dL_law_929 : decode cL_law 929 = .ok (.iconst 5, 1) := by decide +kernel
theorem dL_law_930 : decode cL_law 930 = .ok (.iadd, 1) := by decide +kernel
theorem dL_law_931 : decode cL_law 931 = .ok (.iaload, 1) := by decide +kernel
theorem dL_law_932 : decode cL_law 932 = .ok (.invokevirtual 114, 3) := by decide +kernel
theorem dL_law_935 : decode cL_law 935 = .ok (.aload_n 2, 1) := by decide +kernel
theorem dL_law_936 : decode cL_law 936 = .ok (.aload_n 0, 1) := by decide +kernel
theorem dL_law_937 : decode cL_law 937 = .ok (.iload_n 3, 1) := by decide +kernel
theorem dL_law_938 : decode cL_law 938 = .ok (.iconst 1, 1) := by decide +kernel
theorem dL_law_939 : decode cL_law 939 = .ok (.iadd, 1) := by decide +kernel
theorem dL_law_940 : decode cL_law 940 = .ok (.iaload, 1) := by decide +kernel
theorem dL_law_941 : decode cL_law 941 = .ok (.aload_n 0, 1) := by decide +kernel
theorem dL_law_942 : decode cL_law 942 = .ok (.iload_n 3, 1) := by decide +kernel
theorem dL_law_943 : decode cL_law 943 = .ok (.iconst 2, 1) := by decide +kernel
theorem dL_law_944 : decode cL_law 944 = .ok (.iadd, 1) := by decide +kernel
theorem dL_law_945 : decode cL_law 945 = .ok (.iaload, 1) := by decide +kernel
theorem dL_law_946 : decode cL_law 946 = .ok (.aload_n 0, 1) := by decide +kernel
theorem dL_law_947 : decode cL_law 947 = .ok (.iload_n 3, 1) := by decide +kernel
theorem dL_law_948 : decode cL_law 948 = .ok (.iconst 3, 1) := by decide +kernel
theorem dL_law_949 : decode cL_law 949 = .ok (.iadd, 1) := by decide +kernel
theorem dL_law_950 : decode cL_law 950 = .ok (.iaload, 1) := by decide +kernel
theorem dL_law_951 : decode cL_law 951 = .ok (.aload_n 0, 1) := by decide +kernel
theorem dL_law_952 : decode cL_law 952 = .ok (.iload_n 3, 1) := by decide +kernel
theorem dL_law_953 : decode cL_law 953 = .ok (.iconst 4, 1) := by decide +kernel
theorem dL_law_954 : decode cL_law 954 = .ok (.iadd, 1) := by decide +kernel
theorem dL_law_955 : decode cL_law 955 = .ok (.iaload, 1) := by decide +kernel
theorem dL_law_956 : decode cL_law 956 = .ok (.aload_n 0, 1) := by decide +kernel
theorem dL_law_957 : decode cL_law 957 = .ok (.iload_n 3, 1) := by decide +kernel
theorem dL_law_958 : decode cL_law 958 = .ok (.iconst 5, 1) := by decide +kernel
theorem dL_law_959 : decode cL_law 959 = .ok (.iadd, 1) := by decide +kernel
theorem dL_law_960 : decode cL_law 960 = .ok (.iaload, 1) := by decide +kernel
theorem dL_law_961 : decode cL_law 961 = .ok (.invokevirtual 117, 3) := by decide +kernel
theorem dL_law_964 : decode cL_law 964 = .ok (.if_icmp .eq 242, 3) := by decide +kernel
theorem dL_law_967 : decode cL_law 967 = .ok (.iconst 0, 1) := by decide +kernel
theorem dL_law_968 : decode cL_law 968 = .ok (.ireturn, 1) := by decide +kernel
theorem dL_law_969 : decode cL_law 969 = .ok (.aload_n 1, 1) := by decide +kernel
theorem dL_law_970 : decode cL_law 970 = .ok (.aload_n 0, 1) := by decide +kernel
theorem dL_law_971 : decode cL_law 971 = .ok (.iload_n 3, 1) := by decide +kernel
theorem dL_law_972 : decode cL_law 972 = .ok (.iconst 1, 1) := by decide +kernel
theorem dL_law_973 : decode cL_law 973 = .ok (.iadd, 1) := by decide +kernel
theorem dL_law_974 : decode cL_law 974 = .ok (.iaload, 1) := by decide +kernel
theorem dL_law_975 : decode cL_law 975 = .ok (.aload_n 0, 1) := by decide +kernel
theorem dL_law_976 : decode cL_law 976 = .ok (.iload_n 3, 1) := by decide +kernel
theorem dL_law_977 : decode cL_law 977 = .ok (.iconst 2, 1) := by decide +kernel
theorem dL_law_978 : decode cL_law 978 = .ok (.iadd, 1) := by decide +kernel
theorem dL_law_979 : decode cL_law 979 = .ok (.iaload, 1) := by decide +kernel
theorem dL_law_980 : decode cL_law 980 = .ok (.aload_n 0, 1) := by decide +kernel
theorem dL_law_981 : decode cL_law 981 = .ok (.iload_n 3, 1) := by decide +kernel
theorem dL_law_982 : decode cL_law 982 = .ok (.iconst 3, 1) := by decide +kernel
theorem dL_law_983 : decode cL_law 983 = .ok (.iadd, 1) := by decide +kernel
theorem dL_law_984 : decode cL_law 984 = .ok (.iaload, 1) := by decide +kernel
theorem dL_law_985 : decode cL_law 985 = .ok (.invokevirtual 118, 3) := by decide +kernel
theorem dL_law_988 : decode cL_law 988 = .ok (.aload_n 2, 1) := by decide +kernel
theorem dL_law_989 : decode cL_law 989 = .ok (.aload_n 0, 1) := by decide +kernel
theorem dL_law_990 : decode cL_law 990 = .ok (.iload_n 3, 1) := by decide +kernel
theorem dL_law_991 : decode cL_law 991 = .ok (.iconst 1, 1) := by decide +kernel
theorem dL_law_992 : decode cL_law 992 = .ok (.iadd, 1) := by decide +kernel
theorem dL_law_993 : decode cL_law 993 = .ok (.iaload, 1) := by decide +kernel
theorem dL_law_994 : decode cL_law 994 = .ok (.aload_n 0, 1) := by decide +kernel
theorem dL_law_995 : decode cL_law 995 = .ok (.iload_n 3, 1) := by decide +kernel
theorem dL_law_996 : decode cL_law 996 = .ok (.iconst 2, 1) := by decide +kernel
theorem dL_law_997 : decode cL_law 997 = .ok (.iadd, 1) := by decide +kernel
theorem dL_law_998 : decode cL_law 998 = .ok (.iaload, 1) := by decide +kernel
theorem dL_law_999 : decode cL_law 999 = .ok (.aload_n 0, 1) := by decide +kernel
theorem dL_law_1000 : decode cL_law 1000 = .ok (.iload_n 3, 1) := by decide +kernel
theorem dL_law_1001 : decode cL_law 1001 = .ok (.iconst 3, 1) := by decide +kernel
theorem dL_law_1002 : decode cL_law 1002 = .ok (.iadd, 1) := by decide +kernel
theorem dL_law_1003 : decode cL_law 1003 = .ok (.iaload, 1) := by decide +kernel
theorem dL_law_1004 : decode cL_law 1004 = .ok (.invokevirtual 121, 3) := by decide +kernel
theorem dL_law_1007 : decode cL_law 1007 = .ok (.if_icmp .eq 199, 3) := by decide +kernel
theorem dL_law_1010 : decode cL_law 1010 = .ok (.iconst 0, 1) := by decide +kernel
theorem dL_law_1011 : decode cL_law 1011 = .ok (.ireturn, 1) := by decide +kernel
theorem dL_law_1012 : decode cL_law 1012 = .ok (.aload_n 1, 1) := by decide +kernel
theorem dL_law_1013 : decode cL_law 1013 = .ok (.aload_n 0, 1) := by decide +kernel
theorem dL_law_1014 : decode cL_law 1014 = .ok (.iload_n 3, 1) := by decide +kernel
theorem dL_law_1015 : decode cL_law 1015 = .ok (.iconst 1, 1) := by decide +kernel
theorem dL_law_1016 : decode cL_law 1016 = .ok (.iadd, 1) := by decide +kernel
theorem dL_law_1017 : decode cL_law 1017 = .ok (.iaload, 1) := by decide +kernel
theorem dL_law_1018 : decode cL_law 1018 = .ok (.invokevirtual 122, 3) := by decide +kernel
theorem dL_law_1021 : decode cL_law 1021 = .ok (.aload_n 2, 1) := by decide +kernel
theorem dL_law_1022 : decode cL_law 1022 = .ok (.aload_n 0, 1) := by decide +kernel
theorem dL_law_1023 : decode cL_law 1023 = .ok (.iload_n 3, 1) := by decide +kernel
theorem dL_law_1024 : decode cL_law 1024 = .ok (.iconst 1, 1) := by decide +kernel
theorem dL_law_1025 : decode cL_law 1025 = .ok (.iadd, 1) := by decide +kernel
theorem dL_law_1026 : decode cL_law 1026 = .ok (.iaload, 1) := by decide +kernel
theorem dL_law_1027 : decode cL_law 1027 = .ok (.invokevirtual 125, 3) := by decide +kernel
theorem dL_law_1030 : decode cL_law 1030 = .ok (.if_icmp .eq 176, 3) := by decide +kernel
theorem dL_law_1033 : decode cL_law 1033 = .ok (.iconst 0, 1) := by decide +kernel
theorem dL_law_1034 : decode cL_law 1034 = .ok (.ireturn, 1) := by decide +kernel
theorem dL_law_1035 : decode cL_law 1035 = .ok (.aload_n 1, 1) := by decide +kernel
theorem dL_law_1036 : decode cL_law 1036 = .ok (.aload_n 0, 1) := by decide +kernel
theorem dL_law_1037 : decode cL_law 1037 = .ok (.iload_n 3, 1) := by decide +kernel
theorem dL_law_1038 : decode cL_law 1038 = .ok (.iconst 1, 1) := by decide +kernel
theorem dL_law_1039 : decode cL_law 1039 = .ok (.iadd, 1) := by decide +kernel
theorem dL_law_1040 : decode cL_law 1040 = .ok (.iaload, 1) := by decide +kernel
theorem dL_law_1041 : decode cL_law 1041 = .ok (.invokevirtual 126, 3) := by decide +kernel
theorem dL_law_1044 : decode cL_law 1044 = .ok (.aload_n 2, 1) := by decide +kernel
theorem dL_law_1045 : decode cL_law 1045 = .ok (.aload_n 0, 1) := by decide +kernel
theorem dL_law_1046 : decode cL_law 1046 = .ok (.iload_n 3, 1) := by decide +kernel
theorem dL_law_1047 : decode cL_law 1047 = .ok (.iconst 1, 1) := by decide +kernel
theorem dL_law_1048 : decode cL_law 1048 = .ok (.iadd, 1) := by decide +kernel
theorem dL_law_1049 : decode cL_law 1049 = .ok (.iaload, 1) := by decide +kernel
theorem dL_law_1050 : decode cL_law 1050 = .ok (.invokevirtual 129, 3) := by decide +kernel
theorem dL_law_1053 : decode cL_law 1053 = .ok (.if_icmp .eq 153, 3) := by decide +kernel
theorem dL_law_1056 : decode cL_law 1056 = .ok (.iconst 0, 1) := by decide +kernel
theorem dL_law_1057 : decode cL_law 1057 = .ok (.ireturn, 1) := by decide +kernel
theorem dL_law_1058 : decode cL_law 1058 = .ok (.aload_n 1, 1) := by decide +kernel
theorem dL_law_1059 : decode cL_law 1059 = .ok (.aload_n 0, 1) := by decide +kernel
theorem dL_law_1060 : decode cL_law 1060 = .ok (.iload_n 3, 1) := by decide +kernel
theorem dL_law_1061 : decode cL_law 1061 = .ok (.iconst 1, 1) := by decide +kernel
theorem dL_law_1062 : decode cL_law 1062 = .ok (.iadd, 1) := by decide +kernel
theorem dL_law_1063 : decode cL_law 1063 = .ok (.iaload, 1) := by decide +kernel
theorem dL_law_1064 : decode cL_law 1064 = .ok (.invokevirtual 130, 3) := by decide +kernel
theorem dL_law_1067 : decode cL_law 1067 = .ok (.aload_n 2, 1) := by decide +kernel
theorem dL_law_1068 : decode cL_law 1068 = .ok (.aload_n 0, 1) := by decide +kernel
theorem dL_law_1069 : decode cL_law 1069 = .ok (.iload_n 3, 1) := by decide +kernel
theorem dL_law_1070 : decode cL_law 1070 = .ok (.iconst 1, 1) := by decide +kernel
theorem dL_law_1071 : decode cL_law 1071 = .ok (.iadd, 1) := by decide +kernel
theorem dL_law_1072 : decode cL_law 1072 = .ok (.iaload, 1) := by decide +kernel
theorem dL_law_1073 : decode cL_law 1073 = .ok (.invokevirtual 133, 3) := by decide +kernel
theorem dL_law_1076 : decode cL_law 1076 = .ok (.if_icmp .eq 130, 3) := by decide +kernel
theorem dL_law_1079 : decode cL_law 1079 = .ok (.iconst 0, 1) := by decide +kernel
theorem dL_law_1080 : decode cL_law 1080 = .ok (.ireturn, 1) := by decide +kernel
theorem dL_law_1081 : decode cL_law 1081 = .ok (.aload_n 1, 1) := by decide +kernel
theorem dL_law_1082 : decode cL_law 1082 = .ok (.aload_n 0, 1) := by decide +kernel
theorem dL_law_1083 : decode cL_law 1083 = .ok (.iload_n 3, 1) := by decide +kernel
theorem dL_law_1084 : decode cL_law 1084 = .ok (.iconst 1, 1) := by decide +kernel
theorem dL_law_1085 : decode cL_law 1085 = .ok (.iadd, 1) := by decide +kernel
theorem dL_law_1086 : decode cL_law 1086 = .ok (.iaload, 1) := by decide +kernel
theorem dL_law_1087 : decode cL_law 1087 = .ok (.aload_n 0, 1) := by decide +kernel
theorem dL_law_1088 : decode cL_law 1088 = .ok (.iload_n 3, 1) := by decide +kernel
theorem dL_law_1089 : decode cL_law 1089 = .ok (.iconst 2, 1) := by decide +kernel
theorem dL_law_1090 : decode cL_law 1090 = .ok (.iadd, 1) := by decide +kernel
theorem dL_law_1091 : decode cL_law 1091 = .ok (.iaload, 1) := by decide +kernel
theorem dL_law_1092 : decode cL_law 1092 = .ok (.invokevirtual 134, 3) := by decide +kernel
theorem dL_law_1095 : decode cL_law 1095 = .ok (.aload_n 2, 1) := by decide +kernel
theorem dL_law_1096 : decode cL_law 1096 = .ok (.aload_n 0, 1) := by decide +kernel
theorem dL_law_1097 : decode cL_law 1097 = .ok (.iload_n 3, 1) := by decide +kernel
theorem dL_law_1098 : decode cL_law 1098 = .ok (.iconst 1, 1) := by decide +kernel
theorem dL_law_1099 : decode cL_law 1099 = .ok (.iadd, 1) := by decide +kernel
theorem dL_law_1100 : decode cL_law 1100 = .ok (.iaload, 1) := by decide +kernel
theorem dL_law_1101 : decode cL_law 1101 = .ok (.aload_n 0, 1) := by decide +kernel
theorem dL_law_1102 : decode cL_law 1102 = .ok (.iload_n 3, 1) := by decide +kernel
theorem dL_law_1103 : decode cL_law 1103 = .ok (.iconst 2, 1) := by decide +kernel
theorem dL_law_1104 : decode cL_law 1104 = .ok (.iadd, 1) := by decide +kernel
theorem dL_law_1105 : decode cL_law 1105 = .ok (.iaload, 1) := by decide +kernel
theorem dL_law_1106 : decode cL_law 1106 = .ok (.invokevirtual 137, 3) := by decide +kernel
theorem dL_law_1109 : decode cL_law 1109 = .ok (.if_icmp .eq 97, 3) := by decide +kernel
theorem dL_law_1112 : decode cL_law 1112 = .ok (.iconst 0, 1) := by decide +kernel
theorem dL_law_1113 : decode cL_law 1113 = .ok (.ireturn, 1) := by decide +kernel
theorem dL_law_1114 : decode cL_law 1114 = .ok (.aload_n 1, 1) := by decide +kernel
theorem dL_law_1115 : decode cL_law 1115 = .ok (.aload_n 0, 1) := by decide +kernel
theorem dL_law_1116 : decode cL_law 1116 = .ok (.iload_n 3, 1) := by decide +kernel
theorem dL_law_1117 : decode cL_law 1117 = .ok (.iconst 1, 1) := by decide +kernel
theorem dL_law_1118 : decode cL_law 1118 = .ok (.iadd, 1) := by decide +kernel
theorem dL_law_1119 : decode cL_law 1119 = .ok (.iaload, 1) := by decide +kernel
theorem dL_law_1120 : decode cL_law 1120 = .ok (.aload_n 0, 1) := by decide +kernel
theorem dL_law_1121 : decode cL_law 1121 = .ok (.iload_n 3, 1) := by decide +kernel
theorem dL_law_1122 : decode cL_law 1122 = .ok (.iconst 2, 1) := by decide +kernel
theorem dL_law_1123 : decode cL_law 1123 = .ok (.iadd, 1) := by decide +kernel
theorem dL_law_1124 : decode cL_law 1124 = .ok (.iaload, 1) := by decide +kernel
theorem dL_law_1125 : decode cL_law 1125 = .ok (.invokevirtual 138, 3) := by decide +kernel
theorem dL_law_1128 : decode cL_law 1128 = .ok (.aload_n 2, 1) := by decide +kernel
theorem dL_law_1129 : decode cL_law 1129 = .ok (.aload_n 0, 1) := by decide +kernel
theorem dL_law_1130 : decode cL_law 1130 = .ok (.iload_n 3, 1) := by decide +kernel
theorem dL_law_1131 : decode cL_law 1131 = .ok (.iconst 1, 1) := by decide +kernel
theorem dL_law_1132 : decode cL_law 1132 = .ok (.iadd, 1) := by decide +kernel
theorem dL_law_1133 : decode cL_law 1133 = .ok (.iaload, 1) := by decide +kernel
theorem dL_law_1134 : decode cL_law 1134 = .ok (.aload_n 0, 1) := by decide +kernel
theorem dL_law_1135 : decode cL_law 1135 = .ok (.iload_n 3, 1) := by decide +kernel
theorem dL_law_1136 : decode cL_law 1136 = .ok (.iconst 2, 1) := by decide +kernel
theorem dL_law_1137 : decode cL_law 1137 = .ok (.iadd, 1) := by decide +kernel
theorem dL_law_1138 : decode cL_law 1138 = .ok (.iaload, 1) := by decide +kernel
theorem dL_law_1139 : decode cL_law 1139 = .ok (.invokevirtual 141, 3) := by decide +kernel
theorem dL_law_1142 : decode cL_law 1142 = .ok (.if_icmp .eq 64, 3) := by decide +kernel
theorem dL_law_1145 : decode cL_law 1145 = .ok (.iconst 0, 1) := by decide +kernel
theorem dL_law_1146 : decode cL_law 1146 = .ok (.ireturn, 1) := by decide +kernel
theorem dL_law_1147 : decode cL_law 1147 = .ok (.aload_n 1, 1) := by decide +kernel
theorem dL_law_1148 : decode cL_law 1148 = .ok (.aload_n 0, 1) := by decide +kernel
theorem dL_law_1149 : decode cL_law 1149 = .ok (.iload_n 3, 1) := by decide +kernel
theorem dL_law_1150 : decode cL_law 1150 = .ok (.iconst 1, 1) := by decide +kernel
theorem dL_law_1151 : decode cL_law 1151 = .ok (.iadd, 1) := by decide +kernel
theorem dL_law_1152 : decode cL_law 1152 = .ok (.iaload, 1) := by decide +kernel
theorem dL_law_1153 : decode cL_law 1153 = .ok (.invokevirtual 142, 3) := by decide +kernel
theorem dL_law_1156 : decode cL_law 1156 = .ok (.aload_n 2, 1) := by decide +kernel
theorem dL_law_1157 : decode cL_law 1157 = .ok (.aload_n 0, 1) := by decide +kernel
theorem dL_law_1158 : decode cL_law 1158 = .ok (.iload_n 3, 1) := by decide +kernel
theorem dL_law_1159 : decode cL_law 1159 = .ok (.iconst 1, 1) := by decide +kernel
theorem dL_law_1160 : decode cL_law 1160 = .ok (.iadd, 1) := by decide +kernel
theorem dL_law_1161 : decode cL_law 1161 = .ok (.iaload, 1) := by decide +kernel
theorem dL_law_1162 : decode cL_law 1162 = .ok (.invokevirtual 145, 3) := by decide +kernel
theorem dL_law_1165 : decode cL_law 1165 = .ok (.if_icmp .eq 41, 3) := by decide +kernel
theorem dL_law_1168 : decode cL_law 1168 = .ok (.iconst 0, 1) := by decide +kernel
theorem dL_law_1169 : decode cL_law 1169 = .ok (.ireturn, 1) := by decide +kernel
theorem dL_law_1170 : decode cL_law 1170 = .ok (.aload_n 1, 1) := by decide +kernel
theorem dL_law_1171 : decode cL_law 1171 = .ok (.aload_n 0, 1) := by decide +kernel
theorem dL_law_1172 : decode cL_law 1172 = .ok (.iload_n 3, 1) := by decide +kernel
theorem dL_law_1173 : decode cL_law 1173 = .ok (.iconst 1, 1) := by decide +kernel
theorem dL_law_1174 : decode cL_law 1174 = .ok (.iadd, 1) := by decide +kernel
theorem dL_law_1175 : decode cL_law 1175 = .ok (.iaload, 1) := by decide +kernel
theorem dL_law_1176 : decode cL_law 1176 = .ok (.invokevirtual 146, 3) := by decide +kernel
theorem dL_law_1179 : decode cL_law 1179 = .ok (.aload_n 2, 1) := by decide +kernel
theorem dL_law_1180 : decode cL_law 1180 = .ok (.aload_n 0, 1) := by decide +kernel
theorem dL_law_1181 : decode cL_law 1181 = .ok (.iload_n 3, 1) := by decide +kernel
theorem dL_law_1182 : decode cL_law 1182 = .ok (.iconst 1, 1) := by decide +kernel
theorem dL_law_1183 : decode cL_law 1183 = .ok (.iadd, 1) := by decide +kernel
theorem dL_law_1184 : decode cL_law 1184 = .ok (.iaload, 1) := by decide +kernel
theorem dL_law_1185 : decode cL_law 1185 = .ok (.invokevirtual 149, 3) := by decide +kernel
theorem dL_law_1188 : decode cL_law 1188 = .ok (.if_icmp .eq 18, 3) := by decide +kernel
theorem dL_law_1191 : decode cL_law 1191 = .ok (.iconst 0, 1) := by decide +kernel
theorem dL_law_1192 : decode cL_law 1192 = .ok (.ireturn, 1) := by decide +kernel
theorem dL_law_1193 : decode cL_law 1193 = .ok (.aload_n 1, 1) := by decide +kernel
theorem dL_law_1194 : decode cL_law 1194 = .ok (.invokevirtual 150, 3) := by decide +kernel
theorem dL_law_1197 : decode cL_law 1197 = .ok (.aload_n 2, 1) := by decide +kernel
theorem dL_law_1198 : decode cL_law 1198 = .ok (.invokevirtual 153, 3) := by decide +kernel
theorem dL_law_1201 : decode cL_law 1201 = .ok (.if_icmp .eq 5, 3) := by decide +kernel
theorem dL_law_1204 : decode cL_law 1204 = .ok (.iconst 0, 1) := by decide +kernel
theorem dL_law_1205 : decode cL_law 1205 = .ok (.ireturn, 1) := by decide +kernel
theorem dL_law_1206 : decode cL_law 1206 = .ok (.iinc 3 6, 3) := by decide +kernel
theorem dL_law_1209 : decode cL_law 1209 = .ok (.goto (-1191), 3) := by decide +kernel
theorem dL_law_1212 : decode cL_law 1212 = .ok (.iconst 1, 1) := by decide +kernel
theorem dL_law_1213 : decode cL_law 1213 = .ok (.ireturn, 1) := by decide +kernel
abbrev vwCl : List vw_C := [(RX0, TX0, 1), (RX1, TX1, 13), (RX3, TX3, 1), (RX4, TX4, 1), (RX5, TX5, 1), (RX6, TX6, 4), (RX7, TX7, 8), (RX8, TX8, 1), (RX9, TX9, 5), (RX10, TX10, 2), (RX11, TX11, 13), (RX12, TX12, 25)]
