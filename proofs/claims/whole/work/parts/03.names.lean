theorem inJ7 : ∀ w ∈ wsJ70, w ∈ lw_tbl := by decide +kernel
set_option maxRecDepth 20000 in
theorem ggX0_init_X2_init : GoodIn wsX0_init wsX2_init := goodIn_r _ [4, 5, 6, 7, 8, 9, 10, 11, 12, 13] (by decide +kernel) (by decide +kernel)
set_option maxRecDepth 20000 in
theorem gX0_init_X2_init : GoodIn wsX0_init (wsX2_init) := ggX0_init_X2_init
theorem dX0_init_0 : decode cX0_init 0 = .ok (.aload_n 0, 1) := by decide +kernel
theorem dX0_init_1 : decode cX0_init 1 = .ok (.iload_n 1, 1) := by decide +kernel
theorem dX0_init_2 : decode cX0_init 2 = .ok (.invokespecial 1, 3) := by decide +kernel
theorem dX0_init_5 : decode cX0_init 5 = .ok (.return_, 1) := by decide +kernel
theorem dX0_gainIn_0 : decode cX0_gainIn 0 = .ok (.aload_n 1, 1) := by decide +kernel
theorem dX0_gainIn_1 : decode cX0_gainIn 1 = .ok (.getfield 7, 3) := by decide +kernel
theorem dX0_gainIn_4 : decode cX0_gainIn 4 = .ok (.iload_n 2, 1) := by decide +kernel
theorem dX0_gainIn_5 : decode cX0_gainIn 5 = .ok (.iaload, 1) := by decide +kernel
theorem dX0_gainIn_6 : decode cX0_gainIn 6 = .ok (.iconst 3, 1) := by decide +kernel
theorem dX0_gainIn_7 : decode cX0_gainIn 7 = .ok (.if_icmp .ge 12, 3) := by decide +kernel
theorem dX0_gainIn_10 : decode cX0_gainIn 10 = .ok (.iconst 2, 1) := by decide +kernel
theorem dX0_gainIn_11 : decode cX0_gainIn 11 = .ok (.aload_n 1, 1) := by decide +kernel
theorem dX0_gainIn_12 : decode cX0_gainIn 12 = .ok (.getfield 13, 3) := by decide +kernel
theorem dX0_gainIn_15 : decode cX0_gainIn 15 = .ok (.imul, 1) := by decide +kernel
theorem dX0_gainIn_16 : decode cX0_gainIn 16 = .ok (.goto 4, 3) := by decide +kernel
theorem dX0_gainIn_19 : decode cX0_gainIn 19 = .ok (.iconst 0, 1) := by decide +kernel
theorem dX0_gainIn_20 : decode cX0_gainIn 20 = .ok (.ireturn, 1) := by decide +kernel
set_option maxRecDepth 20000 in
theorem ggX0_size_X10_leave : GoodIn wsX0_size wsX10_leave := goodIn_r _ [5, 6, 7, 16, 17] (by decide +kernel) (by decide +kernel)
set_option maxRecDepth 20000 in
theorem gX0_size_X10_leave : GoodIn wsX0_size (wsV RX0 17 RX10 yX10_leave wsX10_leave) := goodIn_app (goodIn_of _ (by decide +kernel)) ggX0_size_X10_leave
set_option maxRecDepth 20000 in
theorem ggX0_size_X2_size : GoodIn wsX0_size wsX2_size := goodIn_r _ [13, 14, 15, 2, 3, 4, 5, 6, 7, 18, 19, 20, 21, 22, 23, 24, 25, 26, 27, 28, 29, 30, 16, 17] (by decide +kernel) (by decide +kernel)
set_option maxRecDepth 20000 in
theorem gX0_size_X2_size_s22 : GoodIn wsX0_size (va_wsSU RX0 22 yX2_size wsX2_size) := goodIn_app (goodIn_of _ (by decide +kernel)) ggX0_size_X2_size
theorem dX0_size_0 : decode cX0_size 0 = .ok (.aload_n 3, 1) := by decide +kernel
theorem dX0_size_1 : decode cX0_size 1 = .ok (.bipush 13, 2) := by decide +kernel
theorem dX0_size_3 : decode cX0_size 3 = .ok (.invokevirtual 17, 3) := by decide +kernel
theorem dX0_size_6 : decode cX0_size 6 = .ok (.aload_n 0, 1) := by decide +kernel
theorem dX0_size_7 : decode cX0_size 7 = .ok (.aload_n 1, 1) := by decide +kernel
theorem dX0_size_8 : decode cX0_size 8 = .ok (.iload_n 2, 1) := by decide +kernel
theorem dX0_size_9 : decode cX0_size 9 = .ok (.aload_n 3, 1) := by decide +kernel
theorem dX0_size_10 : decode cX0_size 10 = .ok (.invokespecial 22, 3) := by decide +kernel
theorem dX0_size_13 : decode cX0_size 13 = .ok (.bipush 100, 2) := by decide +kernel
theorem dX0_size_15 : decode cX0_size 15 = .ok (.isub, 1) := by decide +kernel
theorem dX0_size_16 : decode cX0_size 16 = .ok (.ireturn, 1) := by decide +kernel
set_option maxRecDepth 20000 in
theorem ggX0_mark_X10_leave : GoodIn wsX0_mark wsX10_leave := goodIn_r _ [5, 6, 7, 35, 36] (by decide +kernel) (by decide +kernel)
set_option maxRecDepth 20000 in
theorem gX0_mark_X10_leave : GoodIn wsX0_mark (wsV RX0 17 RX10 yX10_leave wsX10_leave) := goodIn_app (goodIn_of _ (by decide +kernel)) ggX0_mark_X10_leave
set_option maxRecDepth 20000 in
theorem ggX0_mark_X2_mark : GoodIn wsX0_mark wsX2_mark := goodIn_r _ [13, 14, 2, 3, 4, 5, 6, 7, 35, 36] (by decide +kernel) (by decide +kernel)
set_option maxRecDepth 20000 in
theorem gX0_mark_X2_mark_s26 : GoodIn wsX0_mark (va_wsSU RX0 26 yX2_mark wsX2_mark) := goodIn_app (goodIn_of _ (by decide +kernel)) ggX0_mark_X2_mark
set_option maxRecDepth 20000 in
theorem ggX0_mark_X0_size : GoodIn wsX0_mark wsX0_size := goodIn_r _ [19, 1, 2, 3, 4, 5, 6, 7, 20, 21, 10, 22, 12, 23, 24, 14, 35, 36, 37, 38, 39, 40, 41, 42, 43, 44, 45, 46, 47, 48, 49] (by decide +kernel) (by decide +kernel)
set_option maxRecDepth 20000 in
theorem gX0_mark_X0_size : GoodIn wsX0_mark (wsV RX0 29 RX0 yX0_size wsX0_size) := goodIn_app (goodIn_of _ (by decide +kernel)) ggX0_mark_X0_size
set_option maxRecDepth 20000 in
theorem ggX0_mark_X8_size : GoodIn wsX0_mark wsX8_size := goodIn_r _ [31, 32, 2, 3, 4, 5, 6, 7, 33, 26, 34, 16, 18, 19, 1, 20, 21, 10, 22, 12, 23, 24, 14, 35, 36, 37, 38, 39, 40, 41, 42, 43, 44, 45, 46, 47, 48, 49] (by decide +kernel) (by decide +kernel)
set_option maxRecDepth 20000 in
theorem gX0_mark_X8_size_u29X8 : GoodIn wsX0_mark (va_wsO RX0 29 RX8 "TurnipSquires$Fellow" ⟨"TurnipSquires$Fellow", "size", "(LTurnipSquires$Field;ILTurnipSquires$Trace;)I"⟩ yX8_size wsX8_size) := goodIn_app (goodIn_of _ (by decide +kernel)) ggX0_mark_X8_size
theorem dX0_mark_0 : decode cX0_mark 0 = .ok (.aload_n 3, 1) := by decide +kernel
theorem dX0_mark_1 : decode cX0_mark 1 = .ok (.bipush 23, 2) := by decide +kernel
theorem dX0_mark_3 : decode cX0_mark 3 = .ok (.invokevirtual 17, 3) := by decide +kernel
theorem dX0_mark_6 : decode cX0_mark 6 = .ok (.aload_n 0, 1) := by decide +kernel
theorem dX0_mark_7 : decode cX0_mark 7 = .ok (.aload_n 1, 1) := by decide +kernel
theorem dX0_mark_8 : decode cX0_mark 8 = .ok (.iload_n 2, 1) := by decide +kernel
theorem dX0_mark_9 : decode cX0_mark 9 = .ok (.aload_n 3, 1) := by decide +kernel
theorem dX0_mark_10 : decode cX0_mark 10 = .ok (.invokespecial 26, 3) := by decide +kernel
theorem dX0_mark_13 : decode cX0_mark 13 = .ok (.istore 4, 2) := by decide +kernel
theorem dX0_mark_15 : decode cX0_mark 15 = .ok (.iload 4, 2) := by decide +kernel
theorem dX0_mark_17 : decode cX0_mark 17 = .ok (.aload_n 0, 1) := by decide +kernel
theorem dX0_mark_18 : decode cX0_mark 18 = .ok (.aload_n 1, 1) := by decide +kernel
theorem dX0_mark_19 : decode cX0_mark 19 = .ok (.iload_n 2, 1) := by decide +kernel
theorem dX0_mark_20 : decode cX0_mark 20 = .ok (.aload_n 3, 1) := by decide +kernel
theorem dX0_mark_21 : decode cX0_mark 21 = .ok (.invokevirtual 29, 3) := by decide +kernel
theorem dX0_mark_24 : decode cX0_mark 24 = .ok (.isub, 1) := by decide +kernel
theorem dX0_mark_25 : decode cX0_mark 25 = .ok (.ireturn, 1) := by decide +kernel
theorem dX1_init_0 : decode cX1_init 0 = .ok (.aload_n 0, 1) := by decide +kernel
theorem dX1_init_1 : decode cX1_init 1 = .ok (.invokespecial 3, 3) := by decide +kernel
theorem dX1_init_4 : decode cX1_init 4 = .ok (.aload_n 0, 1) := by decide +kernel
theorem dX1_init_5 : decode cX1_init 5 = .ok (.bipush 7, 2) := by decide +kernel
theorem dX1_init_7 : decode cX1_init 7 = .ok (.anewarray 9, 3) := by decide +kernel
theorem dX1_init_10 : decode cX1_init 10 = .ok (.putfield 11, 3) := by decide +kernel
theorem dX1_init_13 : decode cX1_init 13 = .ok (.aload_n 0, 1) := by decide +kernel
theorem dX1_init_14 : decode cX1_init 14 = .ok (.bipush 7, 2) := by decide +kernel
theorem dX1_init_16 : decode cX1_init 16 = .ok (.newarray .int, 2) := by decide +kernel
theorem dX1_init_18 : decode cX1_init 18 = .ok (.putfield 17, 3) := by decide +kernel
theorem dX1_init_21 : decode cX1_init 21 = .ok (.aload_n 0, 1) := by decide +kernel
theorem dX1_init_22 : decode cX1_init 22 = .ok (.bipush 7, 2) := by decide +kernel
theorem dX1_init_24 : decode cX1_init 24 = .ok (.newarray .int, 2) := by decide +kernel
theorem dX1_init_26 : decode cX1_init 26 = .ok (.putfield 21, 3) := by decide +kernel
theorem dX1_init_29 : decode cX1_init 29 = .ok (.aload_n 0, 1) := by decide +kernel
theorem dX1_init_30 : decode cX1_init 30 = .ok (.bipush 7, 2) := by decide +kernel
theorem dX1_init_32 : decode cX1_init 32 = .ok (.newarray .int, 2) := by decide +kernel
theorem dX1_init_34 : decode cX1_init 34 = .ok (.putfield 24, 3) := by decide +kernel
theorem dX1_init_37 : decode cX1_init 37 = .ok (.aload_n 0, 1) := by decide +kernel
theorem dX1_init_38 : decode cX1_init 38 = .ok (.bipush 7, 2) := by decide +kernel
theorem dX1_init_40 : decode cX1_init 40 = .ok (.newarray .int, 2) := by decide +kernel
theorem dX1_init_42 : decode cX1_init 42 = .ok (.putfield 27, 3) := by decide +kernel
theorem dX1_init_45 : decode cX1_init 45 = .ok (.aload_n 0, 1) := by decide +kernel
theorem dX1_init_46 : decode cX1_init 46 = .ok (.bipush 7, 2) := by decide +kernel
theorem dX1_init_48 : decode cX1_init 48 = .ok (.newarray .int, 2) := by decide +kernel
theorem dX1_init_50 : decode cX1_init 50 = .ok (.putfield 30, 3) := by decide +kernel
theorem dX1_init_53 : decode cX1_init 53 = .ok (.aload_n 0, 1) := by decide +kernel
theorem dX1_init_54 : decode cX1_init 54 = .ok (.bipush 7, 2) := by decide +kernel
theorem dX1_init_56 : decode cX1_init 56 = .ok (.newarray .int, 2) := by decide +kernel
theorem dX1_init_58 : decode cX1_init 58 = .ok (.putfield 33, 3) := by decide +kernel
theorem dX1_init_61 : decode cX1_init 61 = .ok (.aload_n 0, 1) := by decide +kernel
theorem dX1_init_62 : decode cX1_init 62 = .ok (.bipush 7, 2) := by decide +kernel
theorem dX1_init_64 : decode cX1_init 64 = .ok (.newarray .int, 2) := by decide +kernel
theorem dX1_init_66 : decode cX1_init 66 = .ok (.putfield 36, 3) := by decide +kernel
theorem dX1_init_69 : decode cX1_init 69 = .ok (.aload_n 0, 1) := by decide +kernel
theorem dX1_init_70 : decode cX1_init 70 = .ok (.bipush 7, 2) := by decide +kernel
theorem dX1_init_72 : decode cX1_init 72 = .ok (.newarray .int, 2) := by decide +kernel
theorem dX1_init_74 : decode cX1_init 74 = .ok (.putfield 39, 3) := by decide +kernel
theorem dX1_init_77 : decode cX1_init 77 = .ok (.iconst 0, 1) := by decide +kernel
theorem dX1_init_78 : decode cX1_init 78 = .ok (.istore_n 2, 1) := by decide +kernel
theorem dX1_init_79 : decode cX1_init 79 = .ok (.iload_n 2, 1) := by decide +kernel
theorem dX1_init_80 : decode cX1_init 80 = .ok (.bipush 7, 2) := by decide +kernel
theorem dX1_init_82 : decode cX1_init 82 = .ok (.if_icmp .ge 16, 3) := by decide +kernel
theorem dX1_init_85 : decode cX1_init 85 = .ok (.aload_n 0, 1) := by decide +kernel
theorem dX1_init_86 : decode cX1_init 86 = .ok (.getfield 11, 3) := by decide +kernel
theorem dX1_init_89 : decode cX1_init 89 = .ok (.iload_n 2, 1) := by decide +kernel
theorem dX1_init_90 : decode cX1_init 90 = .ok (.aload_n 1, 1) := by decide +kernel
theorem dX1_init_91 : decode cX1_init 91 = .ok (.aastore, 1) := by decide +kernel
theorem dX1_init_92 : decode cX1_init 92 = .ok (.iinc 2 1, 3) := by decide +kernel
theorem dX1_init_95 : decode cX1_init 95 = .ok (.goto (-16), 3) := by decide +kernel
theorem dX1_init_98 : decode cX1_init 98 = .ok (.return_, 1) := by decide +kernel
theorem dX1_begin_0 : decode cX1_begin 0 = .ok (.aload_n 0, 1) := by decide +kernel
theorem dX1_begin_1 : decode cX1_begin 1 = .ok (.iconst 0, 1) := by decide +kernel
theorem dX1_begin_2 : decode cX1_begin 2 = .ok (.putfield 42, 3) := by decide +kernel
theorem dX1_begin_5 : decode cX1_begin 5 = .ok (.aload_n 0, 1) := by decide +kernel
theorem dX1_begin_6 : decode cX1_begin 6 = .ok (.iconst 0, 1) := by decide +kernel
theorem dX1_begin_7 : decode cX1_begin 7 = .ok (.putfield 46, 3) := by decide +kernel
theorem dX1_begin_10 : decode cX1_begin 10 = .ok (.iconst 0, 1) := by decide +kernel
theorem dX1_begin_11 : decode cX1_begin 11 = .ok (.istore_n 1, 1) := by decide +kernel
theorem dX1_begin_12 : decode cX1_begin 12 = .ok (.iload_n 1, 1) := by decide +kernel
theorem dX1_begin_13 : decode cX1_begin 13 = .ok (.bipush 7, 2) := by decide +kernel
theorem dX1_begin_15 : decode cX1_begin 15 = .ok (.if_icmp .ge 30, 3) := by decide +kernel
theorem dX1_begin_18 : decode cX1_begin 18 = .ok (.aload_n 0, 1) := by decide +kernel
theorem dX1_begin_19 : decode cX1_begin 19 = .ok (.getfield 27, 3) := by decide +kernel
theorem dX1_begin_22 : decode cX1_begin 22 = .ok (.iload_n 1, 1) := by decide +kernel
theorem dX1_begin_23 : decode cX1_begin 23 = .ok (.iconst (-1), 1) := by decide +kernel
theorem dX1_begin_24 : decode cX1_begin 24 = .ok (.iastore, 1) := by decide +kernel
theorem dX1_begin_25 : decode cX1_begin 25 = .ok (.aload_n 0, 1) := by decide +kernel
theorem dX1_begin_26 : decode cX1_begin 26 = .ok (.getfield 30, 3) := by decide +kernel
theorem dX1_begin_29 : decode cX1_begin 29 = .ok (.iload_n 1, 1) := by decide +kernel
theorem dX1_begin_30 : decode cX1_begin 30 = .ok (.iload_n 1, 1) := by decide +kernel
theorem dX1_begin_31 : decode cX1_begin 31 = .ok (.iastore, 1) := by decide +kernel
theorem dX1_begin_32 : decode cX1_begin 32 = .ok (.aload_n 0, 1) := by decide +kernel
theorem dX1_begin_33 : decode cX1_begin 33 = .ok (.getfield 33, 3) := by decide +kernel
theorem dX1_begin_36 : decode cX1_begin 36 = .ok (.iload_n 1, 1) := by decide +kernel
theorem dX1_begin_37 : decode cX1_begin 37 = .ok (.iload_n 1, 1) := by decide +kernel
theorem dX1_begin_38 : decode cX1_begin 38 = .ok (.iastore, 1) := by decide +kernel
theorem dX1_begin_39 : decode cX1_begin 39 = .ok (.iinc 1 1, 3) := by decide +kernel
theorem dX1_begin_42 : decode cX1_begin 42 = .ok (.goto (-30), 3) := by decide +kernel
theorem dX1_begin_45 : decode cX1_begin 45 = .ok (.return_, 1) := by decide +kernel
theorem dX1_become_0 : decode cX1_become 0 = .ok (.aload_n 0, 1) := by decide +kernel
theorem dX1_become_1 : decode cX1_become 1 = .ok (.aload_n 1, 1) := by decide +kernel
theorem dX1_become_2 : decode cX1_become 2 = .ok (.getfield 42, 3) := by decide +kernel
theorem dX1_become_5 : decode cX1_become 5 = .ok (.putfield 42, 3) := by decide +kernel
theorem dX1_become_8 : decode cX1_become 8 = .ok (.aload_n 0, 1) := by decide +kernel
theorem dX1_become_9 : decode cX1_become 9 = .ok (.aload_n 1, 1) := by decide +kernel
theorem dX1_become_10 : decode cX1_become 10 = .ok (.getfield 46, 3) := by decide +kernel
theorem dX1_become_13 : decode cX1_become 13 = .ok (.putfield 46, 3) := by decide +kernel
theorem dX1_become_16 : decode cX1_become 16 = .ok (.aload_n 0, 1) := by decide +kernel
theorem dX1_become_17 : decode cX1_become 17 = .ok (.aload_n 1, 1) := by decide +kernel
theorem dX1_become_18 : decode cX1_become 18 = .ok (.getfield 49, 3) := by decide +kernel
theorem dX1_become_21 : decode cX1_become 21 = .ok (.putfield 49, 3) := by decide +kernel
theorem dX1_become_24 : decode cX1_become 24 = .ok (.aload_n 0, 1) := by decide +kernel
theorem dX1_become_25 : decode cX1_become 25 = .ok (.aload_n 1, 1) := by decide +kernel
theorem dX1_become_26 : decode cX1_become 26 = .ok (.getfield 52, 3) := by decide +kernel
theorem dX1_become_29 : decode cX1_become 29 = .ok (.putfield 52, 3) := by decide +kernel
theorem dX1_become_32 : decode cX1_become 32 = .ok (.iconst 0, 1) := by decide +kernel
theorem dX1_become_33 : decode cX1_become 33 = .ok (.istore_n 2, 1) := by decide +kernel
theorem dX1_become_34 : decode cX1_become 34 = .ok (.iload_n 2, 1) := by decide +kernel
theorem dX1_become_35 : decode cX1_become 35 = .ok (.bipush 7, 2) := by decide +kernel
theorem dX1_become_37 : decode cX1_become 37 = .ok (.if_icmp .ge 21, 3) := by decide +kernel
theorem dX1_become_40 : decode cX1_become 40 = .ok (.aload_n 0, 1) := by decide +kernel
theorem dX1_become_41 : decode cX1_become 41 = .ok (.getfield 11, 3) := by decide +kernel
theorem dX1_become_44 : decode cX1_become 44 = .ok (.iload_n 2, 1) := by decide +kernel
theorem dX1_become_45 : decode cX1_become 45 = .ok (.aload_n 1, 1) := by decide +kernel
theorem dX1_become_46 : decode cX1_become 46 = .ok (.getfield 11, 3) := by decide +kernel
theorem dX1_become_49 : decode cX1_become 49 = .ok (.iload_n 2, 1) := by decide +kernel
theorem dX1_become_50 : decode cX1_become 50 = .ok (.aaload, 1) := by decide +kernel
theorem dX1_become_51 : decode cX1_become 51 = .ok (.aastore, 1) := by decide +kernel
theorem dX1_become_52 : decode cX1_become 52 = .ok (.iinc 2 1, 3) := by decide +kernel
theorem dX1_become_55 : decode cX1_become 55 = .ok (.goto (-21), 3) := by decide +kernel
theorem dX1_become_58 : decode cX1_become 58 = .ok (.aload_n 1, 1) := by decide +kernel
theorem dX1_become_59 : decode cX1_become 59 = .ok (.getfield 17, 3) := by decide +kernel
theorem dX1_become_62 : decode cX1_become 62 = .ok (.iconst 0, 1) := by decide +kernel
theorem dX1_become_63 : decode cX1_become 63 = .ok (.aload_n 0, 1) := by decide +kernel
theorem dX1_become_64 : decode cX1_become 64 = .ok (.getfield 17, 3) := by decide +kernel
theorem dX1_become_67 : decode cX1_become 67 = .ok (.iconst 0, 1) := by decide +kernel
theorem dX1_become_68 : decode cX1_become 68 = .ok (.bipush 7, 2) := by decide +kernel
theorem dX1_become_70 : decode cX1_become 70 = .ok (.invokestatic 55, 3) := by decide +kernel
theorem dX1_become_73 : decode cX1_become 73 = .ok (.aload_n 1, 1) := by decide +kernel
theorem dX1_become_74 : decode cX1_become 74 = .ok (.getfield 21, 3) := by decide +kernel
theorem dX1_become_77 : decode cX1_become 77 = .ok (.iconst 0, 1) := by decide +kernel
theorem dX1_become_78 : decode cX1_become 78 = .ok (.aload_n 0, 1) := by decide +kernel
theorem dX1_become_79 : decode cX1_become 79 = .ok (.getfield 21, 3) := by decide +kernel
theorem dX1_become_82 : decode cX1_become 82 = .ok (.iconst 0, 1) := by decide +kernel
theorem dX1_become_83 : decode cX1_become 83 = .ok (.bipush 7, 2) := by decide +kernel
theorem dX1_become_85 : decode cX1_become 85 = .ok (.invokestatic 55, 3) := by decide +kernel
theorem dX1_become_88 : decode cX1_become 88 = .ok (.aload_n 1, 1) := by decide +kernel
theorem dX1_become_89 : decode cX1_become 89 = .ok (.getfield 24, 3) := by decide +kernel
theorem dX1_become_92 : decode cX1_become 92 = .ok (.iconst 0, 1) := by decide +kernel
theorem dX1_become_93 : decode cX1_become 93 = .ok (.aload_n 0, 1) := by decide +kernel
theorem dX1_become_94 : decode cX1_become 94 = .ok (.getfield 24, 3) := by decide +kernel
theorem dX1_become_97 : decode cX1_become 97 = .ok (.iconst 0, 1) := by decide +kernel
theorem dX1_become_98 : decode cX1_become 98 = .ok (.bipush 7, 2) := by decide +kernel
theorem dX1_become_100 : decode cX1_become 100 = .ok (.invokestatic 55, 3) := by decide +kernel
theorem dX1_become_103 : decode cX1_become 103 = .ok (.aload_n 1, 1) := by decide +kernel
theorem dX1_become_104 : decode cX1_become 104 = .ok (.getfield 27, 3) := by decide +kernel
theorem dX1_become_107 : decode cX1_become 107 = .ok (.iconst 0, 1) := by decide +kernel
theorem dX1_become_108 : decode cX1_become 108 = .ok (.aload_n 0, 1) := by decide +kernel
theorem dX1_become_109 : decode cX1_become 109 = .ok (.getfield 27, 3) := by decide +kernel
theorem dX1_become_112 : decode cX1_become 112 = .ok (.iconst 0, 1) := by decide +kernel
theorem dX1_become_113 : decode cX1_become 113 = .ok (.bipush 7, 2) := by decide +kernel
theorem dX1_become_115 : decode cX1_become 115 = .ok (.invokestatic 55, 3) := by decide +kernel
theorem dX1_become_118 : decode cX1_become 118 = .ok (.aload_n 1, 1) := by decide +kernel
theorem dX1_become_119 : decode cX1_become 119 = .ok (.getfield 30, 3) := by decide +kernel
theorem dX1_become_122 : decode cX1_become 122 = .ok (.iconst 0, 1) := by decide +kernel
theorem dX1_become_123 : decode cX1_become 123 = .ok (.aload_n 0, 1) := by decide +kernel
theorem dX1_become_124 : decode cX1_become 124 = .ok (.getfield 30, 3) := by decide +kernel
theorem dX1_become_127 : decode cX1_become 127 = .ok (.iconst 0, 1) := by decide +kernel
theorem dX1_become_128 : decode cX1_become 128 = .ok (.bipush 7, 2) := by decide +kernel
theorem dX1_become_130 : decode cX1_become 130 = .ok (.invokestatic 55, 3) := by decide +kernel
theorem dX1_become_133 : decode cX1_become 133 = .ok (.aload_n 1, 1) := by decide +kernel
theorem dX1_become_134 : decode cX1_become 134 = .ok (.getfield 33, 3) := by decide +kernel
theorem dX1_become_137 : decode cX1_become 137 = .ok (.iconst 0, 1) := by decide +kernel
theorem dX1_become_138 : decode cX1_become 138 = .ok (.aload_n 0, 1) := by decide +kernel
theorem dX1_become_139 : decode cX1_become 139 = .ok (.getfield 33, 3) := by decide +kernel
theorem dX1_become_142 : decode cX1_become 142 = .ok (.iconst 0, 1) := by decide +kernel
theorem dX1_become_143 : decode cX1_become 143 = .ok (.bipush 7, 2) := by decide +kernel
theorem dX1_become_145 : decode cX1_become 145 = .ok (.invokestatic 55, 3) := by decide +kernel
theorem dX1_become_148 : decode cX1_become 148 = .ok (.return_, 1) := by decide +kernel
theorem dX1_hasFrost_0 : decode cX1_hasFrost 0 = .ok (.aload_n 0, 1) := by decide +kernel
theorem dX1_hasFrost_1 : decode cX1_hasFrost 1 = .ok (.getfield 52, 3) := by decide +kernel
theorem dX1_hasFrost_4 : decode cX1_hasFrost 4 = .ok (.aload_n 0, 1) := by decide +kernel
theorem dX1_hasFrost_5 : decode cX1_hasFrost 5 = .ok (.getfield 46, 3) := by decide +kernel
theorem dX1_hasFrost_8 : decode cX1_hasFrost 8 = .ok (.iconst 3, 1) := by decide +kernel
theorem dX1_hasFrost_9 : decode cX1_hasFrost 9 = .ok (.iand, 1) := by decide +kernel
theorem dX1_hasFrost_10 : decode cX1_hasFrost 10 = .ok (.ishr, 1) := by decide +kernel
theorem dX1_hasFrost_11 : decode cX1_hasFrost 11 = .ok (.iconst 1, 1) := by decide +kernel
theorem dX1_hasFrost_12 : decode cX1_hasFrost 12 = .ok (.iand, 1) := by decide +kernel
theorem dX1_hasFrost_13 : decode cX1_hasFrost 13 = .ok (.iconst 1, 1) := by decide +kernel
theorem dX1_hasFrost_14 : decode cX1_hasFrost 14 = .ok (.if_icmp .ne 7, 3) := by decide +kernel
theorem dX1_hasFrost_17 : decode cX1_hasFrost 17 = .ok (.iconst 1, 1) := by decide +kernel
theorem dX1_hasFrost_18 : decode cX1_hasFrost 18 = .ok (.goto 4, 3) := by decide +kernel
theorem dX1_hasFrost_21 : decode cX1_hasFrost 21 = .ok (.iconst 0, 1) := by decide +kernel
theorem dX1_hasFrost_22 : decode cX1_hasFrost 22 = .ok (.ireturn, 1) := by decide +kernel
set_option maxRecDepth 20000 in
theorem ggX1_pass_X1_findGains : GoodIn wsX1_pass wsX1_findGains := goodIn_r _ [14, 1, 3, 15, 16, 17, 18, 19, 20, 21, 13, 22, 23, 4, 24, 25, 26, 27, 28, 29, 30, 31, 32, 33, 34, 35, 36, 37, 38, 39, 40, 41, 42, 43, 44, 45, 46, 47, 48, 49, 50, 51, 52, 53, 54, 55, 56, 57, 58, 59, 60, 61, 62, 63, 64, 65, 66, 67, 68, 69, 70, 71, 72, 73, 74, 75, 76] (by decide +kernel) (by decide +kernel)
set_option maxRecDepth 20000 in
theorem gX1_pass_X1_findGains : GoodIn wsX1_pass (wsV RX1 61 RX1 yX1_findGains wsX1_findGains) := goodIn_app (goodIn_of _ (by decide +kernel)) ggX1_pass_X1_findGains
theorem dX1_pass_0 : decode cX1_pass 0 = .ok (.aload_n 0, 1) := by decide +kernel
theorem dX1_pass_1 : decode cX1_pass 1 = .ok (.iload_n 1, 1) := by decide +kernel
theorem dX1_pass_2 : decode cX1_pass 2 = .ok (.invokevirtual 61, 3) := by decide +kernel
theorem dX1_pass_5 : decode cX1_pass 5 = .ok (.iconst 0, 1) := by decide +kernel
theorem dX1_pass_6 : decode cX1_pass 6 = .ok (.istore_n 2, 1) := by decide +kernel
theorem dX1_pass_7 : decode cX1_pass 7 = .ok (.iload_n 2, 1) := by decide +kernel
theorem dX1_pass_8 : decode cX1_pass 8 = .ok (.aload_n 0, 1) := by decide +kernel
theorem dX1_pass_9 : decode cX1_pass 9 = .ok (.getfield 42, 3) := by decide +kernel
theorem dX1_pass_12 : decode cX1_pass 12 = .ok (.if_icmp .ge 84, 3) := by decide +kernel
theorem dX1_pass_15 : decode cX1_pass 15 = .ok (.aload_n 0, 1) := by decide +kernel
theorem dX1_pass_16 : decode cX1_pass 16 = .ok (.getfield 21, 3) := by decide +kernel
theorem dX1_pass_19 : decode cX1_pass 19 = .ok (.iload_n 2, 1) := by decide +kernel
theorem dX1_pass_20 : decode cX1_pass 20 = .ok (.iaload, 1) := by decide +kernel
theorem dX1_pass_21 : decode cX1_pass 21 = .ok (.aload_n 0, 1) := by decide +kernel
theorem dX1_pass_22 : decode cX1_pass 22 = .ok (.getfield 36, 3) := by decide +kernel
theorem dX1_pass_25 : decode cX1_pass 25 = .ok (.iload_n 2, 1) := by decide +kernel
theorem dX1_pass_26 : decode cX1_pass 26 = .ok (.iaload, 1) := by decide +kernel
theorem dX1_pass_27 : decode cX1_pass 27 = .ok (.iadd, 1) := by decide +kernel
theorem dX1_pass_28 : decode cX1_pass 28 = .ok (.istore_n 3, 1) := by decide +kernel
theorem dX1_pass_29 : decode cX1_pass 29 = .ok (.aload_n 0, 1) := by decide +kernel
theorem dX1_pass_30 : decode cX1_pass 30 = .ok (.getfield 17, 3) := by decide +kernel
theorem dX1_pass_33 : decode cX1_pass 33 = .ok (.iload_n 2, 1) := by decide +kernel
theorem dX1_pass_34 : decode cX1_pass 34 = .ok (.iaload, 1) := by decide +kernel
theorem dX1_pass_35 : decode cX1_pass 35 = .ok (.istore 4, 2) := by decide +kernel
theorem dX1_pass_37 : decode cX1_pass 37 = .ok (.iload_n 3, 1) := by decide +kernel
theorem dX1_pass_38 : decode cX1_pass 38 = .ok (.bipush 10, 2) := by decide +kernel
theorem dX1_pass_40 : decode cX1_pass 40 = .ok (.if_icmp .lt 19, 3) := by decide +kernel
theorem dX1_pass_43 : decode cX1_pass 43 = .ok (.iload 4, 2) := by decide +kernel
theorem dX1_pass_45 : decode cX1_pass 45 = .ok (.bipush 9, 2) := by decide +kernel
theorem dX1_pass_47 : decode cX1_pass 47 = .ok (.if_icmp .ge 12, 3) := by decide +kernel
theorem dX1_pass_50 : decode cX1_pass 50 = .ok (.iinc 3 (-10), 3) := by decide +kernel
theorem dX1_pass_53 : decode cX1_pass 53 = .ok (.iinc 4 1, 3) := by decide +kernel
theorem dX1_pass_56 : decode cX1_pass 56 = .ok (.goto (-19), 3) := by decide +kernel
theorem dX1_pass_59 : decode cX1_pass 59 = .ok (.aload_n 0, 1) := by decide +kernel
theorem dX1_pass_60 : decode cX1_pass 60 = .ok (.getfield 17, 3) := by decide +kernel
theorem dX1_pass_63 : decode cX1_pass 63 = .ok (.iload_n 2, 1) := by decide +kernel
theorem dX1_pass_64 : decode cX1_pass 64 = .ok (.iload 4, 2) := by decide +kernel
theorem dX1_pass_66 : decode cX1_pass 66 = .ok (.iastore, 1) := by decide +kernel
theorem dX1_pass_67 : decode cX1_pass 67 = .ok (.aload_n 0, 1) := by decide +kernel
theorem dX1_pass_68 : decode cX1_pass 68 = .ok (.getfield 21, 3) := by decide +kernel
theorem dX1_pass_71 : decode cX1_pass 71 = .ok (.iload_n 2, 1) := by decide +kernel
theorem dX1_pass_72 : decode cX1_pass 72 = .ok (.iload 4, 2) := by decide +kernel
theorem dX1_pass_74 : decode cX1_pass 74 = .ok (.bipush 9, 2) := by decide +kernel
theorem dX1_pass_76 : decode cX1_pass 76 = .ok (.if_icmp .ne 12, 3) := by decide +kernel
theorem dX1_pass_79 : decode cX1_pass 79 = .ok (.iload_n 3, 1) := by decide +kernel
theorem dX1_pass_80 : decode cX1_pass 80 = .ok (.bipush 9, 2) := by decide +kernel
theorem dX1_pass_82 : decode cX1_pass 82 = .ok (.invokestatic 65, 3) := by decide +kernel
theorem dX1_pass_85 : decode cX1_pass 85 = .ok (.goto 4, 3) := by decide +kernel
theorem dX1_pass_88 : decode cX1_pass 88 = .ok (.iload_n 3, 1) := by decide +kernel
theorem dX1_pass_89 : decode cX1_pass 89 = .ok (.iastore, 1) := by decide +kernel
theorem dX1_pass_90 : decode cX1_pass 90 = .ok (.iinc 2 1, 3) := by decide +kernel
theorem dX1_pass_93 : decode cX1_pass 93 = .ok (.goto (-86), 3) := by decide +kernel
theorem dX1_pass_96 : decode cX1_pass 96 = .ok (.aload_n 0, 1) := by decide +kernel
theorem dX1_pass_97 : decode cX1_pass 97 = .ok (.dup, 1) := by decide +kernel
theorem dX1_pass_98 : decode cX1_pass 98 = .ok (.getfield 46, 3) := by decide +kernel
theorem dX1_pass_101 : decode cX1_pass 101 = .ok (.iconst 1, 1) := by decide +kernel
theorem dX1_pass_102 : decode cX1_pass 102 = .ok (.iadd, 1) := by decide +kernel
theorem dX1_pass_103 : decode cX1_pass 103 = .ok (.putfield 46, 3) := by decide +kernel
theorem dX1_pass_106 : decode cX1_pass 106 = .ok (.return_, 1) := by decide +kernel
set_option maxRecDepth 20000 in
theorem ggX1_findGains_X1_findHigher : GoodIn wsX1_findGains wsX1_findHigher := goodIn_r _ [11, 1, 5, 12, 13, 54, 55, 56, 57, 58, 59, 60, 61, 62, 63, 64, 65, 66] (by decide +kernel) (by decide +kernel)
set_option maxRecDepth 20000 in
theorem gX1_findGains_X1_findHigher : GoodIn wsX1_findGains (wsV RX1 71 RX1 yX1_findHigher wsX1_findHigher) := goodIn_app (goodIn_of _ (by decide +kernel)) ggX1_findGains_X1_findHigher
set_option maxRecDepth 20000 in
theorem ggX1_findGains_X0_gainIn : GoodIn wsX1_findGains wsX0_gainIn := goodIn_r _ [19, 20, 21, 54, 55, 56, 57, 58, 59, 60, 61, 62, 63, 64, 65, 66] (by decide +kernel) (by decide +kernel)
set_option maxRecDepth 20000 in
theorem gX1_findGains_X0_gainIn_u74X0 : GoodIn wsX1_findGains (va_wsU RX1 74 RX0 "TurnipSquires$Kind" ⟨"TurnipSquires$Kind", "gainIn", "(LTurnipSquires$Field;IZ)I"⟩ yX0_gainIn wsX0_gainIn) := goodIn_app (goodIn_of _ (by decide +kernel)) ggX1_findGains_X0_gainIn
set_option maxRecDepth 20000 in
theorem ggX1_findGains_X3_gainIn : GoodIn wsX1_findGains wsX3_gainIn := goodIn_r _ [25, 26, 54, 55, 56, 57, 58, 59, 60, 61, 62, 63, 64, 65, 66] (by decide +kernel) (by decide +kernel)
set_option maxRecDepth 20000 in
theorem gX1_findGains_X3_gainIn_u74X3 : GoodIn wsX1_findGains (va_wsU RX1 74 RX3 "TurnipSquires$Kind" ⟨"TurnipSquires$Kind", "gainIn", "(LTurnipSquires$Field;IZ)I"⟩ yX3_gainIn wsX3_gainIn) := goodIn_app (goodIn_of _ (by decide +kernel)) ggX1_findGains_X3_gainIn
set_option maxRecDepth 20000 in
theorem ggX1_findGains_X4_gainIn : GoodIn wsX1_findGains wsX4_gainIn := goodIn_r _ [30, 31, 54, 55, 56, 57, 58, 59, 60, 61, 62, 63, 64, 65, 66] (by decide +kernel) (by decide +kernel)
set_option maxRecDepth 20000 in
theorem gX1_findGains_X4_gainIn_u74X4 : GoodIn wsX1_findGains (va_wsU RX1 74 RX4 "TurnipSquires$Kind" ⟨"TurnipSquires$Kind", "gainIn", "(LTurnipSquires$Field;IZ)I"⟩ yX4_gainIn wsX4_gainIn) := goodIn_app (goodIn_of _ (by decide +kernel)) ggX1_findGains_X4_gainIn
set_option maxRecDepth 20000 in
theorem ggX1_findGains_X5_gainIn : GoodIn wsX1_findGains wsX5_gainIn := goodIn_r _ [35, 36, 37, 38, 39, 40, 41, 42, 43, 44, 54, 55, 56, 57, 58, 59, 60, 61, 62, 63, 64, 65, 66] (by decide +kernel) (by decide +kernel)
set_option maxRecDepth 20000 in
theorem gX1_findGains_X5_gainIn_u74X5 : GoodIn wsX1_findGains (va_wsU RX1 74 RX5 "TurnipSquires$Kind" ⟨"TurnipSquires$Kind", "gainIn", "(LTurnipSquires$Field;IZ)I"⟩ yX5_gainIn wsX5_gainIn) := goodIn_app (goodIn_of _ (by decide +kernel)) ggX1_findGains_X5_gainIn
set_option maxRecDepth 20000 in
theorem ggX1_findGains_X8_gainIn : GoodIn wsX1_findGains wsX8_gainIn := goodIn_r _ [48, 49, 50, 51, 52, 53, 17, 18, 19, 20, 21, 54, 55, 56, 57, 58, 59, 60, 61, 62, 63, 64, 65, 66] (by decide +kernel) (by decide +kernel)
set_option maxRecDepth 20000 in
theorem gX1_findGains_X8_gainIn_u74X8 : GoodIn wsX1_findGains (va_wsU RX1 74 RX8 "TurnipSquires$Kind" ⟨"TurnipSquires$Kind", "gainIn", "(LTurnipSquires$Field;IZ)I"⟩ yX8_gainIn wsX8_gainIn) := goodIn_app (goodIn_of _ (by decide +kernel)) ggX1_findGains_X8_gainIn
theorem dX1_findGains_0 : decode cX1_findGains 0 = .ok (.aload_n 0, 1) := by decide +kernel
theorem dX1_findGains_1 : decode cX1_findGains 1 = .ok (.invokevirtual 71, 3) := by decide +kernel
theorem dX1_findGains_4 : decode cX1_findGains 4 = .ok (.iconst 0, 1) := by decide +kernel
theorem dX1_findGains_5 : decode cX1_findGains 5 = .ok (.istore_n 2, 1) := by decide +kernel
theorem dX1_findGains_6 : decode cX1_findGains 6 = .ok (.iload_n 2, 1) := by decide +kernel
theorem dX1_findGains_7 : decode cX1_findGains 7 = .ok (.aload_n 0, 1) := by decide +kernel
theorem dX1_findGains_8 : decode cX1_findGains 8 = .ok (.getfield 42, 3) := by decide +kernel
theorem dX1_findGains_11 : decode cX1_findGains 11 = .ok (.if_icmp .ge 27, 3) := by decide +kernel
theorem dX1_findGains_14 : decode cX1_findGains 14 = .ok (.aload_n 0, 1) := by decide +kernel
theorem dX1_findGains_15 : decode cX1_findGains 15 = .ok (.getfield 36, 3) := by decide +kernel
theorem dX1_findGains_18 : decode cX1_findGains 18 = .ok (.iload_n 2, 1) := by decide +kernel
theorem dX1_findGains_19 : decode cX1_findGains 19 = .ok (.aload_n 0, 1) := by decide +kernel
theorem dX1_findGains_20 : decode cX1_findGains 20 = .ok (.getfield 11, 3) := by decide +kernel
theorem dX1_findGains_23 : decode cX1_findGains 23 = .ok (.iload_n 2, 1) := by decide +kernel
theorem dX1_findGains_24 : decode cX1_findGains 24 = .ok (.aaload, 1) := by decide +kernel
theorem dX1_findGains_25 : decode cX1_findGains 25 = .ok (.aload_n 0, 1) := by decide +kernel
theorem dX1_findGains_26 : decode cX1_findGains 26 = .ok (.iload_n 2, 1) := by decide +kernel
theorem dX1_findGains_27 : decode cX1_findGains 27 = .ok (.iload_n 1, 1) := by decide +kernel
theorem dX1_findGains_28 : decode cX1_findGains 28 = .ok (.invokevirtual 74, 3) := by decide +kernel
theorem dX1_findGains_31 : decode cX1_findGains 31 = .ok (.iastore, 1) := by decide +kernel
theorem dX1_findGains_32 : decode cX1_findGains 32 = .ok (.iinc 2 1, 3) := by decide +kernel
theorem dX1_findGains_35 : decode cX1_findGains 35 = .ok (.goto (-29), 3) := by decide +kernel
theorem dX1_findGains_38 : decode cX1_findGains 38 = .ok (.iconst 0, 1) := by decide +kernel
theorem dX1_findGains_39 : decode cX1_findGains 39 = .ok (.istore_n 2, 1) := by decide +kernel
theorem dX1_findGains_40 : decode cX1_findGains 40 = .ok (.iload_n 2, 1) := by decide +kernel
theorem dX1_findGains_41 : decode cX1_findGains 41 = .ok (.aload_n 0, 1) := by decide +kernel
theorem dX1_findGains_42 : decode cX1_findGains 42 = .ok (.getfield 42, 3) := by decide +kernel
theorem dX1_findGains_45 : decode cX1_findGains 45 = .ok (.if_icmp .ge 62, 3) := by decide +kernel
theorem dX1_findGains_48 : decode cX1_findGains 48 = .ok (.aload_n 0, 1) := by decide +kernel
theorem dX1_findGains_49 : decode cX1_findGains 49 = .ok (.getfield 27, 3) := by decide +kernel
theorem dX1_findGains_52 : decode cX1_findGains 52 = .ok (.iload_n 2, 1) := by decide +kernel
theorem dX1_findGains_53 : decode cX1_findGains 53 = .ok (.iaload, 1) := by decide +kernel
theorem dX1_findGains_54 : decode cX1_findGains 54 = .ok (.istore_n 3, 1) := by decide +kernel
theorem dX1_findGains_55 : decode cX1_findGains 55 = .ok (.iload_n 3, 1) := by decide +kernel
theorem dX1_findGains_56 : decode cX1_findGains 56 = .ok (.iload_n 2, 1) := by decide +kernel
theorem dX1_findGains_57 : decode cX1_findGains 57 = .ok (.if_icmp .le 44, 3) := by decide +kernel
theorem dX1_findGains_60 : decode cX1_findGains 60 = .ok (.iload_n 3, 1) := by decide +kernel
theorem dX1_findGains_61 : decode cX1_findGains 61 = .ok (.aload_n 0, 1) := by decide +kernel
theorem dX1_findGains_62 : decode cX1_findGains 62 = .ok (.getfield 42, 3) := by decide +kernel
theorem dX1_findGains_65 : decode cX1_findGains 65 = .ok (.if_icmp .ge 36, 3) := by decide +kernel
theorem dX1_findGains_68 : decode cX1_findGains 68 = .ok (.aload_n 0, 1) := by decide +kernel
theorem dX1_findGains_69 : decode cX1_findGains 69 = .ok (.getfield 36, 3) := by decide +kernel
theorem dX1_findGains_72 : decode cX1_findGains 72 = .ok (.iload_n 2, 1) := by decide +kernel
theorem dX1_findGains_73 : decode cX1_findGains 73 = .ok (.iaload, 1) := by decide +kernel
theorem dX1_findGains_74 : decode cX1_findGains 74 = .ok (.aload_n 0, 1) := by decide +kernel
theorem dX1_findGains_75 : decode cX1_findGains 75 = .ok (.getfield 36, 3) := by decide +kernel
theorem dX1_findGains_78 : decode cX1_findGains 78 = .ok (.iload_n 3, 1) := by decide +kernel
theorem dX1_findGains_79 : decode cX1_findGains 79 = .ok (.iaload, 1) := by decide +kernel
theorem dX1_findGains_80 : decode cX1_findGains 80 = .ok (.iadd, 1) := by decide +kernel
theorem dX1_findGains_81 : decode cX1_findGains 81 = .ok (.iconst 2, 1) := by decide +kernel
theorem dX1_findGains_82 : decode cX1_findGains 82 = .ok (.idiv, 1) := by decide +kernel
theorem dX1_findGains_83 : decode cX1_findGains 83 = .ok (.istore 4, 2) := by decide +kernel
theorem dX1_findGains_85 : decode cX1_findGains 85 = .ok (.aload_n 0, 1) := by decide +kernel
theorem dX1_findGains_86 : decode cX1_findGains 86 = .ok (.getfield 36, 3) := by decide +kernel
theorem dX1_findGains_89 : decode cX1_findGains 89 = .ok (.iload_n 2, 1) := by decide +kernel
theorem dX1_findGains_90 : decode cX1_findGains 90 = .ok (.iload 4, 2) := by decide +kernel
theorem dX1_findGains_92 : decode cX1_findGains 92 = .ok (.iastore, 1) := by decide +kernel
theorem dX1_findGains_93 : decode cX1_findGains 93 = .ok (.aload_n 0, 1) := by decide +kernel
theorem dX1_findGains_94 : decode cX1_findGains 94 = .ok (.getfield 36, 3) := by decide +kernel
theorem dX1_findGains_97 : decode cX1_findGains 97 = .ok (.iload_n 3, 1) := by decide +kernel
theorem dX1_findGains_98 : decode cX1_findGains 98 = .ok (.iload 4, 2) := by decide +kernel
theorem dX1_findGains_100 : decode cX1_findGains 100 = .ok (.iastore, 1) := by decide +kernel
theorem dX1_findGains_101 : decode cX1_findGains 101 = .ok (.iinc 2 1, 3) := by decide +kernel
theorem dX1_findGains_104 : decode cX1_findGains 104 = .ok (.goto (-64), 3) := by decide +kernel
theorem dX1_findGains_107 : decode cX1_findGains 107 = .ok (.iconst 0, 1) := by decide +kernel
theorem dX1_findGains_108 : decode cX1_findGains 108 = .ok (.istore_n 2, 1) := by decide +kernel
theorem dX1_findGains_109 : decode cX1_findGains 109 = .ok (.iload_n 2, 1) := by decide +kernel
theorem dX1_findGains_110 : decode cX1_findGains 110 = .ok (.aload_n 0, 1) := by decide +kernel
theorem dX1_findGains_111 : decode cX1_findGains 111 = .ok (.getfield 42, 3) := by decide +kernel
theorem dX1_findGains_114 : decode cX1_findGains 114 = .ok (.if_icmp .ge 33, 3) := by decide +kernel
theorem dX1_findGains_117 : decode cX1_findGains 117 = .ok (.aload_n 0, 1) := by decide +kernel
theorem dX1_findGains_118 : decode cX1_findGains 118 = .ok (.getfield 36, 3) := by decide +kernel
theorem dX1_findGains_121 : decode cX1_findGains 121 = .ok (.iload_n 2, 1) := by decide +kernel
theorem dX1_findGains_122 : decode cX1_findGains 122 = .ok (.dup2, 1) := by decide +kernel
theorem dX1_findGains_123 : decode cX1_findGains 123 = .ok (.iaload, 1) := by decide +kernel
theorem dX1_findGains_124 : decode cX1_findGains 124 = .ok (.aload_n 0, 1) := by decide +kernel
theorem dX1_findGains_125 : decode cX1_findGains 125 = .ok (.getfield 39, 3) := by decide +kernel
theorem dX1_findGains_128 : decode cX1_findGains 128 = .ok (.iload_n 2, 1) := by decide +kernel
theorem dX1_findGains_129 : decode cX1_findGains 129 = .ok (.iaload, 1) := by decide +kernel
theorem dX1_findGains_130 : decode cX1_findGains 130 = .ok (.aload_n 0, 1) := by decide +kernel
theorem dX1_findGains_131 : decode cX1_findGains 131 = .ok (.getfield 24, 3) := by decide +kernel
theorem dX1_findGains_134 : decode cX1_findGains 134 = .ok (.iload_n 2, 1) := by decide +kernel
theorem dX1_findGains_135 : decode cX1_findGains 135 = .ok (.iaload, 1) := by decide +kernel
theorem dX1_findGains_136 : decode cX1_findGains 136 = .ok (.ishr, 1) := by decide +kernel
theorem dX1_findGains_137 : decode cX1_findGains 137 = .ok (.iconst 1, 1) := by decide +kernel
theorem dX1_findGains_138 : decode cX1_findGains 138 = .ok (.iand, 1) := by decide +kernel
theorem dX1_findGains_139 : decode cX1_findGains 139 = .ok (.iadd, 1) := by decide +kernel
theorem dX1_findGains_140 : decode cX1_findGains 140 = .ok (.iastore, 1) := by decide +kernel
theorem dX1_findGains_141 : decode cX1_findGains 141 = .ok (.iinc 2 1, 3) := by decide +kernel
theorem dX1_findGains_144 : decode cX1_findGains 144 = .ok (.goto (-35), 3) := by decide +kernel
theorem dX1_findGains_147 : decode cX1_findGains 147 = .ok (.return_, 1) := by decide +kernel
theorem dX1_findHigher_0 : decode cX1_findHigher 0 = .ok (.iconst 0, 1) := by decide +kernel
theorem dX1_findHigher_1 : decode cX1_findHigher 1 = .ok (.istore_n 1, 1) := by decide +kernel
theorem dX1_findHigher_2 : decode cX1_findHigher 2 = .ok (.iload_n 1, 1) := by decide +kernel
theorem dX1_findHigher_3 : decode cX1_findHigher 3 = .ok (.aload_n 0, 1) := by decide +kernel
theorem dX1_findHigher_4 : decode cX1_findHigher 4 = .ok (.getfield 42, 3) := by decide +kernel
theorem dX1_findHigher_7 : decode cX1_findHigher 7 = .ok (.if_icmp .ge 16, 3) := by decide +kernel
theorem dX1_findHigher_10 : decode cX1_findHigher 10 = .ok (.aload_n 0, 1) := by decide +kernel
theorem dX1_findHigher_11 : decode cX1_findHigher 11 = .ok (.getfield 39, 3) := by decide +kernel
theorem dX1_findHigher_14 : decode cX1_findHigher 14 = .ok (.iload_n 1, 1) := by decide +kernel
theorem dX1_findHigher_15 : decode cX1_findHigher 15 = .ok (.iconst 0, 1) := by decide +kernel
theorem dX1_findHigher_16 : decode cX1_findHigher 16 = .ok (.iastore, 1) := by decide +kernel
theorem dX1_findHigher_17 : decode cX1_findHigher 17 = .ok (.iinc 1 1, 3) := by decide +kernel
theorem dX1_findHigher_20 : decode cX1_findHigher 20 = .ok (.goto (-18), 3) := by decide +kernel
theorem dX1_findHigher_23 : decode cX1_findHigher 23 = .ok (.iconst 0, 1) := by decide +kernel
theorem dX1_findHigher_24 : decode cX1_findHigher 24 = .ok (.istore_n 1, 1) := by decide +kernel
theorem dX1_findHigher_25 : decode cX1_findHigher 25 = .ok (.iload_n 1, 1) := by decide +kernel
theorem dX1_findHigher_26 : decode cX1_findHigher 26 = .ok (.iconst 1, 1) := by decide +kernel
theorem dX1_findHigher_27 : decode cX1_findHigher 27 = .ok (.iadd, 1) := by decide +kernel
theorem dX1_findHigher_28 : decode cX1_findHigher 28 = .ok (.aload_n 0, 1) := by decide +kernel
theorem dX1_findHigher_29 : decode cX1_findHigher 29 = .ok (.getfield 42, 3) := by decide +kernel
theorem dX1_findHigher_32 : decode cX1_findHigher 32 = .ok (.if_icmp .ge 75, 3) := by decide +kernel
theorem dX1_findHigher_35 : decode cX1_findHigher 35 = .ok (.aload_n 0, 1) := by decide +kernel
theorem dX1_findHigher_36 : decode cX1_findHigher 36 = .ok (.getfield 33, 3) := by decide +kernel
theorem dX1_findHigher_39 : decode cX1_findHigher 39 = .ok (.iload_n 1, 1) := by decide +kernel
theorem dX1_findHigher_40 : decode cX1_findHigher 40 = .ok (.iaload, 1) := by decide +kernel
theorem dX1_findHigher_41 : decode cX1_findHigher 41 = .ok (.istore_n 2, 1) := by decide +kernel
theorem dX1_findHigher_42 : decode cX1_findHigher 42 = .ok (.aload_n 0, 1) := by decide +kernel
theorem dX1_findHigher_43 : decode cX1_findHigher 43 = .ok (.getfield 33, 3) := by decide +kernel
theorem dX1_findHigher_46 : decode cX1_findHigher 46 = .ok (.iload_n 1, 1) := by decide +kernel
theorem dX1_findHigher_47 : decode cX1_findHigher 47 = .ok (.iconst 1, 1) := by decide +kernel
theorem dX1_findHigher_48 : decode cX1_findHigher 48 = .ok (.iadd, 1) := by decide +kernel
theorem dX1_findHigher_49 : decode cX1_findHigher 49 = .ok (.iaload, 1) := by decide +kernel
theorem dX1_findHigher_50 : decode cX1_findHigher 50 = .ok (.istore_n 3, 1) := by decide +kernel
theorem dX1_findHigher_51 : decode cX1_findHigher 51 = .ok (.aload_n 0, 1) := by decide +kernel
theorem dX1_findHigher_52 : decode cX1_findHigher 52 = .ok (.getfield 17, 3) := by decide +kernel
theorem dX1_findHigher_55 : decode cX1_findHigher 55 = .ok (.iload_n 2, 1) := by decide +kernel
theorem dX1_findHigher_56 : decode cX1_findHigher 56 = .ok (.iaload, 1) := by decide +kernel
theorem dX1_findHigher_57 : decode cX1_findHigher 57 = .ok (.aload_n 0, 1) := by decide +kernel
theorem dX1_findHigher_58 : decode cX1_findHigher 58 = .ok (.getfield 17, 3) := by decide +kernel
theorem dX1_findHigher_61 : decode cX1_findHigher 61 = .ok (.iload_n 3, 1) := by decide +kernel
theorem dX1_findHigher_62 : decode cX1_findHigher 62 = .ok (.iaload, 1) := by decide +kernel
theorem dX1_findHigher_63 : decode cX1_findHigher 63 = .ok (.if_icmp .le 13, 3) := by decide +kernel
theorem dX1_findHigher_66 : decode cX1_findHigher 66 = .ok (.aload_n 0, 1) := by decide +kernel
theorem dX1_findHigher_67 : decode cX1_findHigher 67 = .ok (.getfield 39, 3) := by decide +kernel
theorem dX1_findHigher_70 : decode cX1_findHigher 70 = .ok (.iload_n 3, 1) := by decide +kernel
theorem dX1_findHigher_71 : decode cX1_findHigher 71 = .ok (.dup2, 1) := by decide +kernel
theorem dX1_findHigher_72 : decode cX1_findHigher 72 = .ok (.iaload, 1) := by decide +kernel
theorem dX1_findHigher_73 : decode cX1_findHigher 73 = .ok (.iconst 1, 1) := by decide +kernel
theorem dX1_findHigher_74 : decode cX1_findHigher 74 = .ok (.ior, 1) := by decide +kernel
theorem dX1_findHigher_75 : decode cX1_findHigher 75 = .ok (.iastore, 1) := by decide +kernel
theorem dX1_findHigher_76 : decode cX1_findHigher 76 = .ok (.aload_n 0, 1) := by decide +kernel
theorem dX1_findHigher_77 : decode cX1_findHigher 77 = .ok (.getfield 17, 3) := by decide +kernel
theorem dX1_findHigher_80 : decode cX1_findHigher 80 = .ok (.iload_n 3, 1) := by decide +kernel
theorem dX1_findHigher_81 : decode cX1_findHigher 81 = .ok (.iaload, 1) := by decide +kernel
theorem dX1_findHigher_82 : decode cX1_findHigher 82 = .ok (.aload_n 0, 1) := by decide +kernel
theorem dX1_findHigher_83 : decode cX1_findHigher 83 = .ok (.getfield 17, 3) := by decide +kernel
theorem dX1_findHigher_86 : decode cX1_findHigher 86 = .ok (.iload_n 2, 1) := by decide +kernel
theorem dX1_findHigher_87 : decode cX1_findHigher 87 = .ok (.iaload, 1) := by decide +kernel
theorem dX1_findHigher_88 : decode cX1_findHigher 88 = .ok (.if_icmp .le 13, 3) := by decide +kernel
theorem dX1_findHigher_91 : decode cX1_findHigher 91 = .ok (.aload_n 0, 1) := by decide +kernel
theorem dX1_findHigher_92 : decode cX1_findHigher 92 = .ok (.getfield 39, 3) := by decide +kernel
theorem dX1_findHigher_95 : decode cX1_findHigher 95 = .ok (.iload_n 2, 1) := by decide +kernel
theorem dX1_findHigher_96 : decode cX1_findHigher 96 = .ok (.dup2, 1) := by decide +kernel
theorem dX1_findHigher_97 : decode cX1_findHigher 97 = .ok (.iaload, 1) := by decide +kernel
theorem dX1_findHigher_98 : decode cX1_findHigher 98 = .ok (.iconst 2, 1) := by decide +kernel
theorem dX1_findHigher_99 : decode cX1_findHigher 99 = .ok (.ior, 1) := by decide +kernel
theorem dX1_findHigher_100 : decode cX1_findHigher 100 = .ok (.iastore, 1) := by decide +kernel
theorem dX1_findHigher_101 : decode cX1_findHigher 101 = .ok (.iinc 1 1, 3) := by decide +kernel
theorem dX1_findHigher_104 : decode cX1_findHigher 104 = .ok (.goto (-79), 3) := by decide +kernel
theorem dX1_findHigher_107 : decode cX1_findHigher 107 = .ok (.return_, 1) := by decide +kernel
theorem dX1_exchange_0 : decode cX1_exchange 0 = .ok (.aload_n 0, 1) := by decide +kernel
theorem dX1_exchange_1 : decode cX1_exchange 1 = .ok (.getfield 30, 3) := by decide +kernel
theorem dX1_exchange_4 : decode cX1_exchange 4 = .ok (.iload_n 1, 1) := by decide +kernel
theorem dX1_exchange_5 : decode cX1_exchange 5 = .ok (.iaload, 1) := by decide +kernel
theorem dX1_exchange_6 : decode cX1_exchange 6 = .ok (.istore_n 3, 1) := by decide +kernel
theorem dX1_exchange_7 : decode cX1_exchange 7 = .ok (.aload_n 0, 1) := by decide +kernel
theorem dX1_exchange_8 : decode cX1_exchange 8 = .ok (.getfield 30, 3) := by decide +kernel
theorem dX1_exchange_11 : decode cX1_exchange 11 = .ok (.iload_n 1, 1) := by decide +kernel
theorem dX1_exchange_12 : decode cX1_exchange 12 = .ok (.aload_n 0, 1) := by decide +kernel
theorem dX1_exchange_13 : decode cX1_exchange 13 = .ok (.getfield 30, 3) := by decide +kernel
theorem dX1_exchange_16 : decode cX1_exchange 16 = .ok (.iload_n 2, 1) := by decide +kernel
theorem dX1_exchange_17 : decode cX1_exchange 17 = .ok (.iaload, 1) := by decide +kernel
theorem dX1_exchange_18 : decode cX1_exchange 18 = .ok (.iastore, 1) := by decide +kernel
theorem dX1_exchange_19 : decode cX1_exchange 19 = .ok (.aload_n 0, 1) := by decide +kernel
theorem dX1_exchange_20 : decode cX1_exchange 20 = .ok (.getfield 30, 3) := by decide +kernel
theorem dX1_exchange_23 : decode cX1_exchange 23 = .ok (.iload_n 2, 1) := by decide +kernel
theorem dX1_exchange_24 : decode cX1_exchange 24 = .ok (.iload_n 3, 1) := by decide +kernel
theorem dX1_exchange_25 : decode cX1_exchange 25 = .ok (.iastore, 1) := by decide +kernel
theorem dX1_exchange_26 : decode cX1_exchange 26 = .ok (.aload_n 0, 1) := by decide +kernel
theorem dX1_exchange_27 : decode cX1_exchange 27 = .ok (.getfield 33, 3) := by decide +kernel
theorem dX1_exchange_30 : decode cX1_exchange 30 = .ok (.aload_n 0, 1) := by decide +kernel
theorem dX1_exchange_31 : decode cX1_exchange 31 = .ok (.getfield 30, 3) := by decide +kernel
theorem dX1_exchange_34 : decode cX1_exchange 34 = .ok (.iload_n 1, 1) := by decide +kernel
theorem dX1_exchange_35 : decode cX1_exchange 35 = .ok (.iaload, 1) := by decide +kernel
theorem dX1_exchange_36 : decode cX1_exchange 36 = .ok (.iload_n 1, 1) := by decide +kernel
theorem dX1_exchange_37 : decode cX1_exchange 37 = .ok (.iastore, 1) := by decide +kernel
theorem dX1_exchange_38 : decode cX1_exchange 38 = .ok (.aload_n 0, 1) := by decide +kernel
theorem dX1_exchange_39 : decode cX1_exchange 39 = .ok (.getfield 33, 3) := by decide +kernel
theorem dX1_exchange_42 : decode cX1_exchange 42 = .ok (.aload_n 0, 1) := by decide +kernel
theorem dX1_exchange_43 : decode cX1_exchange 43 = .ok (.getfield 30, 3) := by decide +kernel
theorem dX1_exchange_46 : decode cX1_exchange 46 = .ok (.iload_n 2, 1) := by decide +kernel
theorem dX1_exchange_47 : decode cX1_exchange 47 = .ok (.iaload, 1) := by decide +kernel
theorem dX1_exchange_48 : decode cX1_exchange 48 = .ok (.iload_n 2, 1) := by decide +kernel
theorem dX1_exchange_49 : decode cX1_exchange 49 = .ok (.iastore, 1) := by decide +kernel
theorem dX1_exchange_50 : decode cX1_exchange 50 = .ok (.return_, 1) := by decide +kernel
set_option maxRecDepth 20000 in
theorem ggX1_allRanks_X1_votesOf : GoodIn wsX1_allRanks wsX1_votesOf := goodIn_r _ [6, 1, 7, 8, 9, 10, 11, 12, 13, 14, 15, 16, 17, 18, 19, 20] (by decide +kernel) (by decide +kernel)
set_option maxRecDepth 20000 in
theorem gX1_allRanks_X1_votesOf : GoodIn wsX1_allRanks (wsV RX1 78 RX1 yX1_votesOf wsX1_votesOf) := goodIn_app (goodIn_of _ (by decide +kernel)) ggX1_allRanks_X1_votesOf
theorem dX1_allRanks_0 : decode cX1_allRanks 0 = .ok (.aload_n 0, 1) := by decide +kernel
theorem dX1_allRanks_1 : decode cX1_allRanks 1 = .ok (.iconst 1, 1) := by decide +kernel
theorem dX1_allRanks_2 : decode cX1_allRanks 2 = .ok (.aload_n 0, 1) := by decide +kernel
theorem dX1_allRanks_3 : decode cX1_allRanks 3 = .ok (.getfield 42, 3) := by decide +kernel
theorem dX1_allRanks_6 : decode cX1_allRanks 6 = .ok (.ishl, 1) := by decide +kernel
theorem dX1_allRanks_7 : decode cX1_allRanks 7 = .ok (.iconst 1, 1) := by decide +kernel
theorem dX1_allRanks_8 : decode cX1_allRanks 8 = .ok (.isub, 1) := by decide +kernel
theorem dX1_allRanks_9 : decode cX1_allRanks 9 = .ok (.invokevirtual 78, 3) := by decide +kernel
theorem dX1_allRanks_12 : decode cX1_allRanks 12 = .ok (.ireturn, 1) := by decide +kernel
theorem dX1_allGrown_0 : decode cX1_allGrown 0 = .ok (.iconst 0, 1) := by decide +kernel
theorem dX1_allGrown_1 : decode cX1_allGrown 1 = .ok (.istore_n 1, 1) := by decide +kernel
theorem dX1_allGrown_2 : decode cX1_allGrown 2 = .ok (.iconst 0, 1) := by decide +kernel
theorem dX1_allGrown_3 : decode cX1_allGrown 3 = .ok (.istore_n 2, 1) := by decide +kernel
theorem dX1_allGrown_4 : decode cX1_allGrown 4 = .ok (.iload_n 2, 1) := by decide +kernel
theorem dX1_allGrown_5 : decode cX1_allGrown 5 = .ok (.aload_n 0, 1) := by decide +kernel
theorem dX1_allGrown_6 : decode cX1_allGrown 6 = .ok (.getfield 42, 3) := by decide +kernel
theorem dX1_allGrown_9 : decode cX1_allGrown 9 = .ok (.if_icmp .ge 18, 3) := by decide +kernel
theorem dX1_allGrown_12 : decode cX1_allGrown 12 = .ok (.iload_n 1, 1) := by decide +kernel
theorem dX1_allGrown_13 : decode cX1_allGrown 13 = .ok (.aload_n 0, 1) := by decide +kernel
theorem dX1_allGrown_14 : decode cX1_allGrown 14 = .ok (.getfield 21, 3) := by decide +kernel
theorem dX1_allGrown_17 : decode cX1_allGrown 17 = .ok (.iload_n 2, 1) := by decide +kernel
theorem dX1_allGrown_18 : decode cX1_allGrown 18 = .ok (.iaload, 1) := by decide +kernel
theorem dX1_allGrown_19 : decode cX1_allGrown 19 = .ok (.iadd, 1) := by decide +kernel
theorem dX1_allGrown_20 : decode cX1_allGrown 20 = .ok (.istore_n 1, 1) := by decide +kernel
theorem dX1_allGrown_21 : decode cX1_allGrown 21 = .ok (.iinc 2 1, 3) := by decide +kernel
theorem dX1_allGrown_24 : decode cX1_allGrown 24 = .ok (.goto (-20), 3) := by decide +kernel
theorem dX1_allGrown_27 : decode cX1_allGrown 27 = .ok (.iload_n 1, 1) := by decide +kernel
theorem dX1_allGrown_28 : decode cX1_allGrown 28 = .ok (.ireturn, 1) := by decide +kernel
theorem dX1_allMarried_0 : decode cX1_allMarried 0 = .ok (.iconst 0, 1) := by decide +kernel
theorem dX1_allMarried_1 : decode cX1_allMarried 1 = .ok (.istore_n 1, 1) := by decide +kernel
theorem dX1_allMarried_2 : decode cX1_allMarried 2 = .ok (.iconst 0, 1) := by decide +kernel
theorem dX1_allMarried_3 : decode cX1_allMarried 3 = .ok (.istore_n 2, 1) := by decide +kernel
theorem dX1_allMarried_4 : decode cX1_allMarried 4 = .ok (.iload_n 2, 1) := by decide +kernel
theorem dX1_allMarried_5 : decode cX1_allMarried 5 = .ok (.aload_n 0, 1) := by decide +kernel
theorem dX1_allMarried_6 : decode cX1_allMarried 6 = .ok (.getfield 42, 3) := by decide +kernel
theorem dX1_allMarried_9 : decode cX1_allMarried 9 = .ok (.if_icmp .ge 22, 3) := by decide +kernel
theorem dX1_allMarried_12 : decode cX1_allMarried 12 = .ok (.aload_n 0, 1) := by decide +kernel
theorem dX1_allMarried_13 : decode cX1_allMarried 13 = .ok (.getfield 27, 3) := by decide +kernel
theorem dX1_allMarried_16 : decode cX1_allMarried 16 = .ok (.iload_n 2, 1) := by decide +kernel
theorem dX1_allMarried_17 : decode cX1_allMarried 17 = .ok (.iaload, 1) := by decide +kernel
theorem dX1_allMarried_18 : decode cX1_allMarried 18 = .ok (.iconst (-1), 1) := by decide +kernel
theorem dX1_allMarried_19 : decode cX1_allMarried 19 = .ok (.if_icmp .eq 6, 3) := by decide +kernel
theorem dX1_allMarried_22 : decode cX1_allMarried 22 = .ok (.iinc 1 1, 3) := by decide +kernel
theorem dX1_allMarried_25 : decode cX1_allMarried 25 = .ok (.iinc 2 1, 3) := by decide +kernel
theorem dX1_allMarried_28 : decode cX1_allMarried 28 = .ok (.goto (-24), 3) := by decide +kernel
theorem dX1_allMarried_31 : decode cX1_allMarried 31 = .ok (.iload_n 1, 1) := by decide +kernel
theorem dX1_allMarried_32 : decode cX1_allMarried 32 = .ok (.ireturn, 1) := by decide +kernel
theorem dX1_votesOf_0 : decode cX1_votesOf 0 = .ok (.iconst 0, 1) := by decide +kernel
theorem dX1_votesOf_1 : decode cX1_votesOf 1 = .ok (.istore_n 2, 1) := by decide +kernel
theorem dX1_votesOf_2 : decode cX1_votesOf 2 = .ok (.iconst 0, 1) := by decide +kernel
theorem dX1_votesOf_3 : decode cX1_votesOf 3 = .ok (.istore_n 3, 1) := by decide +kernel
theorem dX1_votesOf_4 : decode cX1_votesOf 4 = .ok (.iload_n 3, 1) := by decide +kernel
theorem dX1_votesOf_5 : decode cX1_votesOf 5 = .ok (.aload_n 0, 1) := by decide +kernel
theorem dX1_votesOf_6 : decode cX1_votesOf 6 = .ok (.getfield 42, 3) := by decide +kernel
theorem dX1_votesOf_9 : decode cX1_votesOf 9 = .ok (.if_icmp .ge 27, 3) := by decide +kernel
theorem dX1_votesOf_12 : decode cX1_votesOf 12 = .ok (.iload_n 1, 1) := by decide +kernel
theorem dX1_votesOf_13 : decode cX1_votesOf 13 = .ok (.iload_n 3, 1) := by decide +kernel
theorem dX1_votesOf_14 : decode cX1_votesOf 14 = .ok (.ishr, 1) := by decide +kernel
theorem dX1_votesOf_15 : decode cX1_votesOf 15 = .ok (.iconst 1, 1) := by decide +kernel
theorem dX1_votesOf_16 : decode cX1_votesOf 16 = .ok (.iand, 1) := by decide +kernel
theorem dX1_votesOf_17 : decode cX1_votesOf 17 = .ok (.iconst 1, 1) := by decide +kernel
theorem dX1_votesOf_18 : decode cX1_votesOf 18 = .ok (.if_icmp .ne 12, 3) := by decide +kernel
theorem dX1_votesOf_21 : decode cX1_votesOf 21 = .ok (.iload_n 2, 1) := by decide +kernel
theorem dX1_votesOf_22 : decode cX1_votesOf 22 = .ok (.aload_n 0, 1) := by decide +kernel
theorem dX1_votesOf_23 : decode cX1_votesOf 23 = .ok (.getfield 17, 3) := by decide +kernel
theorem dX1_votesOf_26 : decode cX1_votesOf 26 = .ok (.iload_n 3, 1) := by decide +kernel
theorem dX1_votesOf_27 : decode cX1_votesOf 27 = .ok (.iaload, 1) := by decide +kernel
theorem dX1_votesOf_28 : decode cX1_votesOf 28 = .ok (.iadd, 1) := by decide +kernel
theorem dX1_votesOf_29 : decode cX1_votesOf 29 = .ok (.istore_n 2, 1) := by decide +kernel
theorem dX1_votesOf_30 : decode cX1_votesOf 30 = .ok (.iinc 3 1, 3) := by decide +kernel
theorem dX1_votesOf_33 : decode cX1_votesOf 33 = .ok (.goto (-29), 3) := by decide +kernel
theorem dX1_votesOf_36 : decode cX1_votesOf 36 = .ok (.iload_n 2, 1) := by decide +kernel
theorem dX1_votesOf_37 : decode cX1_votesOf 37 = .ok (.ireturn, 1) := by decide +kernel
set_option maxRecDepth 20000 in
theorem ggX1_turnedBy_X1_allRanks : GoodIn wsX1_turnedBy wsX1_allRanks := goodIn_r _ [7, 1, 8, 9, 10, 6, 11, 2, 12, 13, 14, 15, 16, 17, 18, 19, 20, 21, 22, 23, 24] (by decide +kernel) (by decide +kernel)
set_option maxRecDepth 20000 in
theorem gX1_turnedBy_X1_allRanks : GoodIn wsX1_turnedBy (wsV RX1 82 RX1 yX1_allRanks wsX1_allRanks) := goodIn_app (goodIn_of _ (by decide +kernel)) ggX1_turnedBy_X1_allRanks
set_option maxRecDepth 20000 in
theorem ggX1_turnedBy_X1_votesOf : GoodIn wsX1_turnedBy wsX1_votesOf := goodIn_r _ [11, 1, 2, 12, 13, 14, 15, 16, 17, 18, 19, 20, 21, 22, 23, 24] (by decide +kernel) (by decide +kernel)
set_option maxRecDepth 20000 in
theorem gX1_turnedBy_X1_votesOf : GoodIn wsX1_turnedBy (wsV RX1 78 RX1 yX1_votesOf wsX1_votesOf) := goodIn_app (goodIn_of _ (by decide +kernel)) ggX1_turnedBy_X1_votesOf
theorem dX1_turnedBy_0 : decode cX1_turnedBy 0 = .ok (.aload_n 0, 1) := by decide +kernel
theorem dX1_turnedBy_1 : decode cX1_turnedBy 1 = .ok (.invokevirtual 82, 3) := by decide +kernel
theorem dX1_turnedBy_4 : decode cX1_turnedBy 4 = .ok (.istore_n 2, 1) := by decide +kernel
theorem dX1_turnedBy_5 : decode cX1_turnedBy 5 = .ok (.iconst 0, 1) := by decide +kernel
theorem dX1_turnedBy_6 : decode cX1_turnedBy 6 = .ok (.istore_n 3, 1) := by decide +kernel
theorem dX1_turnedBy_7 : decode cX1_turnedBy 7 = .ok (.iconst 0, 1) := by decide +kernel
theorem dX1_turnedBy_8 : decode cX1_turnedBy 8 = .ok (.istore 4, 2) := by decide +kernel
theorem dX1_turnedBy_10 : decode cX1_turnedBy 10 = .ok (.iload 4, 2) := by decide +kernel
theorem dX1_turnedBy_12 : decode cX1_turnedBy 12 = .ok (.iconst 1, 1) := by decide +kernel
theorem dX1_turnedBy_13 : decode cX1_turnedBy 13 = .ok (.aload_n 0, 1) := by decide +kernel
theorem dX1_turnedBy_14 : decode cX1_turnedBy 14 = .ok (.getfield 42, 3) := by decide +kernel
theorem dX1_turnedBy_17 : decode cX1_turnedBy 17 = .ok (.ishl, 1) := by decide +kernel
theorem dX1_turnedBy_18 : decode cX1_turnedBy 18 = .ok (.if_icmp .ge 52, 3) := by decide +kernel
theorem dX1_turnedBy_21 : decode cX1_turnedBy 21 = .ok (.aload_n 0, 1) := by decide +kernel
theorem dX1_turnedBy_22 : decode cX1_turnedBy 22 = .ok (.iload 4, 2) := by decide +kernel
theorem dX1_turnedBy_24 : decode cX1_turnedBy 24 = .ok (.invokevirtual 78, 3) := by decide +kernel
theorem dX1_turnedBy_27 : decode cX1_turnedBy 27 = .ok (.istore 5, 2) := by decide +kernel
theorem dX1_turnedBy_29 : decode cX1_turnedBy 29 = .ok (.iload 4, 2) := by decide +kernel
theorem dX1_turnedBy_31 : decode cX1_turnedBy 31 = .ok (.iload_n 1, 1) := by decide +kernel
theorem dX1_turnedBy_32 : decode cX1_turnedBy 32 = .ok (.ishr, 1) := by decide +kernel
theorem dX1_turnedBy_33 : decode cX1_turnedBy 33 = .ok (.iconst 1, 1) := by decide +kernel
theorem dX1_turnedBy_34 : decode cX1_turnedBy 34 = .ok (.iand, 1) := by decide +kernel
theorem dX1_turnedBy_35 : decode cX1_turnedBy 35 = .ok (.ifCond .ne 29, 3) := by decide +kernel
theorem dX1_turnedBy_38 : decode cX1_turnedBy 38 = .ok (.iconst 2, 1) := by decide +kernel
theorem dX1_turnedBy_39 : decode cX1_turnedBy 39 = .ok (.iload 5, 2) := by decide +kernel
theorem dX1_turnedBy_41 : decode cX1_turnedBy 41 = .ok (.imul, 1) := by decide +kernel
theorem dX1_turnedBy_42 : decode cX1_turnedBy 42 = .ok (.iload_n 2, 1) := by decide +kernel
theorem dX1_turnedBy_43 : decode cX1_turnedBy 43 = .ok (.if_icmp .gt 21, 3) := by decide +kernel
theorem dX1_turnedBy_46 : decode cX1_turnedBy 46 = .ok (.iconst 2, 1) := by decide +kernel
theorem dX1_turnedBy_47 : decode cX1_turnedBy 47 = .ok (.iload 5, 2) := by decide +kernel
theorem dX1_turnedBy_49 : decode cX1_turnedBy 49 = .ok (.aload_n 0, 1) := by decide +kernel
theorem dX1_turnedBy_50 : decode cX1_turnedBy 50 = .ok (.getfield 17, 3) := by decide +kernel
theorem dX1_turnedBy_53 : decode cX1_turnedBy 53 = .ok (.iload_n 1, 1) := by decide +kernel
theorem dX1_turnedBy_54 : decode cX1_turnedBy 54 = .ok (.iaload, 1) := by decide +kernel
theorem dX1_turnedBy_55 : decode cX1_turnedBy 55 = .ok (.iadd, 1) := by decide +kernel
theorem dX1_turnedBy_56 : decode cX1_turnedBy 56 = .ok (.imul, 1) := by decide +kernel
theorem dX1_turnedBy_57 : decode cX1_turnedBy 57 = .ok (.iload_n 2, 1) := by decide +kernel
theorem dX1_turnedBy_58 : decode cX1_turnedBy 58 = .ok (.if_icmp .le 6, 3) := by decide +kernel
theorem dX1_turnedBy_61 : decode cX1_turnedBy 61 = .ok (.iinc 3 1, 3) := by decide +kernel
theorem dX1_turnedBy_64 : decode cX1_turnedBy 64 = .ok (.iinc 4 1, 3) := by decide +kernel
theorem dX1_turnedBy_67 : decode cX1_turnedBy 67 = .ok (.goto (-57), 3) := by decide +kernel
theorem dX1_turnedBy_70 : decode cX1_turnedBy 70 = .ok (.iload_n 3, 1) := by decide +kernel
theorem dX1_turnedBy_71 : decode cX1_turnedBy 71 = .ok (.ireturn, 1) := by decide +kernel
set_option maxRecDepth 20000 in
theorem ggX1_leastBloc_X1_allRanks : GoodIn wsX1_leastBloc wsX1_allRanks := goodIn_r _ [6, 1, 7, 8, 9, 5, 10, 11, 19, 20, 21, 22, 23, 24, 25, 26, 27, 28, 29, 30, 31] (by decide +kernel) (by decide +kernel)
set_option maxRecDepth 20000 in
theorem gX1_leastBloc_X1_allRanks : GoodIn wsX1_leastBloc (wsV RX1 82 RX1 yX1_allRanks wsX1_allRanks) := goodIn_app (goodIn_of _ (by decide +kernel)) ggX1_leastBloc_X1_allRanks
set_option maxRecDepth 20000 in
theorem ggX1_leastBloc_J6_bitCount_0f7a4 : GoodIn wsX1_leastBloc wsJ6_bitCount_0f7a4 := goodIn_r _ [15, 16, 17, 18] (by decide +kernel) (by decide +kernel)
set_option maxRecDepth 20000 in
theorem gX1_leastBloc_J6_bitCount_0f7a4 : GoodIn wsX1_leastBloc (va_wsS RX1 86 yJ6_bitCount_0f7a4 wsJ6_bitCount_0f7a4) := goodIn_app (goodIn_of _ (by decide +kernel)) ggX1_leastBloc_J6_bitCount_0f7a4
set_option maxRecDepth 20000 in
theorem ggX1_leastBloc_X1_votesOf : GoodIn wsX1_leastBloc wsX1_votesOf := goodIn_r _ [10, 1, 11, 19, 20, 21, 22, 23, 24, 25, 26, 27, 28, 29, 30, 31] (by decide +kernel) (by decide +kernel)
set_option maxRecDepth 20000 in
theorem gX1_leastBloc_X1_votesOf : GoodIn wsX1_leastBloc (wsV RX1 78 RX1 yX1_votesOf wsX1_votesOf) := goodIn_app (goodIn_of _ (by decide +kernel)) ggX1_leastBloc_X1_votesOf
theorem dX1_leastBloc_0 : decode cX1_leastBloc 0 = .ok (.aload_n 0, 1) := by decide +kernel
theorem dX1_leastBloc_1 : decode cX1_leastBloc 1 = .ok (.invokevirtual 82, 3) := by decide +kernel
theorem dX1_leastBloc_4 : decode cX1_leastBloc 4 = .ok (.istore_n 1, 1) := by decide +kernel
theorem dX1_leastBloc_5 : decode cX1_leastBloc 5 = .ok (.iconst 0, 1) := by decide +kernel
theorem dX1_leastBloc_6 : decode cX1_leastBloc 6 = .ok (.istore_n 2, 1) := by decide +kernel
theorem dX1_leastBloc_7 : decode cX1_leastBloc 7 = .ok (.iconst 1, 1) := by decide +kernel
theorem dX1_leastBloc_8 : decode cX1_leastBloc 8 = .ok (.istore_n 3, 1) := by decide +kernel
theorem dX1_leastBloc_9 : decode cX1_leastBloc 9 = .ok (.iload_n 3, 1) := by decide +kernel
theorem dX1_leastBloc_10 : decode cX1_leastBloc 10 = .ok (.iconst 1, 1) := by decide +kernel
theorem dX1_leastBloc_11 : decode cX1_leastBloc 11 = .ok (.aload_n 0, 1) := by decide +kernel
theorem dX1_leastBloc_12 : decode cX1_leastBloc 12 = .ok (.getfield 42, 3) := by decide +kernel
theorem dX1_leastBloc_15 : decode cX1_leastBloc 15 = .ok (.ishl, 1) := by decide +kernel
theorem dX1_leastBloc_16 : decode cX1_leastBloc 16 = .ok (.if_icmp .ge 49, 3) := by decide +kernel
theorem dX1_leastBloc_19 : decode cX1_leastBloc 19 = .ok (.iload_n 2, 1) := by decide +kernel
theorem dX1_leastBloc_20 : decode cX1_leastBloc 20 = .ok (.ifCond .eq 14, 3) := by decide +kernel
theorem dX1_leastBloc_23 : decode cX1_leastBloc 23 = .ok (.iload_n 3, 1) := by decide +kernel
theorem dX1_leastBloc_24 : decode cX1_leastBloc 24 = .ok (.invokestatic 86, 3) := by decide +kernel
theorem dX1_leastBloc_27 : decode cX1_leastBloc 27 = .ok (.iload_n 2, 1) := by decide +kernel
theorem dX1_leastBloc_28 : decode cX1_leastBloc 28 = .ok (.invokestatic 86, 3) := by decide +kernel
theorem dX1_leastBloc_31 : decode cX1_leastBloc 31 = .ok (.if_icmp .ge 7, 3) := by decide +kernel
theorem dX1_leastBloc_34 : decode cX1_leastBloc 34 = .ok (.iconst 1, 1) := by decide +kernel
theorem dX1_leastBloc_35 : decode cX1_leastBloc 35 = .ok (.goto 4, 3) := by decide +kernel
theorem dX1_leastBloc_38 : decode cX1_leastBloc 38 = .ok (.iconst 0, 1) := by decide +kernel
theorem dX1_leastBloc_39 : decode cX1_leastBloc 39 = .ok (.istore 4, 2) := by decide +kernel
theorem dX1_leastBloc_41 : decode cX1_leastBloc 41 = .ok (.iload 4, 2) := by decide +kernel
theorem dX1_leastBloc_43 : decode cX1_leastBloc 43 = .ok (.ifCond .eq 16, 3) := by decide +kernel
theorem dX1_leastBloc_46 : decode cX1_leastBloc 46 = .ok (.iconst 2, 1) := by decide +kernel
theorem dX1_leastBloc_47 : decode cX1_leastBloc 47 = .ok (.aload_n 0, 1) := by decide +kernel
theorem dX1_leastBloc_48 : decode cX1_leastBloc 48 = .ok (.iload_n 3, 1) := by decide +kernel
theorem dX1_leastBloc_49 : decode cX1_leastBloc 49 = .ok (.invokevirtual 78, 3) := by decide +kernel
theorem dX1_leastBloc_52 : decode cX1_leastBloc 52 = .ok (.imul, 1) := by decide +kernel
theorem dX1_leastBloc_53 : decode cX1_leastBloc 53 = .ok (.iload_n 1, 1) := by decide +kernel
theorem dX1_leastBloc_54 : decode cX1_leastBloc 54 = .ok (.if_icmp .le 5, 3) := by decide +kernel
theorem dX1_leastBloc_57 : decode cX1_leastBloc 57 = .ok (.iload_n 3, 1) := by decide +kernel
theorem dX1_leastBloc_58 : decode cX1_leastBloc 58 = .ok (.istore_n 2, 1) := by decide +kernel
theorem dX1_leastBloc_59 : decode cX1_leastBloc 59 = .ok (.iinc 3 1, 3) := by decide +kernel
theorem dX1_leastBloc_62 : decode cX1_leastBloc 62 = .ok (.goto (-53), 3) := by decide +kernel
theorem dX1_leastBloc_65 : decode cX1_leastBloc 65 = .ok (.iload_n 2, 1) := by decide +kernel
theorem dX1_leastBloc_66 : decode cX1_leastBloc 66 = .ok (.ireturn, 1) := by decide +kernel
theorem dX2_init_0 : decode cX2_init 0 = .ok (.aload_n 0, 1) := by decide +kernel
theorem dX2_init_1 : decode cX2_init 1 = .ok (.invokespecial 3, 3) := by decide +kernel
theorem dX2_init_4 : decode cX2_init 4 = .ok (.aload_n 0, 1) := by decide +kernel
theorem dX2_init_5 : decode cX2_init 5 = .ok (.iload_n 1, 1) := by decide +kernel
theorem dX2_init_6 : decode cX2_init 6 = .ok (.putfield 9, 3) := by decide +kernel
theorem dX2_init_9 : decode cX2_init 9 = .ok (.return_, 1) := by decide +kernel
theorem dX2_isA_0 : decode cX2_isA 0 = .ok (.iload_n 1, 1) := by decide +kernel
theorem dX2_isA_1 : decode cX2_isA 1 = .ok (.tableswitch 60 1 5 #[35, 40, 45, 50, 55], 35) := by decide +kernel
theorem dX2_isA_36 : decode cX2_isA 36 = .ok (.aload_n 0, 1) := by decide +kernel
theorem dX2_isA_37 : decode cX2_isA 37 = .ok (.instanceof 15, 3) := by decide +kernel
theorem dX2_isA_40 : decode cX2_isA 40 = .ok (.ireturn, 1) := by decide +kernel
theorem dX2_isA_41 : decode cX2_isA 41 = .ok (.aload_n 0, 1) := by decide +kernel
theorem dX2_isA_42 : decode cX2_isA 42 = .ok (.instanceof 17, 3) := by decide +kernel
theorem dX2_isA_45 : decode cX2_isA 45 = .ok (.ireturn, 1) := by decide +kernel
theorem dX2_isA_46 : decode cX2_isA 46 = .ok (.aload_n 0, 1) := by decide +kernel
theorem dX2_isA_47 : decode cX2_isA 47 = .ok (.instanceof 19, 3) := by decide +kernel
theorem dX2_isA_50 : decode cX2_isA 50 = .ok (.ireturn, 1) := by decide +kernel
theorem dX2_isA_51 : decode cX2_isA 51 = .ok (.aload_n 0, 1) := by decide +kernel
theorem dX2_isA_52 : decode cX2_isA 52 = .ok (.instanceof 21, 3) := by decide +kernel
theorem dX2_isA_55 : decode cX2_isA 55 = .ok (.ireturn, 1) := by decide +kernel
theorem dX2_isA_56 : decode cX2_isA 56 = .ok (.aload_n 0, 1) := by decide +kernel
theorem dX2_isA_57 : decode cX2_isA 57 = .ok (.instanceof 23, 3) := by decide +kernel
theorem dX2_isA_60 : decode cX2_isA 60 = .ok (.ireturn, 1) := by decide +kernel
theorem dX2_isA_61 : decode cX2_isA 61 = .ok (.iload_n 1, 1) := by decide +kernel
theorem dX2_isA_62 : decode cX2_isA 62 = .ok (.ifCond .ne 7, 3) := by decide +kernel
theorem dX2_isA_65 : decode cX2_isA 65 = .ok (.iconst 1, 1) := by decide +kernel
theorem dX2_isA_66 : decode cX2_isA 66 = .ok (.goto 4, 3) := by decide +kernel
theorem dX2_isA_69 : decode cX2_isA 69 = .ok (.iconst 0, 1) := by decide +kernel
theorem dX2_isA_70 : decode cX2_isA 70 = .ok (.ireturn, 1) := by decide +kernel
set_option maxRecDepth 20000 in
theorem ggX2_size_X10_leave : GoodIn wsX2_size wsX10_leave := goodIn_r _ [6, 7, 8, 22, 23] (by decide +kernel) (by decide +kernel)
set_option maxRecDepth 20000 in
theorem gX2_size_X10_leave : GoodIn wsX2_size (wsV RX2 25 RX10 yX10_leave wsX10_leave) := goodIn_app (goodIn_of _ (by decide +kernel)) ggX2_size_X10_leave
theorem dX2_size_0 : decode cX2_size 0 = .ok (.aload_n 3, 1) := by decide +kernel
theorem dX2_size_1 : decode cX2_size 1 = .ok (.bipush 10, 2) := by decide +kernel
theorem dX2_size_3 : decode cX2_size 3 = .ok (.invokevirtual 25, 3) := by decide +kernel
theorem dX2_size_6 : decode cX2_size 6 = .ok (.aload_n 1, 1) := by decide +kernel
theorem dX2_size_7 : decode cX2_size 7 = .ok (.getfield 31, 3) := by decide +kernel
theorem dX2_size_10 : decode cX2_size 10 = .ok (.iload_n 2, 1) := by decide +kernel
theorem dX2_size_11 : decode cX2_size 11 = .ok (.iaload, 1) := by decide +kernel
theorem dX2_size_12 : decode cX2_size 12 = .ok (.ireturn, 1) := by decide +kernel
set_option maxRecDepth 20000 in
theorem ggX2_mark_X10_leave : GoodIn wsX2_mark wsX10_leave := goodIn_r _ [5, 6, 7, 8, 9] (by decide +kernel) (by decide +kernel)
set_option maxRecDepth 20000 in
theorem gX2_mark_X10_leave : GoodIn wsX2_mark (wsV RX2 25 RX10 yX10_leave wsX10_leave) := goodIn_app (goodIn_of _ (by decide +kernel)) ggX2_mark_X10_leave
theorem dX2_mark_0 : decode cX2_mark 0 = .ok (.aload_n 3, 1) := by decide +kernel
theorem dX2_mark_1 : decode cX2_mark 1 = .ok (.bipush 20, 2) := by decide +kernel
theorem dX2_mark_3 : decode cX2_mark 3 = .ok (.invokevirtual 25, 3) := by decide +kernel
theorem dX2_mark_6 : decode cX2_mark 6 = .ok (.iload_n 2, 1) := by decide +kernel
theorem dX2_mark_7 : decode cX2_mark 7 = .ok (.ireturn, 1) := by decide +kernel
set_option maxRecDepth 20000 in
theorem ggX3_init_X4_init : GoodIn wsX3_init wsX4_init := goodIn_r _ [4, 5, 6, 7, 8, 9, 10, 11, 12, 13, 14, 15, 16, 17] (by decide +kernel) (by decide +kernel)
set_option maxRecDepth 20000 in
theorem gX3_init_X4_init : GoodIn wsX3_init (wsX4_init) := ggX3_init_X4_init
theorem dX3_init_0 : decode cX3_init 0 = .ok (.aload_n 0, 1) := by decide +kernel
theorem dX3_init_1 : decode cX3_init 1 = .ok (.iload_n 1, 1) := by decide +kernel
theorem dX3_init_2 : decode cX3_init 2 = .ok (.invokespecial 1, 3) := by decide +kernel
theorem dX3_init_5 : decode cX3_init 5 = .ok (.return_, 1) := by decide +kernel
theorem dX3_gainIn_0 : decode cX3_gainIn 0 = .ok (.iload_n 3, 1) := by decide +kernel
theorem dX3_gainIn_1 : decode cX3_gainIn 1 = .ok (.ifCond .eq 10, 3) := by decide +kernel
theorem dX3_gainIn_4 : decode cX3_gainIn 4 = .ok (.aload_n 1, 1) := by decide +kernel
theorem dX3_gainIn_5 : decode cX3_gainIn 5 = .ok (.getfield 7, 3) := by decide +kernel
theorem dX3_gainIn_8 : decode cX3_gainIn 8 = .ok (.goto 9, 3) := by decide +kernel
theorem dX3_gainIn_11 : decode cX3_gainIn 11 = .ok (.aload_n 1, 1) := by decide +kernel
theorem dX3_gainIn_12 : decode cX3_gainIn 12 = .ok (.getfield 7, 3) := by decide +kernel
theorem dX3_gainIn_15 : decode cX3_gainIn 15 = .ok (.iconst 2, 1) := by decide +kernel
theorem dX3_gainIn_16 : decode cX3_gainIn 16 = .ok (.idiv, 1) := by decide +kernel
theorem dX3_gainIn_17 : decode cX3_gainIn 17 = .ok (.ireturn, 1) := by decide +kernel
set_option maxRecDepth 20000 in
theorem ggX3_size_X10_leave : GoodIn wsX3_size wsX10_leave := goodIn_r _ [5, 6, 7, 47, 48] (by decide +kernel) (by decide +kernel)
set_option maxRecDepth 20000 in
theorem gX3_size_X10_leave : GoodIn wsX3_size (wsV RX3 13 RX10 yX10_leave wsX10_leave) := goodIn_app (goodIn_of _ (by decide +kernel)) ggX3_size_X10_leave
set_option maxRecDepth 20000 in
theorem ggX3_size_X4_size : GoodIn wsX3_size wsX4_size := goodIn_r _ [13, 14, 2, 3, 4, 5, 6, 7, 15, 16, 17, 18, 19, 20, 21, 22, 23, 24, 25, 26, 27, 28, 29, 1, 30, 10, 31, 12, 32, 33, 34, 35, 36, 37, 38, 39, 40, 41, 42, 43, 44, 45, 46, 47, 48, 49, 50, 51, 52, 53, 54, 55, 56, 57, 58, 59, 60, 61] (by decide +kernel) (by decide +kernel)
set_option maxRecDepth 20000 in
theorem gX3_size_X4_size_s18 : GoodIn wsX3_size (va_wsSU RX3 18 yX4_size wsX4_size) := goodIn_app (goodIn_of _ (by decide +kernel)) ggX3_size_X4_size
theorem dX3_size_0 : decode cX3_size 0 = .ok (.aload_n 3, 1) := by decide +kernel
theorem dX3_size_1 : decode cX3_size 1 = .ok (.bipush 12, 2) := by decide +kernel
theorem dX3_size_3 : decode cX3_size 3 = .ok (.invokevirtual 13, 3) := by decide +kernel
theorem dX3_size_6 : decode cX3_size 6 = .ok (.aload_n 0, 1) := by decide +kernel
theorem dX3_size_7 : decode cX3_size 7 = .ok (.aload_n 1, 1) := by decide +kernel
theorem dX3_size_8 : decode cX3_size 8 = .ok (.iload_n 2, 1) := by decide +kernel
theorem dX3_size_9 : decode cX3_size 9 = .ok (.aload_n 3, 1) := by decide +kernel
theorem dX3_size_10 : decode cX3_size 10 = .ok (.invokespecial 18, 3) := by decide +kernel
theorem dX3_size_13 : decode cX3_size 13 = .ok (.ineg, 1) := by decide +kernel
theorem dX3_size_14 : decode cX3_size 14 = .ok (.ireturn, 1) := by decide +kernel
set_option maxRecDepth 20000 in
theorem ggX3_mark_X10_leave : GoodIn wsX3_mark wsX10_leave := goodIn_r _ [5, 6, 7, 23, 24] (by decide +kernel) (by decide +kernel)
set_option maxRecDepth 20000 in
theorem gX3_mark_X10_leave : GoodIn wsX3_mark (wsV RX3 13 RX10 yX10_leave wsX10_leave) := goodIn_app (goodIn_of _ (by decide +kernel)) ggX3_mark_X10_leave
set_option maxRecDepth 20000 in
theorem ggX3_mark_X4_mark : GoodIn wsX3_mark wsX4_mark := goodIn_r _ [13, 14, 15, 2, 3, 4, 5, 6, 7, 16, 17, 18, 19, 20, 21, 22, 25, 26, 27, 28, 29, 30, 31, 32, 33, 34, 35, 36, 37, 23, 24] (by decide +kernel) (by decide +kernel)
set_option maxRecDepth 20000 in
theorem gX3_mark_X4_mark_s22 : GoodIn wsX3_mark (va_wsSU RX3 22 yX4_mark wsX4_mark) := goodIn_app (goodIn_of _ (by decide +kernel)) ggX3_mark_X4_mark
theorem dX3_mark_0 : decode cX3_mark 0 = .ok (.aload_n 3, 1) := by decide +kernel
theorem dX3_mark_1 : decode cX3_mark 1 = .ok (.bipush 24, 2) := by decide +kernel
theorem dX3_mark_3 : decode cX3_mark 3 = .ok (.invokevirtual 13, 3) := by decide +kernel
theorem dX3_mark_6 : decode cX3_mark 6 = .ok (.iconst 2, 1) := by decide +kernel
theorem dX3_mark_7 : decode cX3_mark 7 = .ok (.aload_n 0, 1) := by decide +kernel
theorem dX3_mark_8 : decode cX3_mark 8 = .ok (.aload_n 1, 1) := by decide +kernel
theorem dX3_mark_9 : decode cX3_mark 9 = .ok (.iload_n 2, 1) := by decide +kernel
theorem dX3_mark_10 : decode cX3_mark 10 = .ok (.aload_n 3, 1) := by decide +kernel
theorem dX3_mark_11 : decode cX3_mark 11 = .ok (.invokespecial 22, 3) := by decide +kernel
theorem dX3_mark_14 : decode cX3_mark 14 = .ok (.imul, 1) := by decide +kernel
theorem dX3_mark_15 : decode cX3_mark 15 = .ok (.ireturn, 1) := by decide +kernel
set_option maxRecDepth 20000 in
theorem ggX4_init_X2_init : GoodIn wsX4_init wsX2_init := goodIn_r _ [4, 5, 6, 7, 8, 9, 10, 11, 12, 13] (by decide +kernel) (by decide +kernel)
set_option maxRecDepth 20000 in
theorem gX4_init_X2_init : GoodIn wsX4_init (wsX2_init) := ggX4_init_X2_init
theorem dX4_init_0 : decode cX4_init 0 = .ok (.aload_n 0, 1) := by decide +kernel
theorem dX4_init_1 : decode cX4_init 1 = .ok (.iload_n 1, 1) := by decide +kernel
theorem dX4_init_2 : decode cX4_init 2 = .ok (.invokespecial 1, 3) := by decide +kernel
theorem dX4_init_5 : decode cX4_init 5 = .ok (.return_, 1) := by decide +kernel
theorem dX4_gainIn_0 : decode cX4_gainIn 0 = .ok (.aload_n 1, 1) := by decide +kernel
theorem dX4_gainIn_1 : decode cX4_gainIn 1 = .ok (.getfield 7, 3) := by decide +kernel
theorem dX4_gainIn_4 : decode cX4_gainIn 4 = .ok (.ireturn, 1) := by decide +kernel
set_option maxRecDepth 20000 in
theorem ggX4_size_X10_leave : GoodIn wsX4_size wsX10_leave := goodIn_r _ [5, 6, 7, 43, 44] (by decide +kernel) (by decide +kernel)
set_option maxRecDepth 20000 in
theorem gX4_size_X10_leave : GoodIn wsX4_size (wsV RX4 13 RX10 yX10_leave wsX10_leave) := goodIn_app (goodIn_of _ (by decide +kernel)) ggX4_size_X10_leave
set_option maxRecDepth 20000 in
theorem ggX4_size_X2_size : GoodIn wsX4_size wsX2_size := goodIn_r _ [13, 14, 15, 2, 3, 4, 5, 6, 7, 45, 46, 47, 48, 49, 50, 51, 52, 53, 54, 55, 56, 57, 43, 44] (by decide +kernel) (by decide +kernel)
set_option maxRecDepth 20000 in
theorem gX4_size_X2_size_s18 : GoodIn wsX4_size (va_wsSU RX4 18 yX2_size wsX2_size) := goodIn_app (goodIn_of _ (by decide +kernel)) ggX4_size_X2_size
set_option maxRecDepth 20000 in
theorem ggX4_size_X3_mark : GoodIn wsX4_size wsX3_mark := goodIn_r _ [22, 23, 2, 3, 4, 5, 6, 7, 24, 17, 25, 26, 27, 28, 29, 1, 30, 31, 10, 32, 12, 33, 15, 43, 44, 45, 46, 47, 48, 49, 50, 51, 52, 53, 54, 55, 56, 57] (by decide +kernel) (by decide +kernel)
set_option maxRecDepth 20000 in
theorem gX4_size_X3_mark_u22X3 : GoodIn wsX4_size (va_wsO RX4 22 RX3 "TurnipSquires$Plain" ⟨"TurnipSquires$Plain", "mark", "(LTurnipSquires$Field;ILTurnipSquires$Trace;)I"⟩ yX3_mark wsX3_mark) := goodIn_app (goodIn_of _ (by decide +kernel)) ggX4_size_X3_mark
set_option maxRecDepth 20000 in
theorem ggX4_size_X4_mark : GoodIn wsX4_size wsX4_mark := goodIn_r _ [28, 29, 1, 2, 3, 4, 5, 6, 7, 30, 31, 10, 32, 12, 33, 15, 45, 46, 47, 48, 49, 50, 51, 52, 53, 54, 55, 56, 57, 43, 44] (by decide +kernel) (by decide +kernel)
set_option maxRecDepth 20000 in
theorem gX4_size_X4_mark : GoodIn wsX4_size (wsV RX4 22 RX4 yX4_mark wsX4_mark) := goodIn_app (goodIn_of _ (by decide +kernel)) ggX4_size_X4_mark
set_option maxRecDepth 20000 in
theorem ggX4_size_X5_mark : GoodIn wsX4_size wsX5_mark := goodIn_r _ [39, 40, 2, 3, 4, 5, 6, 7, 41, 17, 42, 26, 27, 28, 29, 1, 30, 31, 10, 32, 12, 33, 15, 43, 44, 45, 46, 47, 48, 49, 50, 51, 52, 53, 54, 55, 56, 57] (by decide +kernel) (by decide +kernel)
set_option maxRecDepth 20000 in
theorem gX4_size_X5_mark_u22X5 : GoodIn wsX4_size (va_wsO RX4 22 RX5 "TurnipSquires$Plain" ⟨"TurnipSquires$Plain", "mark", "(LTurnipSquires$Field;ILTurnipSquires$Trace;)I"⟩ yX5_mark wsX5_mark) := goodIn_app (goodIn_of _ (by decide +kernel)) ggX4_size_X5_mark
theorem dX4_size_0 : decode cX4_size 0 = .ok (.aload_n 3, 1) := by decide +kernel
theorem dX4_size_1 : decode cX4_size 1 = .ok (.bipush 11, 2) := by decide +kernel
theorem dX4_size_3 : decode cX4_size 3 = .ok (.invokevirtual 13, 3) := by decide +kernel
theorem dX4_size_6 : decode cX4_size 6 = .ok (.aload_n 0, 1) := by decide +kernel
theorem dX4_size_7 : decode cX4_size 7 = .ok (.aload_n 1, 1) := by decide +kernel
theorem dX4_size_8 : decode cX4_size 8 = .ok (.iload_n 2, 1) := by decide +kernel
theorem dX4_size_9 : decode cX4_size 9 = .ok (.aload_n 3, 1) := by decide +kernel
theorem dX4_size_10 : decode cX4_size 10 = .ok (.invokespecial 18, 3) := by decide +kernel
theorem dX4_size_13 : decode cX4_size 13 = .ok (.istore 4, 2) := by decide +kernel
theorem dX4_size_15 : decode cX4_size 15 = .ok (.iload 4, 2) := by decide +kernel
theorem dX4_size_17 : decode cX4_size 17 = .ok (.aload_n 0, 1) := by decide +kernel
theorem dX4_size_18 : decode cX4_size 18 = .ok (.aload_n 1, 1) := by decide +kernel
theorem dX4_size_19 : decode cX4_size 19 = .ok (.iload_n 2, 1) := by decide +kernel
theorem dX4_size_20 : decode cX4_size 20 = .ok (.aload_n 3, 1) := by decide +kernel
theorem dX4_size_21 : decode cX4_size 21 = .ok (.invokevirtual 22, 3) := by decide +kernel
theorem dX4_size_24 : decode cX4_size 24 = .ok (.iadd, 1) := by decide +kernel
theorem dX4_size_25 : decode cX4_size 25 = .ok (.ireturn, 1) := by decide +kernel
set_option maxRecDepth 20000 in
theorem ggX4_mark_X10_leave : GoodIn wsX4_mark wsX10_leave := goodIn_r _ [6, 7, 8, 29, 30] (by decide +kernel) (by decide +kernel)
set_option maxRecDepth 20000 in
theorem gX4_mark_X10_leave : GoodIn wsX4_mark (wsV RX4 13 RX10 yX10_leave wsX10_leave) := goodIn_app (goodIn_of _ (by decide +kernel)) ggX4_mark_X10_leave
set_option maxRecDepth 20000 in
theorem ggX4_mark_X2_mark : GoodIn wsX4_mark wsX2_mark := goodIn_r _ [14, 15, 3, 4, 5, 6, 7, 8, 29, 30] (by decide +kernel) (by decide +kernel)
set_option maxRecDepth 20000 in
theorem gX4_mark_X2_mark_s27 : GoodIn wsX4_mark (va_wsSU RX4 27 yX2_mark wsX2_mark) := goodIn_app (goodIn_of _ (by decide +kernel)) ggX4_mark_X2_mark
theorem dX4_mark_0 : decode cX4_mark 0 = .ok (.aload_n 3, 1) := by decide +kernel
theorem dX4_mark_1 : decode cX4_mark 1 = .ok (.bipush 21, 2) := by decide +kernel
theorem dX4_mark_3 : decode cX4_mark 3 = .ok (.invokevirtual 13, 3) := by decide +kernel
theorem dX4_mark_6 : decode cX4_mark 6 = .ok (.aload_n 0, 1) := by decide +kernel
theorem dX4_mark_7 : decode cX4_mark 7 = .ok (.aload_n 1, 1) := by decide +kernel
theorem dX4_mark_8 : decode cX4_mark 8 = .ok (.iload_n 2, 1) := by decide +kernel
theorem dX4_mark_9 : decode cX4_mark 9 = .ok (.aload_n 3, 1) := by decide +kernel
theorem dX4_mark_10 : decode cX4_mark 10 = .ok (.invokespecial 27, 3) := by decide +kernel
theorem dX4_mark_13 : decode cX4_mark 13 = .ok (.aload_n 1, 1) := by decide +kernel
theorem dX4_mark_14 : decode cX4_mark 14 = .ok (.getfield 28, 3) := by decide +kernel
theorem dX4_mark_17 : decode cX4_mark 17 = .ok (.iload_n 2, 1) := by decide +kernel
theorem dX4_mark_18 : decode cX4_mark 18 = .ok (.iaload, 1) := by decide +kernel
theorem dX4_mark_19 : decode cX4_mark 19 = .ok (.iadd, 1) := by decide +kernel
theorem dX4_mark_20 : decode cX4_mark 20 = .ok (.ireturn, 1) := by decide +kernel
set_option maxRecDepth 20000 in
theorem ggX5_init_X4_init : GoodIn wsX5_init wsX4_init := goodIn_r _ [4, 5, 6, 7, 8, 9, 10, 11, 12, 13, 14, 15, 16, 17] (by decide +kernel) (by decide +kernel)
set_option maxRecDepth 20000 in
theorem gX5_init_X4_init : GoodIn wsX5_init (wsX4_init) := ggX5_init_X4_init
theorem dX5_init_0 : decode cX5_init 0 = .ok (.aload_n 0, 1) := by decide +kernel
theorem dX5_init_1 : decode cX5_init 1 = .ok (.iload_n 1, 1) := by decide +kernel
theorem dX5_init_2 : decode cX5_init 2 = .ok (.invokespecial 1, 3) := by decide +kernel
theorem dX5_init_5 : decode cX5_init 5 = .ok (.return_, 1) := by decide +kernel
set_option maxRecDepth 20000 in
theorem ggX5_gainIn_J6_bitCount_0f7a4 : GoodIn wsX5_gainIn wsJ6_bitCount_0f7a4 := goodIn_r _ [6, 7, 8, 9] (by decide +kernel) (by decide +kernel)
set_option maxRecDepth 20000 in
theorem gX5_gainIn_J6_bitCount_0f7a4 : GoodIn wsX5_gainIn (va_wsS RX5 17 yJ6_bitCount_0f7a4 wsJ6_bitCount_0f7a4) := goodIn_app (goodIn_of _ (by decide +kernel)) ggX5_gainIn_J6_bitCount_0f7a4
theorem dX5_gainIn_0 : decode cX5_gainIn 0 = .ok (.aload_n 1, 1) := by decide +kernel
theorem dX5_gainIn_1 : decode cX5_gainIn 1 = .ok (.getfield 7, 3) := by decide +kernel
theorem dX5_gainIn_4 : decode cX5_gainIn 4 = .ok (.aload_n 1, 1) := by decide +kernel
theorem dX5_gainIn_5 : decode cX5_gainIn 5 = .ok (.getfield 13, 3) := by decide +kernel
theorem dX5_gainIn_8 : decode cX5_gainIn 8 = .ok (.iload_n 2, 1) := by decide +kernel
theorem dX5_gainIn_9 : decode cX5_gainIn 9 = .ok (.iaload, 1) := by decide +kernel
theorem dX5_gainIn_10 : decode cX5_gainIn 10 = .ok (.invokestatic 17, 3) := by decide +kernel
theorem dX5_gainIn_13 : decode cX5_gainIn 13 = .ok (.iadd, 1) := by decide +kernel
theorem dX5_gainIn_14 : decode cX5_gainIn 14 = .ok (.ireturn, 1) := by decide +kernel
set_option maxRecDepth 20000 in
theorem ggX5_mark_X10_leave : GoodIn wsX5_mark wsX10_leave := goodIn_r _ [5, 6, 7, 23, 24] (by decide +kernel) (by decide +kernel)
set_option maxRecDepth 20000 in
theorem gX5_mark_X10_leave : GoodIn wsX5_mark (wsV RX5 23 RX10 yX10_leave wsX10_leave) := goodIn_app (goodIn_of _ (by decide +kernel)) ggX5_mark_X10_leave
set_option maxRecDepth 20000 in
theorem ggX5_mark_X4_mark : GoodIn wsX5_mark wsX4_mark := goodIn_r _ [13, 14, 15, 2, 3, 4, 5, 6, 7, 16, 17, 18, 19, 20, 21, 22, 25, 26, 27, 28, 29, 30, 31, 32, 33, 34, 35, 36, 37, 23, 24] (by decide +kernel) (by decide +kernel)
set_option maxRecDepth 20000 in
theorem gX5_mark_X4_mark_s28 : GoodIn wsX5_mark (va_wsSU RX5 28 yX4_mark wsX4_mark) := goodIn_app (goodIn_of _ (by decide +kernel)) ggX5_mark_X4_mark
theorem dX5_mark_0 : decode cX5_mark 0 = .ok (.aload_n 3, 1) := by decide +kernel
theorem dX5_mark_1 : decode cX5_mark 1 = .ok (.bipush 22, 2) := by decide +kernel
theorem dX5_mark_3 : decode cX5_mark 3 = .ok (.invokevirtual 23, 3) := by decide +kernel
theorem dX5_mark_6 : decode cX5_mark 6 = .ok (.aload_n 0, 1) := by decide +kernel
theorem dX5_mark_7 : decode cX5_mark 7 = .ok (.aload_n 1, 1) := by decide +kernel
theorem dX5_mark_8 : decode cX5_mark 8 = .ok (.iload_n 2, 1) := by decide +kernel
theorem dX5_mark_9 : decode cX5_mark 9 = .ok (.aload_n 3, 1) := by decide +kernel
theorem dX5_mark_10 : decode cX5_mark 10 = .ok (.invokespecial 28, 3) := by decide +kernel
theorem dX5_mark_13 : decode cX5_mark 13 = .ok (.sipush 1000, 3) := by decide +kernel
theorem dX5_mark_16 : decode cX5_mark 16 = .ok (.isub, 1) := by decide +kernel
theorem dX5_mark_17 : decode cX5_mark 17 = .ok (.ireturn, 1) := by decide +kernel
theorem dX6_init_0 : decode cX6_init 0 = .ok (.aload_n 0, 1) := by decide +kernel
theorem dX6_init_1 : decode cX6_init 1 = .ok (.invokespecial 3, 3) := by decide +kernel
theorem dX6_init_4 : decode cX6_init 4 = .ok (.aload_n 0, 1) := by decide +kernel
theorem dX6_init_5 : decode cX6_init 5 = .ok (.bipush 40, 2) := by decide +kernel
theorem dX6_init_7 : decode cX6_init 7 = .ok (.newarray .int, 2) := by decide +kernel
theorem dX6_init_9 : decode cX6_init 9 = .ok (.putfield 9, 3) := by decide +kernel
theorem dX6_init_12 : decode cX6_init 12 = .ok (.return_, 1) := by decide +kernel
set_option maxRecDepth 20000 in
theorem ggX6_begin_J7_fill_53178 : GoodIn wsX6_begin wsJ7_fill_53178 := goodIn_r _ [8] (by decide +kernel) (by decide +kernel)
set_option maxRecDepth 20000 in
theorem gX6_begin_J7_fill_53178 : GoodIn wsX6_begin (va_wsS RX6 26 yJ7_fill_53178 wsJ7_fill_53178) := goodIn_app (goodIn_of _ (by decide +kernel)) ggX6_begin_J7_fill_53178
theorem dX6_begin_0 : decode cX6_begin 0 = .ok (.aload_n 0, 1) := by decide +kernel
theorem dX6_begin_1 : decode cX6_begin 1 = .ok (.iconst 1, 1) := by decide +kernel
theorem dX6_begin_2 : decode cX6_begin 2 = .ok (.putfield 15, 3) := by decide +kernel
theorem dX6_begin_5 : decode cX6_begin 5 = .ok (.aload_n 0, 1) := by decide +kernel
theorem dX6_begin_6 : decode cX6_begin 6 = .ok (.iload_n 1, 1) := by decide +kernel
theorem dX6_begin_7 : decode cX6_begin 7 = .ok (.putfield 19, 3) := by decide +kernel
theorem dX6_begin_10 : decode cX6_begin 10 = .ok (.aload_n 0, 1) := by decide +kernel
theorem dX6_begin_11 : decode cX6_begin 11 = .ok (.iload_n 2, 1) := by decide +kernel
theorem dX6_begin_12 : decode cX6_begin 12 = .ok (.putfield 23, 3) := by decide +kernel
theorem dX6_begin_15 : decode cX6_begin 15 = .ok (.aload_n 0, 1) := by decide +kernel
theorem dX6_begin_16 : decode cX6_begin 16 = .ok (.getfield 9, 3) := by decide +kernel
theorem dX6_begin_19 : decode cX6_begin 19 = .ok (.iconst 0, 1) := by decide +kernel
theorem dX6_begin_20 : decode cX6_begin 20 = .ok (.invokestatic 26, 3) := by decide +kernel
theorem dX6_begin_23 : decode cX6_begin 23 = .ok (.return_, 1) := by decide +kernel
theorem dX6_has_0 : decode cX6_has 0 = .ok (.iload_n 1, 1) := by decide +kernel
theorem dX6_has_1 : decode cX6_has 1 = .ok (.ifCond .lt 29, 3) := by decide +kernel
theorem dX6_has_4 : decode cX6_has 4 = .ok (.iload_n 2, 1) := by decide +kernel
theorem dX6_has_5 : decode cX6_has 5 = .ok (.ifCond .lt 25, 3) := by decide +kernel
theorem dX6_has_8 : decode cX6_has 8 = .ok (.iload_n 1, 1) := by decide +kernel
theorem dX6_has_9 : decode cX6_has 9 = .ok (.aload_n 0, 1) := by decide +kernel
theorem dX6_has_10 : decode cX6_has 10 = .ok (.getfield 23, 3) := by decide +kernel
theorem dX6_has_13 : decode cX6_has 13 = .ok (.if_icmp .gt 17, 3) := by decide +kernel
theorem dX6_has_16 : decode cX6_has 16 = .ok (.iload_n 2, 1) := by decide +kernel
theorem dX6_has_17 : decode cX6_has 17 = .ok (.aload_n 0, 1) := by decide +kernel
theorem dX6_has_18 : decode cX6_has 18 = .ok (.getfield 23, 3) := by decide +kernel
theorem dX6_has_21 : decode cX6_has 21 = .ok (.iload_n 1, 1) := by decide +kernel
theorem dX6_has_22 : decode cX6_has 22 = .ok (.isub, 1) := by decide +kernel
theorem dX6_has_23 : decode cX6_has 23 = .ok (.if_icmp .gt 7, 3) := by decide +kernel
theorem dX6_has_26 : decode cX6_has 26 = .ok (.iconst 1, 1) := by decide +kernel
theorem dX6_has_27 : decode cX6_has 27 = .ok (.goto 4, 3) := by decide +kernel
theorem dX6_has_30 : decode cX6_has 30 = .ok (.iconst 0, 1) := by decide +kernel
theorem dX6_has_31 : decode cX6_has 31 = .ok (.ireturn, 1) := by decide +kernel
theorem dX6_narrowed_0 : decode cX6_narrowed 0 = .ok (.aload_n 0, 1) := by decide +kernel
theorem dX6_narrowed_1 : decode cX6_narrowed 1 = .ok (.getfield 19, 3) := by decide +kernel
theorem dX6_narrowed_4 : decode cX6_narrowed 4 = .ok (.lookupswitch 34 #[(0, 28), (1, 31)], 28) := by decide +kernel
theorem dX6_narrowed_32 : decode cX6_narrowed 32 = .ok (.iload_n 1, 1) := by decide +kernel
theorem dX6_narrowed_33 : decode cX6_narrowed 33 = .ok (.i2b, 1) := by decide +kernel
theorem dX6_narrowed_34 : decode cX6_narrowed 34 = .ok (.ireturn, 1) := by decide +kernel
theorem dX6_narrowed_35 : decode cX6_narrowed 35 = .ok (.iload_n 1, 1) := by decide +kernel
theorem dX6_narrowed_36 : decode cX6_narrowed 36 = .ok (.i2s, 1) := by decide +kernel
theorem dX6_narrowed_37 : decode cX6_narrowed 37 = .ok (.ireturn, 1) := by decide +kernel
theorem dX6_narrowed_38 : decode cX6_narrowed 38 = .ok (.iload_n 1, 1) := by decide +kernel
theorem dX6_narrowed_39 : decode cX6_narrowed 39 = .ok (.ireturn, 1) := by decide +kernel
set_option maxRecDepth 20000 in
theorem ggX7_init_X1_init : GoodIn wsX7_init wsX1_init := goodIn_r _ [16, 17, 2, 3, 18, 19, 6, 20, 21, 22, 23, 24, 25, 26, 27, 36, 37, 38, 39, 40, 41, 42, 43, 44, 45, 46, 47, 48] (by decide +kernel) (by decide +kernel)
set_option maxRecDepth 20000 in
theorem gX7_init_X1_init : GoodIn wsX7_init (wsX1_init) := ggX7_init_X1_init
theorem dX7_init_0 : decode cX7_init 0 = .ok (.aload_n 0, 1) := by decide +kernel
theorem dX7_init_1 : decode cX7_init 1 = .ok (.invokespecial 3, 3) := by decide +kernel
theorem dX7_init_4 : decode cX7_init 4 = .ok (.aload_n 0, 1) := by decide +kernel
theorem dX7_init_5 : decode cX7_init 5 = .ok (.bipush 9, 2) := by decide +kernel
theorem dX7_init_7 : decode cX7_init 7 = .ok (.anewarray 9, 3) := by decide +kernel
theorem dX7_init_10 : decode cX7_init 10 = .ok (.putfield 11, 3) := by decide +kernel
theorem dX7_init_13 : decode cX7_init 13 = .ok (.aload_n 0, 1) := by decide +kernel
theorem dX7_init_14 : decode cX7_init 14 = .ok (.bipush 7, 2) := by decide +kernel
theorem dX7_init_16 : decode cX7_init 16 = .ok (.newarray .int, 2) := by decide +kernel
theorem dX7_init_18 : decode cX7_init 18 = .ok (.putfield 17, 3) := by decide +kernel
theorem dX7_init_21 : decode cX7_init 21 = .ok (.aload_n 0, 1) := by decide +kernel
theorem dX7_init_22 : decode cX7_init 22 = .ok (.bipush 7, 2) := by decide +kernel
theorem dX7_init_24 : decode cX7_init 24 = .ok (.newarray .int, 2) := by decide +kernel
theorem dX7_init_26 : decode cX7_init 26 = .ok (.putfield 21, 3) := by decide +kernel
theorem dX7_init_29 : decode cX7_init 29 = .ok (.aload_n 0, 1) := by decide +kernel
theorem dX7_init_30 : decode cX7_init 30 = .ok (.aload_n 1, 1) := by decide +kernel
theorem dX7_init_31 : decode cX7_init 31 = .ok (.putfield 24, 3) := by decide +kernel
theorem dX7_init_34 : decode cX7_init 34 = .ok (.aload_n 0, 1) := by decide +kernel
theorem dX7_init_35 : decode cX7_init 35 = .ok (.aload_n 2, 1) := by decide +kernel
theorem dX7_init_36 : decode cX7_init 36 = .ok (.putfield 28, 3) := by decide +kernel
theorem dX7_init_39 : decode cX7_init 39 = .ok (.iconst 0, 1) := by decide +kernel
theorem dX7_init_40 : decode cX7_init 40 = .ok (.istore_n 3, 1) := by decide +kernel
theorem dX7_init_41 : decode cX7_init 41 = .ok (.iload_n 3, 1) := by decide +kernel
theorem dX7_init_42 : decode cX7_init 42 = .ok (.bipush 8, 2) := by decide +kernel
theorem dX7_init_44 : decode cX7_init 44 = .ok (.if_icmp .gt 25, 3) := by decide +kernel
theorem dX7_init_47 : decode cX7_init 47 = .ok (.aload_n 0, 1) := by decide +kernel
theorem dX7_init_48 : decode cX7_init 48 = .ok (.getfield 11, 3) := by decide +kernel
theorem dX7_init_51 : decode cX7_init 51 = .ok (.iload_n 3, 1) := by decide +kernel
theorem dX7_init_52 : decode cX7_init 52 = .ok (.new 9, 3) := by decide +kernel
theorem dX7_init_55 : decode cX7_init 55 = .ok (.dup, 1) := by decide +kernel
theorem dX7_init_56 : decode cX7_init 56 = .ok (.aload_n 2, 1) := by decide +kernel
theorem dX7_init_57 : decode cX7_init 57 = .ok (.iconst 1, 1) := by decide +kernel
theorem dX7_init_58 : decode cX7_init 58 = .ok (.aaload, 1) := by decide +kernel
theorem dX7_init_59 : decode cX7_init 59 = .ok (.invokespecial 32, 3) := by decide +kernel
theorem dX7_init_62 : decode cX7_init 62 = .ok (.aastore, 1) := by decide +kernel
theorem dX7_init_63 : decode cX7_init 63 = .ok (.iinc 3 1, 3) := by decide +kernel
theorem dX7_init_66 : decode cX7_init 66 = .ok (.goto (-25), 3) := by decide +kernel
theorem dX7_init_69 : decode cX7_init 69 = .ok (.aload_n 0, 1) := by decide +kernel
theorem dX7_init_70 : decode cX7_init 70 = .ok (.aload_n 0, 1) := by decide +kernel
theorem dX7_init_71 : decode cX7_init 71 = .ok (.getfield 11, 3) := by decide +kernel
theorem dX7_init_74 : decode cX7_init 74 = .ok (.bipush 8, 2) := by decide +kernel
theorem dX7_init_76 : decode cX7_init 76 = .ok (.aaload, 1) := by decide +kernel
theorem dX7_init_77 : decode cX7_init 77 = .ok (.putfield 35, 3) := by decide +kernel
theorem dX7_init_80 : decode cX7_init 80 = .ok (.return_, 1) := by decide +kernel
set_option maxRecDepth 20000 in
theorem ggX7_afterYears_X1_become : GoodIn wsX7_afterYears wsX1_become := goodIn_r _ [7, 8, 9, 10, 11, 12, 13, 14, 15, 16, 17, 18, 19, 20, 21, 22, 93, 94, 95, 96, 97, 98, 99, 100, 101, 102, 103, 104, 105] (by decide +kernel) (by decide +kernel)
set_option maxRecDepth 20000 in
theorem gX7_afterYears_X1_become : GoodIn wsX7_afterYears (wsV RX7 38 RX1 yX1_become wsX1_become) := goodIn_app (goodIn_of _ (by decide +kernel)) ggX7_afterYears_X1_become
set_option maxRecDepth 20000 in
theorem ggX7_afterYears_X1_hasFrost : GoodIn wsX7_afterYears wsX1_hasFrost := goodIn_r _ [26, 11, 9, 93, 94, 95, 96, 97, 98, 99, 100, 101, 102, 103, 104, 105] (by decide +kernel) (by decide +kernel)
set_option maxRecDepth 20000 in
theorem gX7_afterYears_X1_hasFrost : GoodIn wsX7_afterYears (wsV RX7 42 RX1 yX1_hasFrost wsX1_hasFrost) := goodIn_app (goodIn_of _ (by decide +kernel)) ggX7_afterYears_X1_hasFrost
set_option maxRecDepth 20000 in
theorem ggX7_afterYears_X1_pass : GoodIn wsX7_afterYears wsX1_pass := goodIn_r _ [30, 8, 18, 31, 13, 32, 33, 34, 35, 9, 36, 37, 38, 6, 39, 12, 20, 40, 19, 41, 42, 43, 44, 22, 45, 46, 47, 48, 49, 50, 51, 52, 53, 54, 55, 56, 57, 58, 59, 60, 61, 62, 63, 64, 65, 66, 67, 68, 69, 70, 71, 72, 73, 74, 75, 76, 77, 78, 79, 80, 81, 82, 83, 84, 93, 94, 95, 96, 97, 98, 99, 100, 101, 102, 103, 104, 105] (by decide +kernel) (by decide +kernel)
set_option maxRecDepth 20000 in
theorem gX7_afterYears_X1_pass : GoodIn wsX7_afterYears (wsV RX7 46 RX1 yX1_pass wsX1_pass) := goodIn_app (goodIn_of _ (by decide +kernel)) ggX7_afterYears_X1_pass
theorem dX7_afterYears_0 : decode cX7_afterYears 0 = .ok (.aload_n 0, 1) := by decide +kernel
theorem dX7_afterYears_1 : decode cX7_afterYears 1 = .ok (.getfield 35, 3) := by decide +kernel
theorem dX7_afterYears_4 : decode cX7_afterYears 4 = .ok (.aload_n 0, 1) := by decide +kernel
theorem dX7_afterYears_5 : decode cX7_afterYears 5 = .ok (.getfield 24, 3) := by decide +kernel
theorem dX7_afterYears_8 : decode cX7_afterYears 8 = .ok (.invokevirtual 38, 3) := by decide +kernel
theorem dX7_afterYears_11 : decode cX7_afterYears 11 = .ok (.iconst 0, 1) := by decide +kernel
theorem dX7_afterYears_12 : decode cX7_afterYears 12 = .ok (.istore_n 2, 1) := by decide +kernel
theorem dX7_afterYears_13 : decode cX7_afterYears 13 = .ok (.iload_n 2, 1) := by decide +kernel
theorem dX7_afterYears_14 : decode cX7_afterYears 14 = .ok (.iload_n 1, 1) := by decide +kernel
theorem dX7_afterYears_15 : decode cX7_afterYears 15 = .ok (.if_icmp .ge 23, 3) := by decide +kernel
theorem dX7_afterYears_18 : decode cX7_afterYears 18 = .ok (.aload_n 0, 1) := by decide +kernel
theorem dX7_afterYears_19 : decode cX7_afterYears 19 = .ok (.getfield 35, 3) := by decide +kernel
theorem dX7_afterYears_22 : decode cX7_afterYears 22 = .ok (.aload_n 0, 1) := by decide +kernel
theorem dX7_afterYears_23 : decode cX7_afterYears 23 = .ok (.getfield 35, 3) := by decide +kernel
theorem dX7_afterYears_26 : decode cX7_afterYears 26 = .ok (.invokevirtual 42, 3) := by decide +kernel
theorem dX7_afterYears_29 : decode cX7_afterYears 29 = .ok (.invokevirtual 46, 3) := by decide +kernel
theorem dX7_afterYears_32 : decode cX7_afterYears 32 = .ok (.iinc 2 1, 3) := by decide +kernel
theorem dX7_afterYears_35 : decode cX7_afterYears 35 = .ok (.goto (-22), 3) := by decide +kernel
theorem dX7_afterYears_38 : decode cX7_afterYears 38 = .ok (.aload_n 0, 1) := by decide +kernel
theorem dX7_afterYears_39 : decode cX7_afterYears 39 = .ok (.getfield 35, 3) := by decide +kernel
theorem dX7_afterYears_42 : decode cX7_afterYears 42 = .ok (.areturn, 1) := by decide +kernel
set_option maxRecDepth 20000 in
theorem ggX7_yearsUntil_X1_become : GoodIn wsX7_yearsUntil wsX1_become := goodIn_r _ [9, 10, 11, 12, 13, 14, 15, 16, 17, 18, 19, 20, 21, 22, 23, 24, 95, 96, 97, 98, 99, 100, 101, 102, 103, 104, 105, 106, 107] (by decide +kernel) (by decide +kernel)
set_option maxRecDepth 20000 in
theorem gX7_yearsUntil_X1_become : GoodIn wsX7_yearsUntil (wsV RX7 38 RX1 yX1_become wsX1_become) := goodIn_app (goodIn_of _ (by decide +kernel)) ggX7_yearsUntil_X1_become
set_option maxRecDepth 20000 in
theorem ggX7_yearsUntil_X1_hasFrost : GoodIn wsX7_yearsUntil wsX1_hasFrost := goodIn_r _ [28, 13, 11, 95, 96, 97, 98, 99, 100, 101, 102, 103, 104, 105, 106, 107] (by decide +kernel) (by decide +kernel)
set_option maxRecDepth 20000 in
theorem gX7_yearsUntil_X1_hasFrost : GoodIn wsX7_yearsUntil (wsV RX7 42 RX1 yX1_hasFrost wsX1_hasFrost) := goodIn_app (goodIn_of _ (by decide +kernel)) ggX7_yearsUntil_X1_hasFrost
set_option maxRecDepth 20000 in
theorem ggX7_yearsUntil_X1_pass : GoodIn wsX7_yearsUntil wsX1_pass := goodIn_r _ [32, 10, 20, 33, 15, 34, 35, 36, 37, 11, 38, 39, 40, 8, 41, 14, 22, 42, 21, 43, 44, 45, 46, 24, 47, 48, 49, 50, 51, 52, 53, 54, 55, 56, 57, 58, 59, 60, 61, 62, 63, 64, 65, 66, 67, 68, 69, 70, 71, 72, 73, 74, 75, 76, 77, 78, 79, 80, 81, 82, 83, 84, 85, 86, 95, 96, 97, 98, 99, 100, 101, 102, 103, 104, 105, 106, 107] (by decide +kernel) (by decide +kernel)
set_option maxRecDepth 20000 in
theorem gX7_yearsUntil_X1_pass : GoodIn wsX7_yearsUntil (wsV RX7 46 RX1 yX1_pass wsX1_pass) := goodIn_app (goodIn_of _ (by decide +kernel)) ggX7_yearsUntil_X1_pass
theorem dX7_yearsUntil_0 : decode cX7_yearsUntil 0 = .ok (.aload_n 0, 1) := by decide +kernel
theorem dX7_yearsUntil_1 : decode cX7_yearsUntil 1 = .ok (.getfield 35, 3) := by decide +kernel
theorem dX7_yearsUntil_4 : decode cX7_yearsUntil 4 = .ok (.aload_n 0, 1) := by decide +kernel
theorem dX7_yearsUntil_5 : decode cX7_yearsUntil 5 = .ok (.getfield 24, 3) := by decide +kernel
theorem dX7_yearsUntil_8 : decode cX7_yearsUntil 8 = .ok (.invokevirtual 38, 3) := by decide +kernel
theorem dX7_yearsUntil_11 : decode cX7_yearsUntil 11 = .ok (.iconst 0, 1) := by decide +kernel
theorem dX7_yearsUntil_12 : decode cX7_yearsUntil 12 = .ok (.istore_n 3, 1) := by decide +kernel
theorem dX7_yearsUntil_13 : decode cX7_yearsUntil 13 = .ok (.iload_n 3, 1) := by decide +kernel
theorem dX7_yearsUntil_14 : decode cX7_yearsUntil 14 = .ok (.bipush 60, 2) := by decide +kernel
theorem dX7_yearsUntil_16 : decode cX7_yearsUntil 16 = .ok (.if_icmp .gt 38, 3) := by decide +kernel
theorem dX7_yearsUntil_19 : decode cX7_yearsUntil 19 = .ok (.aload_n 0, 1) := by decide +kernel
theorem dX7_yearsUntil_20 : decode cX7_yearsUntil 20 = .ok (.getfield 35, 3) := by decide +kernel
theorem dX7_yearsUntil_23 : decode cX7_yearsUntil 23 = .ok (.getfield 50, 3) := by decide +kernel
theorem dX7_yearsUntil_26 : decode cX7_yearsUntil 26 = .ok (.iload_n 1, 1) := by decide +kernel
theorem dX7_yearsUntil_27 : decode cX7_yearsUntil 27 = .ok (.iaload, 1) := by decide +kernel
theorem dX7_yearsUntil_28 : decode cX7_yearsUntil 28 = .ok (.iload_n 2, 1) := by decide +kernel
theorem dX7_yearsUntil_29 : decode cX7_yearsUntil 29 = .ok (.if_icmp .lt 5, 3) := by decide +kernel
theorem dX7_yearsUntil_32 : decode cX7_yearsUntil 32 = .ok (.iload_n 3, 1) := by decide +kernel
theorem dX7_yearsUntil_33 : decode cX7_yearsUntil 33 = .ok (.ireturn, 1) := by decide +kernel
theorem dX7_yearsUntil_34 : decode cX7_yearsUntil 34 = .ok (.aload_n 0, 1) := by decide +kernel
theorem dX7_yearsUntil_35 : decode cX7_yearsUntil 35 = .ok (.getfield 35, 3) := by decide +kernel
theorem dX7_yearsUntil_38 : decode cX7_yearsUntil 38 = .ok (.aload_n 0, 1) := by decide +kernel
theorem dX7_yearsUntil_39 : decode cX7_yearsUntil 39 = .ok (.getfield 35, 3) := by decide +kernel
theorem dX7_yearsUntil_42 : decode cX7_yearsUntil 42 = .ok (.invokevirtual 42, 3) := by decide +kernel
theorem dX7_yearsUntil_45 : decode cX7_yearsUntil 45 = .ok (.invokevirtual 46, 3) := by decide +kernel
theorem dX7_yearsUntil_48 : decode cX7_yearsUntil 48 = .ok (.iinc 3 1, 3) := by decide +kernel
theorem dX7_yearsUntil_51 : decode cX7_yearsUntil 51 = .ok (.goto (-38), 3) := by decide +kernel
theorem dX7_yearsUntil_54 : decode cX7_yearsUntil 54 = .ok (.ldc 53, 2) := by decide +kernel
theorem dX7_yearsUntil_56 : decode cX7_yearsUntil 56 = .ok (.ireturn, 1) := by decide +kernel
set_option maxRecDepth 20000 in
theorem ggX7_firstSquire_X1_become : GoodIn wsX7_firstSquire wsX1_become := goodIn_r _ [10, 11, 12, 13, 14, 15, 16, 17, 18, 19, 20, 21, 22, 23, 24, 25, 96, 97, 98, 99, 100, 101, 102, 103, 104, 105, 106, 107, 108] (by decide +kernel) (by decide +kernel)
set_option maxRecDepth 20000 in
theorem gX7_firstSquire_X1_become : GoodIn wsX7_firstSquire (wsV RX7 38 RX1 yX1_become wsX1_become) := goodIn_app (goodIn_of _ (by decide +kernel)) ggX7_firstSquire_X1_become
set_option maxRecDepth 20000 in
theorem ggX7_firstSquire_X1_hasFrost : GoodIn wsX7_firstSquire wsX1_hasFrost := goodIn_r _ [29, 14, 12, 96, 97, 98, 99, 100, 101, 102, 103, 104, 105, 106, 107, 108] (by decide +kernel) (by decide +kernel)
set_option maxRecDepth 20000 in
theorem gX7_firstSquire_X1_hasFrost : GoodIn wsX7_firstSquire (wsV RX7 42 RX1 yX1_hasFrost wsX1_hasFrost) := goodIn_app (goodIn_of _ (by decide +kernel)) ggX7_firstSquire_X1_hasFrost
set_option maxRecDepth 20000 in
theorem ggX7_firstSquire_X1_pass : GoodIn wsX7_firstSquire wsX1_pass := goodIn_r _ [33, 11, 21, 34, 16, 35, 36, 37, 38, 12, 39, 40, 41, 9, 42, 15, 23, 43, 22, 44, 45, 46, 47, 25, 48, 49, 50, 51, 52, 53, 54, 55, 56, 57, 58, 59, 60, 61, 62, 63, 64, 65, 66, 67, 68, 69, 70, 71, 72, 73, 74, 75, 76, 77, 78, 79, 80, 81, 82, 83, 84, 85, 86, 87, 96, 97, 98, 99, 100, 101, 102, 103, 104, 105, 106, 107, 108] (by decide +kernel) (by decide +kernel)
set_option maxRecDepth 20000 in
theorem gX7_firstSquire_X1_pass : GoodIn wsX7_firstSquire (wsV RX7 46 RX1 yX1_pass wsX1_pass) := goodIn_app (goodIn_of _ (by decide +kernel)) ggX7_firstSquire_X1_pass
theorem dX7_firstSquire_0 : decode cX7_firstSquire 0 = .ok (.aload_n 0, 1) := by decide +kernel
theorem dX7_firstSquire_1 : decode cX7_firstSquire 1 = .ok (.getfield 35, 3) := by decide +kernel
theorem dX7_firstSquire_4 : decode cX7_firstSquire 4 = .ok (.aload_n 0, 1) := by decide +kernel
theorem dX7_firstSquire_5 : decode cX7_firstSquire 5 = .ok (.getfield 24, 3) := by decide +kernel
theorem dX7_firstSquire_8 : decode cX7_firstSquire 8 = .ok (.invokevirtual 38, 3) := by decide +kernel
theorem dX7_firstSquire_11 : decode cX7_firstSquire 11 = .ok (.iconst 0, 1) := by decide +kernel
theorem dX7_firstSquire_12 : decode cX7_firstSquire 12 = .ok (.istore_n 1, 1) := by decide +kernel
theorem dX7_firstSquire_13 : decode cX7_firstSquire 13 = .ok (.iload_n 1, 1) := by decide +kernel
theorem dX7_firstSquire_14 : decode cX7_firstSquire 14 = .ok (.bipush 60, 2) := by decide +kernel
theorem dX7_firstSquire_16 : decode cX7_firstSquire 16 = .ok (.if_icmp .gt 63, 3) := by decide +kernel
theorem dX7_firstSquire_19 : decode cX7_firstSquire 19 = .ok (.iconst 0, 1) := by decide +kernel
theorem dX7_firstSquire_20 : decode cX7_firstSquire 20 = .ok (.istore_n 2, 1) := by decide +kernel
theorem dX7_firstSquire_21 : decode cX7_firstSquire 21 = .ok (.iload_n 2, 1) := by decide +kernel
theorem dX7_firstSquire_22 : decode cX7_firstSquire 22 = .ok (.aload_n 0, 1) := by decide +kernel
theorem dX7_firstSquire_23 : decode cX7_firstSquire 23 = .ok (.getfield 35, 3) := by decide +kernel
theorem dX7_firstSquire_26 : decode cX7_firstSquire 26 = .ok (.getfield 54, 3) := by decide +kernel
theorem dX7_firstSquire_29 : decode cX7_firstSquire 29 = .ok (.if_icmp .ge 30, 3) := by decide +kernel
theorem dX7_firstSquire_32 : decode cX7_firstSquire 32 = .ok (.aload_n 0, 1) := by decide +kernel
theorem dX7_firstSquire_33 : decode cX7_firstSquire 33 = .ok (.getfield 35, 3) := by decide +kernel
theorem dX7_firstSquire_36 : decode cX7_firstSquire 36 = .ok (.getfield 50, 3) := by decide +kernel
theorem dX7_firstSquire_39 : decode cX7_firstSquire 39 = .ok (.iload_n 2, 1) := by decide +kernel
theorem dX7_firstSquire_40 : decode cX7_firstSquire 40 = .ok (.iaload, 1) := by decide +kernel
theorem dX7_firstSquire_41 : decode cX7_firstSquire 41 = .ok (.bipush 9, 2) := by decide +kernel
theorem dX7_firstSquire_43 : decode cX7_firstSquire 43 = .ok (.if_icmp .ne 10, 3) := by decide +kernel
theorem dX7_firstSquire_46 : decode cX7_firstSquire 46 = .ok (.aload_n 0, 1) := by decide +kernel
theorem dX7_firstSquire_47 : decode cX7_firstSquire 47 = .ok (.iload_n 1, 1) := by decide +kernel
theorem dX7_firstSquire_48 : decode cX7_firstSquire 48 = .ok (.putfield 58, 3) := by decide +kernel
theorem dX7_firstSquire_51 : decode cX7_firstSquire 51 = .ok (.iload_n 2, 1) := by decide +kernel
theorem dX7_firstSquire_52 : decode cX7_firstSquire 52 = .ok (.ireturn, 1) := by decide +kernel
theorem dX7_firstSquire_53 : decode cX7_firstSquire 53 = .ok (.iinc 2 1, 3) := by decide +kernel
theorem dX7_firstSquire_56 : decode cX7_firstSquire 56 = .ok (.goto (-35), 3) := by decide +kernel
theorem dX7_firstSquire_59 : decode cX7_firstSquire 59 = .ok (.aload_n 0, 1) := by decide +kernel
theorem dX7_firstSquire_60 : decode cX7_firstSquire 60 = .ok (.getfield 35, 3) := by decide +kernel
theorem dX7_firstSquire_63 : decode cX7_firstSquire 63 = .ok (.aload_n 0, 1) := by decide +kernel
theorem dX7_firstSquire_64 : decode cX7_firstSquire 64 = .ok (.getfield 35, 3) := by decide +kernel
theorem dX7_firstSquire_67 : decode cX7_firstSquire 67 = .ok (.invokevirtual 42, 3) := by decide +kernel
theorem dX7_firstSquire_70 : decode cX7_firstSquire 70 = .ok (.invokevirtual 46, 3) := by decide +kernel
theorem dX7_firstSquire_73 : decode cX7_firstSquire 73 = .ok (.iinc 1 1, 3) := by decide +kernel
theorem dX7_firstSquire_76 : decode cX7_firstSquire 76 = .ok (.goto (-63), 3) := by decide +kernel
theorem dX7_firstSquire_79 : decode cX7_firstSquire 79 = .ok (.iconst (-1), 1) := by decide +kernel
theorem dX7_firstSquire_80 : decode cX7_firstSquire 80 = .ok (.ireturn, 1) := by decide +kernel
set_option maxRecDepth 20000 in
theorem ggX7_findBestPairs_J7_fill_53178 : GoodIn wsX7_findBestPairs wsJ7_fill_53178 := goodIn_r _ [6] (by decide +kernel) (by decide +kernel)
set_option maxRecDepth 20000 in
theorem gX7_findBestPairs_J7_fill_53178 : GoodIn wsX7_findBestPairs (va_wsS RX7 61 yJ7_fill_53178 wsJ7_fill_53178) := goodIn_app (goodIn_of _ (by decide +kernel)) ggX7_findBestPairs_J7_fill_53178
set_option maxRecDepth 20000 in
theorem ggX7_findBestPairs_X7_tryPairs : GoodIn wsX7_findBestPairs wsX7_tryPairs := goodIn_r _ [11, 12, 13, 1, 14, 15, 16, 10, 17, 18, 19, 20, 21, 22, 23, 2, 24, 25, 26, 27, 28, 29, 30, 31, 32, 33, 34, 35, 36, 37, 38, 39, 40, 41, 42, 43, 44, 45, 46, 47, 48, 49, 50, 51, 52, 53, 54, 55, 56, 57, 58, 59, 60, 61, 62, 63, 64, 65, 66, 67, 68, 69, 70, 71, 72, 73, 74, 75, 76, 77, 78, 79, 80, 81, 82, 83, 84, 85, 86, 87, 88, 89, 90, 91, 92, 93, 94, 95, 96, 97, 98, 99, 100, 101, 102, 103, 104, 105, 106, 107, 108, 109, 110, 111, 7, 8, 9, 112, 113, 114, 115, 116, 117, 118, 119, 120, 121, 122, 123, 124, 125, 126, 127, 128, 129, 130, 131, 132] (by decide +kernel) (by decide +kernel)
set_option maxRecDepth 20000 in
theorem gX7_findBestPairs_X7_tryPairs : GoodIn wsX7_findBestPairs (wsV RX7 70 RX7 yX7_tryPairs wsX7_tryPairs) := goodIn_app (goodIn_of _ (by decide +kernel)) ggX7_findBestPairs_X7_tryPairs
theorem dX7_findBestPairs_0 : decode cX7_findBestPairs 0 = .ok (.aload_n 0, 1) := by decide +kernel
theorem dX7_findBestPairs_1 : decode cX7_findBestPairs 1 = .ok (.getfield 17, 3) := by decide +kernel
theorem dX7_findBestPairs_4 : decode cX7_findBestPairs 4 = .ok (.iconst (-1), 1) := by decide +kernel
theorem dX7_findBestPairs_5 : decode cX7_findBestPairs 5 = .ok (.invokestatic 61, 3) := by decide +kernel
theorem dX7_findBestPairs_8 : decode cX7_findBestPairs 8 = .ok (.aload_n 0, 1) := by decide +kernel
theorem dX7_findBestPairs_9 : decode cX7_findBestPairs 9 = .ok (.iconst (-1), 1) := by decide +kernel
theorem dX7_findBestPairs_10 : decode cX7_findBestPairs 10 = .ok (.putfield 67, 3) := by decide +kernel
theorem dX7_findBestPairs_13 : decode cX7_findBestPairs 13 = .ok (.aload_n 0, 1) := by decide +kernel
theorem dX7_findBestPairs_14 : decode cX7_findBestPairs 14 = .ok (.iconst 0, 1) := by decide +kernel
theorem dX7_findBestPairs_15 : decode cX7_findBestPairs 15 = .ok (.iload_n 1, 1) := by decide +kernel
theorem dX7_findBestPairs_16 : decode cX7_findBestPairs 16 = .ok (.invokevirtual 70, 3) := by decide +kernel
theorem dX7_findBestPairs_19 : decode cX7_findBestPairs 19 = .ok (.return_, 1) := by decide +kernel
set_option maxRecDepth 20000 in
theorem ggX7_tryPairs_X7_weighPairs : GoodIn wsX7_tryPairs wsX7_weighPairs := goodIn_r _ [8, 9, 1, 3, 10, 11, 12, 13, 14, 15, 16, 17, 18, 19, 20, 21, 22, 23, 24, 25, 26, 27, 28, 29, 30, 31, 32, 33, 34, 35, 36, 37, 38, 39, 40, 41, 42, 43, 44, 45, 46, 47, 48, 49, 50, 51, 52, 53, 54, 55, 56, 57, 58, 59, 60, 61, 62, 63, 64, 65, 66, 67, 68, 69, 70, 71, 72, 73, 74, 75, 76, 77, 78, 79, 80, 81, 82, 83, 84, 85, 86, 87, 88, 89, 90, 91, 92, 93, 94, 95, 96, 97, 98, 99, 100, 101, 102, 103, 107, 108, 109, 110, 111, 112, 113, 114, 115, 116, 117, 118, 119, 120, 121, 122, 123, 124, 125, 126, 127] (by decide +kernel) (by decide +kernel)
set_option maxRecDepth 20000 in
theorem gX7_tryPairs_X7_weighPairs : GoodIn wsX7_tryPairs (wsV RX7 74 RX7 yX7_weighPairs wsX7_weighPairs) := goodIn_app (goodIn_of _ (by decide +kernel)) ggX7_tryPairs_X7_weighPairs
set_option maxRecDepth 20000 in
theorem ggX7_tryPairs_X7_tryPairs : GoodIn wsX7_tryPairs wsX7_tryPairs := goodIn_r _ [0, 1, 2, 3, 4, 5, 6, 7, 8, 9, 10, 11, 12, 13, 14, 15, 16, 17, 18, 19, 20, 21, 22, 23, 24, 25, 26, 27, 28, 29, 30, 31, 32, 33, 34, 35, 36, 37, 38, 39, 40, 41, 42, 43, 44, 45, 46, 47, 48, 49, 50, 51, 52, 53, 54, 55, 56, 57, 58, 59, 60, 61, 62, 63, 64, 65, 66, 67, 68, 69, 70, 71, 72, 73, 74, 75, 76, 77, 78, 79, 80, 81, 82, 83, 84, 85, 86, 87, 88, 89, 90, 91, 92, 93, 94, 95, 96, 97, 98, 99, 100, 101, 102, 103, 104, 105, 106, 107, 108, 109, 110, 111, 112, 113, 114, 115, 116, 117, 118, 119, 120, 121, 122, 123, 124, 125, 126, 127] (by decide +kernel) (by decide +kernel)
set_option maxRecDepth 20000 in
theorem gX7_tryPairs_X7_tryPairs : GoodIn wsX7_tryPairs (wsV RX7 70 RX7 yX7_tryPairs wsX7_tryPairs) := goodIn_app (goodIn_of _ (by decide +kernel)) ggX7_tryPairs_X7_tryPairs
theorem dX7_tryPairs_0 : decode cX7_tryPairs 0 = .ok (.iload_n 1, 1) := by decide +kernel
theorem dX7_tryPairs_1 : decode cX7_tryPairs 1 = .ok (.aload_n 0, 1) := by decide +kernel
theorem dX7_tryPairs_2 : decode cX7_tryPairs 2 = .ok (.getfield 24, 3) := by decide +kernel
theorem dX7_tryPairs_5 : decode cX7_tryPairs 5 = .ok (.getfield 54, 3) := by decide +kernel
theorem dX7_tryPairs_8 : decode cX7_tryPairs 8 = .ok (.if_icmp .ge 9, 3) := by decide +kernel
theorem dX7_tryPairs_11 : decode cX7_tryPairs 11 = .ok (.iload_n 1, 1) := by decide +kernel
theorem dX7_tryPairs_12 : decode cX7_tryPairs 12 = .ok (.bipush 7, 2) := by decide +kernel
theorem dX7_tryPairs_14 : decode cX7_tryPairs 14 = .ok (.if_icmp .lt 9, 3) := by decide +kernel
theorem dX7_tryPairs_17 : decode cX7_tryPairs 17 = .ok (.aload_n 0, 1) := by decide +kernel
theorem dX7_tryPairs_18 : decode cX7_tryPairs 18 = .ok (.iload_n 2, 1) := by decide +kernel
theorem dX7_tryPairs_19 : decode cX7_tryPairs 19 = .ok (.invokevirtual 74, 3) := by decide +kernel
theorem dX7_tryPairs_22 : decode cX7_tryPairs 22 = .ok (.return_, 1) := by decide +kernel
theorem dX7_tryPairs_23 : decode cX7_tryPairs 23 = .ok (.aload_n 0, 1) := by decide +kernel
theorem dX7_tryPairs_24 : decode cX7_tryPairs 24 = .ok (.iload_n 1, 1) := by decide +kernel
theorem dX7_tryPairs_25 : decode cX7_tryPairs 25 = .ok (.iconst 1, 1) := by decide +kernel
theorem dX7_tryPairs_26 : decode cX7_tryPairs 26 = .ok (.iadd, 1) := by decide +kernel
theorem dX7_tryPairs_27 : decode cX7_tryPairs 27 = .ok (.iload_n 2, 1) := by decide +kernel
theorem dX7_tryPairs_28 : decode cX7_tryPairs 28 = .ok (.invokevirtual 70, 3) := by decide +kernel
theorem dX7_tryPairs_31 : decode cX7_tryPairs 31 = .ok (.aload_n 0, 1) := by decide +kernel
theorem dX7_tryPairs_32 : decode cX7_tryPairs 32 = .ok (.getfield 17, 3) := by decide +kernel
theorem dX7_tryPairs_35 : decode cX7_tryPairs 35 = .ok (.iload_n 1, 1) := by decide +kernel
theorem dX7_tryPairs_36 : decode cX7_tryPairs 36 = .ok (.iaload, 1) := by decide +kernel
theorem dX7_tryPairs_37 : decode cX7_tryPairs 37 = .ok (.iconst (-1), 1) := by decide +kernel
theorem dX7_tryPairs_38 : decode cX7_tryPairs 38 = .ok (.if_icmp .eq 4, 3) := by decide +kernel
theorem dX7_tryPairs_41 : decode cX7_tryPairs 41 = .ok (.return_, 1) := by decide +kernel
theorem dX7_tryPairs_42 : decode cX7_tryPairs 42 = .ok (.iload_n 1, 1) := by decide +kernel
theorem dX7_tryPairs_43 : decode cX7_tryPairs 43 = .ok (.iconst 1, 1) := by decide +kernel
theorem dX7_tryPairs_44 : decode cX7_tryPairs 44 = .ok (.iadd, 1) := by decide +kernel
theorem dX7_tryPairs_45 : decode cX7_tryPairs 45 = .ok (.istore_n 3, 1) := by decide +kernel
theorem dX7_tryPairs_46 : decode cX7_tryPairs 46 = .ok (.iload_n 3, 1) := by decide +kernel
theorem dX7_tryPairs_47 : decode cX7_tryPairs 47 = .ok (.aload_n 0, 1) := by decide +kernel
theorem dX7_tryPairs_48 : decode cX7_tryPairs 48 = .ok (.getfield 24, 3) := by decide +kernel
theorem dX7_tryPairs_51 : decode cX7_tryPairs 51 = .ok (.getfield 54, 3) := by decide +kernel
theorem dX7_tryPairs_54 : decode cX7_tryPairs 54 = .ok (.if_icmp .ge 55, 3) := by decide +kernel
theorem dX7_tryPairs_57 : decode cX7_tryPairs 57 = .ok (.aload_n 0, 1) := by decide +kernel
theorem dX7_tryPairs_58 : decode cX7_tryPairs 58 = .ok (.getfield 17, 3) := by decide +kernel
theorem dX7_tryPairs_61 : decode cX7_tryPairs 61 = .ok (.iload_n 3, 1) := by decide +kernel
theorem dX7_tryPairs_62 : decode cX7_tryPairs 62 = .ok (.iaload, 1) := by decide +kernel
theorem dX7_tryPairs_63 : decode cX7_tryPairs 63 = .ok (.iconst (-1), 1) := by decide +kernel
theorem dX7_tryPairs_64 : decode cX7_tryPairs 64 = .ok (.if_icmp .ne 39, 3) := by decide +kernel
theorem dX7_tryPairs_67 : decode cX7_tryPairs 67 = .ok (.aload_n 0, 1) := by decide +kernel
theorem dX7_tryPairs_68 : decode cX7_tryPairs 68 = .ok (.getfield 17, 3) := by decide +kernel
theorem dX7_tryPairs_71 : decode cX7_tryPairs 71 = .ok (.iload_n 1, 1) := by decide +kernel
theorem dX7_tryPairs_72 : decode cX7_tryPairs 72 = .ok (.iload_n 3, 1) := by decide +kernel
theorem dX7_tryPairs_73 : decode cX7_tryPairs 73 = .ok (.iastore, 1) := by decide +kernel
theorem dX7_tryPairs_74 : decode cX7_tryPairs 74 = .ok (.aload_n 0, 1) := by decide +kernel
theorem dX7_tryPairs_75 : decode cX7_tryPairs 75 = .ok (.getfield 17, 3) := by decide +kernel
theorem dX7_tryPairs_78 : decode cX7_tryPairs 78 = .ok (.iload_n 3, 1) := by decide +kernel
theorem dX7_tryPairs_79 : decode cX7_tryPairs 79 = .ok (.iload_n 1, 1) := by decide +kernel
theorem dX7_tryPairs_80 : decode cX7_tryPairs 80 = .ok (.iastore, 1) := by decide +kernel
theorem dX7_tryPairs_81 : decode cX7_tryPairs 81 = .ok (.aload_n 0, 1) := by decide +kernel
theorem dX7_tryPairs_82 : decode cX7_tryPairs 82 = .ok (.iload_n 1, 1) := by decide +kernel
theorem dX7_tryPairs_83 : decode cX7_tryPairs 83 = .ok (.iconst 1, 1) := by decide +kernel
theorem dX7_tryPairs_84 : decode cX7_tryPairs 84 = .ok (.iadd, 1) := by decide +kernel
theorem dX7_tryPairs_85 : decode cX7_tryPairs 85 = .ok (.iload_n 2, 1) := by decide +kernel
theorem dX7_tryPairs_86 : decode cX7_tryPairs 86 = .ok (.invokevirtual 70, 3) := by decide +kernel
theorem dX7_tryPairs_89 : decode cX7_tryPairs 89 = .ok (.aload_n 0, 1) := by decide +kernel
theorem dX7_tryPairs_90 : decode cX7_tryPairs 90 = .ok (.getfield 17, 3) := by decide +kernel
theorem dX7_tryPairs_93 : decode cX7_tryPairs 93 = .ok (.iload_n 1, 1) := by decide +kernel
theorem dX7_tryPairs_94 : decode cX7_tryPairs 94 = .ok (.iconst (-1), 1) := by decide +kernel
theorem dX7_tryPairs_95 : decode cX7_tryPairs 95 = .ok (.iastore, 1) := by decide +kernel
theorem dX7_tryPairs_96 : decode cX7_tryPairs 96 = .ok (.aload_n 0, 1) := by decide +kernel
theorem dX7_tryPairs_97 : decode cX7_tryPairs 97 = .ok (.getfield 17, 3) := by decide +kernel
theorem dX7_tryPairs_100 : decode cX7_tryPairs 100 = .ok (.iload_n 3, 1) := by decide +kernel
theorem dX7_tryPairs_101 : decode cX7_tryPairs 101 = .ok (.iconst (-1), 1) := by decide +kernel
theorem dX7_tryPairs_102 : decode cX7_tryPairs 102 = .ok (.iastore, 1) := by decide +kernel
theorem dX7_tryPairs_103 : decode cX7_tryPairs 103 = .ok (.iinc 3 1, 3) := by decide +kernel
theorem dX7_tryPairs_106 : decode cX7_tryPairs 106 = .ok (.goto (-60), 3) := by decide +kernel
theorem dX7_tryPairs_109 : decode cX7_tryPairs 109 = .ok (.return_, 1) := by decide +kernel
set_option maxRecDepth 20000 in
theorem ggX7_weighPairs_X1_become : GoodIn wsX7_weighPairs wsX1_become := goodIn_r _ [15, 16, 17, 18, 19, 20, 21, 22, 6, 7, 8, 23, 24, 25, 26, 27, 106, 107, 108, 109, 110, 111, 112, 113, 114, 115, 116, 117, 118] (by decide +kernel) (by decide +kernel)
set_option maxRecDepth 20000 in
theorem gX7_weighPairs_X1_become : GoodIn wsX7_weighPairs (wsV RX7 38 RX1 yX1_become wsX1_become) := goodIn_app (goodIn_of _ (by decide +kernel)) ggX7_weighPairs_X1_become
set_option maxRecDepth 20000 in
theorem ggX7_weighPairs_X1_hasFrost : GoodIn wsX7_weighPairs wsX1_hasFrost := goodIn_r _ [31, 19, 17, 106, 107, 108, 109, 110, 111, 112, 113, 114, 115, 116, 117, 118] (by decide +kernel) (by decide +kernel)
set_option maxRecDepth 20000 in
theorem gX7_weighPairs_X1_hasFrost : GoodIn wsX7_weighPairs (wsV RX7 42 RX1 yX1_hasFrost wsX1_hasFrost) := goodIn_app (goodIn_of _ (by decide +kernel)) ggX7_weighPairs_X1_hasFrost
set_option maxRecDepth 20000 in
theorem ggX7_weighPairs_X1_pass : GoodIn wsX7_weighPairs wsX1_pass := goodIn_r _ [35, 16, 23, 36, 21, 37, 38, 39, 40, 17, 41, 42, 43, 14, 44, 20, 25, 45, 24, 46, 47, 48, 49, 27, 50, 51, 52, 53, 54, 55, 56, 57, 58, 59, 60, 61, 62, 63, 64, 65, 66, 67, 68, 69, 70, 71, 72, 73, 74, 75, 76, 77, 78, 79, 80, 81, 82, 83, 84, 85, 86, 87, 88, 89, 106, 107, 108, 109, 110, 111, 112, 113, 114, 115, 116, 117, 118] (by decide +kernel) (by decide +kernel)
set_option maxRecDepth 20000 in
theorem gX7_weighPairs_X1_pass : GoodIn wsX7_weighPairs (wsV RX7 46 RX1 yX1_pass wsX1_pass) := goodIn_app (goodIn_of _ (by decide +kernel)) ggX7_weighPairs_X1_pass
set_option maxRecDepth 20000 in
theorem ggX7_weighPairs_X1_allRanks : GoodIn wsX7_weighPairs wsX1_allRanks := goodIn_r _ [93, 16, 94, 95, 96, 14, 97, 21, 106, 107, 108, 109, 110, 111, 112, 113, 114, 115, 116, 117, 118] (by decide +kernel) (by decide +kernel)
set_option maxRecDepth 20000 in
theorem gX7_weighPairs_X1_allRanks : GoodIn wsX7_weighPairs (wsV RX7 87 RX1 yX1_allRanks wsX1_allRanks) := goodIn_app (goodIn_of _ (by decide +kernel)) ggX7_weighPairs_X1_allRanks
theorem dX7_weighPairs_0 : decode cX7_weighPairs 0 = .ok (.aload_n 0, 1) := by decide +kernel
theorem dX7_weighPairs_1 : decode cX7_weighPairs 1 = .ok (.getfield 35, 3) := by decide +kernel
theorem dX7_weighPairs_4 : decode cX7_weighPairs 4 = .ok (.aload_n 0, 1) := by decide +kernel
theorem dX7_weighPairs_5 : decode cX7_weighPairs 5 = .ok (.getfield 24, 3) := by decide +kernel
theorem dX7_weighPairs_8 : decode cX7_weighPairs 8 = .ok (.invokevirtual 38, 3) := by decide +kernel
theorem dX7_weighPairs_11 : decode cX7_weighPairs 11 = .ok (.aload_n 0, 1) := by decide +kernel
theorem dX7_weighPairs_12 : decode cX7_weighPairs 12 = .ok (.getfield 17, 3) := by decide +kernel
theorem dX7_weighPairs_15 : decode cX7_weighPairs 15 = .ok (.iconst 0, 1) := by decide +kernel
theorem dX7_weighPairs_16 : decode cX7_weighPairs 16 = .ok (.aload_n 0, 1) := by decide +kernel
theorem dX7_weighPairs_17 : decode cX7_weighPairs 17 = .ok (.getfield 35, 3) := by decide +kernel
theorem dX7_weighPairs_20 : decode cX7_weighPairs 20 = .ok (.getfield 78, 3) := by decide +kernel
theorem dX7_weighPairs_23 : decode cX7_weighPairs 23 = .ok (.iconst 0, 1) := by decide +kernel
theorem dX7_weighPairs_24 : decode cX7_weighPairs 24 = .ok (.bipush 7, 2) := by decide +kernel
theorem dX7_weighPairs_26 : decode cX7_weighPairs 26 = .ok (.invokestatic 81, 3) := by decide +kernel
theorem dX7_weighPairs_29 : decode cX7_weighPairs 29 = .ok (.iconst 0, 1) := by decide +kernel
theorem dX7_weighPairs_30 : decode cX7_weighPairs 30 = .ok (.istore_n 2, 1) := by decide +kernel
theorem dX7_weighPairs_31 : decode cX7_weighPairs 31 = .ok (.iload_n 2, 1) := by decide +kernel
theorem dX7_weighPairs_32 : decode cX7_weighPairs 32 = .ok (.iload_n 1, 1) := by decide +kernel
theorem dX7_weighPairs_33 : decode cX7_weighPairs 33 = .ok (.if_icmp .ge 23, 3) := by decide +kernel
theorem dX7_weighPairs_36 : decode cX7_weighPairs 36 = .ok (.aload_n 0, 1) := by decide +kernel
theorem dX7_weighPairs_37 : decode cX7_weighPairs 37 = .ok (.getfield 35, 3) := by decide +kernel
theorem dX7_weighPairs_40 : decode cX7_weighPairs 40 = .ok (.aload_n 0, 1) := by decide +kernel
theorem dX7_weighPairs_41 : decode cX7_weighPairs 41 = .ok (.getfield 35, 3) := by decide +kernel
theorem dX7_weighPairs_44 : decode cX7_weighPairs 44 = .ok (.invokevirtual 42, 3) := by decide +kernel
theorem dX7_weighPairs_47 : decode cX7_weighPairs 47 = .ok (.invokevirtual 46, 3) := by decide +kernel
theorem dX7_weighPairs_50 : decode cX7_weighPairs 50 = .ok (.iinc 2 1, 3) := by decide +kernel
theorem dX7_weighPairs_53 : decode cX7_weighPairs 53 = .ok (.goto (-22), 3) := by decide +kernel
theorem dX7_weighPairs_56 : decode cX7_weighPairs 56 = .ok (.aload_n 0, 1) := by decide +kernel
theorem dX7_weighPairs_57 : decode cX7_weighPairs 57 = .ok (.getfield 35, 3) := by decide +kernel
theorem dX7_weighPairs_60 : decode cX7_weighPairs 60 = .ok (.invokevirtual 87, 3) := by decide +kernel
theorem dX7_weighPairs_63 : decode cX7_weighPairs 63 = .ok (.istore_n 2, 1) := by decide +kernel
theorem dX7_weighPairs_64 : decode cX7_weighPairs 64 = .ok (.iload_n 2, 1) := by decide +kernel
theorem dX7_weighPairs_65 : decode cX7_weighPairs 65 = .ok (.aload_n 0, 1) := by decide +kernel
theorem dX7_weighPairs_66 : decode cX7_weighPairs 66 = .ok (.getfield 67, 3) := by decide +kernel
theorem dX7_weighPairs_69 : decode cX7_weighPairs 69 = .ok (.if_icmp .le 23, 3) := by decide +kernel
theorem dX7_weighPairs_72 : decode cX7_weighPairs 72 = .ok (.aload_n 0, 1) := by decide +kernel
theorem dX7_weighPairs_73 : decode cX7_weighPairs 73 = .ok (.iload_n 2, 1) := by decide +kernel
theorem dX7_weighPairs_74 : decode cX7_weighPairs 74 = .ok (.putfield 67, 3) := by decide +kernel
theorem dX7_weighPairs_77 : decode cX7_weighPairs 77 = .ok (.aload_n 0, 1) := by decide +kernel
theorem dX7_weighPairs_78 : decode cX7_weighPairs 78 = .ok (.getfield 17, 3) := by decide +kernel
theorem dX7_weighPairs_81 : decode cX7_weighPairs 81 = .ok (.iconst 0, 1) := by decide +kernel
theorem dX7_weighPairs_82 : decode cX7_weighPairs 82 = .ok (.aload_n 0, 1) := by decide +kernel
theorem dX7_weighPairs_83 : decode cX7_weighPairs 83 = .ok (.getfield 21, 3) := by decide +kernel
theorem dX7_weighPairs_86 : decode cX7_weighPairs 86 = .ok (.iconst 0, 1) := by decide +kernel
theorem dX7_weighPairs_87 : decode cX7_weighPairs 87 = .ok (.bipush 7, 2) := by decide +kernel
theorem dX7_weighPairs_89 : decode cX7_weighPairs 89 = .ok (.invokestatic 81, 3) := by decide +kernel
theorem dX7_weighPairs_92 : decode cX7_weighPairs 92 = .ok (.return_, 1) := by decide +kernel
set_option maxRecDepth 20000 in
theorem ggX7_bestChange_X1_become : GoodIn wsX7_bestChange wsX1_become := goodIn_r _ [9, 10, 11, 12, 13, 14, 15, 16, 17, 18, 19, 20, 21, 22, 23, 24, 107, 108, 109, 110, 111, 112, 113, 114, 115, 116, 117, 118, 119] (by decide +kernel) (by decide +kernel)
set_option maxRecDepth 20000 in
theorem gX7_bestChange_X1_become : GoodIn wsX7_bestChange (wsV RX7 38 RX1 yX1_become wsX1_become) := goodIn_app (goodIn_of _ (by decide +kernel)) ggX7_bestChange_X1_become
set_option maxRecDepth 20000 in
theorem ggX7_bestChange_X1_exchange : GoodIn wsX7_bestChange wsX1_exchange := goodIn_r _ [28, 23, 24, 107, 108, 109, 110, 111, 112, 113, 114, 115, 116, 117, 118, 119] (by decide +kernel) (by decide +kernel)
set_option maxRecDepth 20000 in
theorem gX7_bestChange_X1_exchange : GoodIn wsX7_bestChange (wsV RX7 91 RX1 yX1_exchange wsX1_exchange) := goodIn_app (goodIn_of _ (by decide +kernel)) ggX7_bestChange_X1_exchange
set_option maxRecDepth 20000 in
theorem ggX7_bestChange_X1_hasFrost : GoodIn wsX7_bestChange wsX1_hasFrost := goodIn_r _ [32, 13, 11, 107, 108, 109, 110, 111, 112, 113, 114, 115, 116, 117, 118, 119] (by decide +kernel) (by decide +kernel)
set_option maxRecDepth 20000 in
theorem gX7_bestChange_X1_hasFrost : GoodIn wsX7_bestChange (wsV RX7 42 RX1 yX1_hasFrost wsX1_hasFrost) := goodIn_app (goodIn_of _ (by decide +kernel)) ggX7_bestChange_X1_hasFrost
set_option maxRecDepth 20000 in
theorem ggX7_bestChange_X1_pass : GoodIn wsX7_bestChange wsX1_pass := goodIn_r _ [36, 10, 20, 37, 15, 38, 39, 40, 41, 11, 42, 43, 44, 8, 45, 14, 22, 46, 21, 47, 48, 49, 50, 24, 51, 52, 53, 54, 55, 56, 57, 58, 59, 60, 61, 62, 63, 64, 65, 66, 67, 68, 69, 70, 71, 72, 73, 74, 75, 76, 77, 78, 79, 80, 81, 82, 83, 84, 85, 86, 87, 88, 89, 90, 107, 108, 109, 110, 111, 112, 113, 114, 115, 116, 117, 118, 119] (by decide +kernel) (by decide +kernel)
set_option maxRecDepth 20000 in
theorem gX7_bestChange_X1_pass : GoodIn wsX7_bestChange (wsV RX7 46 RX1 yX1_pass wsX1_pass) := goodIn_app (goodIn_of _ (by decide +kernel)) ggX7_bestChange_X1_pass
set_option maxRecDepth 20000 in
theorem ggX7_bestChange_X1_allRanks : GoodIn wsX7_bestChange wsX1_allRanks := goodIn_r _ [94, 10, 95, 96, 97, 8, 98, 15, 107, 108, 109, 110, 111, 112, 113, 114, 115, 116, 117, 118, 119] (by decide +kernel) (by decide +kernel)
set_option maxRecDepth 20000 in
theorem gX7_bestChange_X1_allRanks : GoodIn wsX7_bestChange (wsV RX7 87 RX1 yX1_allRanks wsX1_allRanks) := goodIn_app (goodIn_of _ (by decide +kernel)) ggX7_bestChange_X1_allRanks
theorem dX7_bestChange_0 : decode cX7_bestChange 0 = .ok (.iconst 0, 1) := by decide +kernel
theorem dX7_bestChange_1 : decode cX7_bestChange 1 = .ok (.istore_n 2, 1) := by decide +kernel
theorem dX7_bestChange_2 : decode cX7_bestChange 2 = .ok (.aload_n 0, 1) := by decide +kernel
theorem dX7_bestChange_3 : decode cX7_bestChange 3 = .ok (.iconst (-1), 1) := by decide +kernel
theorem dX7_bestChange_4 : decode cX7_bestChange 4 = .ok (.putfield 67, 3) := by decide +kernel
theorem dX7_bestChange_7 : decode cX7_bestChange 7 = .ok (.iconst 0, 1) := by decide +kernel
theorem dX7_bestChange_8 : decode cX7_bestChange 8 = .ok (.istore_n 3, 1) := by decide +kernel
theorem dX7_bestChange_9 : decode cX7_bestChange 9 = .ok (.iload_n 3, 1) := by decide +kernel
theorem dX7_bestChange_10 : decode cX7_bestChange 10 = .ok (.aload_n 0, 1) := by decide +kernel
theorem dX7_bestChange_11 : decode cX7_bestChange 11 = .ok (.getfield 24, 3) := by decide +kernel
theorem dX7_bestChange_14 : decode cX7_bestChange 14 = .ok (.getfield 54, 3) := by decide +kernel
theorem dX7_bestChange_17 : decode cX7_bestChange 17 = .ok (.if_icmp .ge 114, 3) := by decide +kernel
theorem dX7_bestChange_20 : decode cX7_bestChange 20 = .ok (.iload_n 3, 1) := by decide +kernel
theorem dX7_bestChange_21 : decode cX7_bestChange 21 = .ok (.iconst 1, 1) := by decide +kernel
theorem dX7_bestChange_22 : decode cX7_bestChange 22 = .ok (.iadd, 1) := by decide +kernel
theorem dX7_bestChange_23 : decode cX7_bestChange 23 = .ok (.istore 4, 2) := by decide +kernel
theorem dX7_bestChange_25 : decode cX7_bestChange 25 = .ok (.iload 4, 2) := by decide +kernel
theorem dX7_bestChange_27 : decode cX7_bestChange 27 = .ok (.aload_n 0, 1) := by decide +kernel
theorem dX7_bestChange_28 : decode cX7_bestChange 28 = .ok (.getfield 24, 3) := by decide +kernel
theorem dX7_bestChange_31 : decode cX7_bestChange 31 = .ok (.getfield 54, 3) := by decide +kernel
theorem dX7_bestChange_34 : decode cX7_bestChange 34 = .ok (.if_icmp .ge 91, 3) := by decide +kernel
theorem dX7_bestChange_37 : decode cX7_bestChange 37 = .ok (.aload_n 0, 1) := by decide +kernel
theorem dX7_bestChange_38 : decode cX7_bestChange 38 = .ok (.getfield 35, 3) := by decide +kernel
theorem dX7_bestChange_41 : decode cX7_bestChange 41 = .ok (.aload_n 0, 1) := by decide +kernel
theorem dX7_bestChange_42 : decode cX7_bestChange 42 = .ok (.getfield 24, 3) := by decide +kernel
theorem dX7_bestChange_45 : decode cX7_bestChange 45 = .ok (.invokevirtual 38, 3) := by decide +kernel
theorem dX7_bestChange_48 : decode cX7_bestChange 48 = .ok (.aload_n 0, 1) := by decide +kernel
theorem dX7_bestChange_49 : decode cX7_bestChange 49 = .ok (.getfield 35, 3) := by decide +kernel
theorem dX7_bestChange_52 : decode cX7_bestChange 52 = .ok (.iload_n 3, 1) := by decide +kernel
theorem dX7_bestChange_53 : decode cX7_bestChange 53 = .ok (.iload 4, 2) := by decide +kernel
theorem dX7_bestChange_55 : decode cX7_bestChange 55 = .ok (.invokevirtual 91, 3) := by decide +kernel
theorem dX7_bestChange_58 : decode cX7_bestChange 58 = .ok (.iconst 0, 1) := by decide +kernel
theorem dX7_bestChange_59 : decode cX7_bestChange 59 = .ok (.istore 5, 2) := by decide +kernel
theorem dX7_bestChange_61 : decode cX7_bestChange 61 = .ok (.iload 5, 2) := by decide +kernel
theorem dX7_bestChange_63 : decode cX7_bestChange 63 = .ok (.iload_n 1, 1) := by decide +kernel
theorem dX7_bestChange_64 : decode cX7_bestChange 64 = .ok (.if_icmp .ge 23, 3) := by decide +kernel
theorem dX7_bestChange_67 : decode cX7_bestChange 67 = .ok (.aload_n 0, 1) := by decide +kernel
theorem dX7_bestChange_68 : decode cX7_bestChange 68 = .ok (.getfield 35, 3) := by decide +kernel
theorem dX7_bestChange_71 : decode cX7_bestChange 71 = .ok (.aload_n 0, 1) := by decide +kernel
theorem dX7_bestChange_72 : decode cX7_bestChange 72 = .ok (.getfield 35, 3) := by decide +kernel
theorem dX7_bestChange_75 : decode cX7_bestChange 75 = .ok (.invokevirtual 42, 3) := by decide +kernel
theorem dX7_bestChange_78 : decode cX7_bestChange 78 = .ok (.invokevirtual 46, 3) := by decide +kernel
theorem dX7_bestChange_81 : decode cX7_bestChange 81 = .ok (.iinc 5 1, 3) := by decide +kernel
theorem dX7_bestChange_84 : decode cX7_bestChange 84 = .ok (.goto (-23), 3) := by decide +kernel
theorem dX7_bestChange_87 : decode cX7_bestChange 87 = .ok (.aload_n 0, 1) := by decide +kernel
theorem dX7_bestChange_88 : decode cX7_bestChange 88 = .ok (.getfield 35, 3) := by decide +kernel
theorem dX7_bestChange_91 : decode cX7_bestChange 91 = .ok (.invokevirtual 87, 3) := by decide +kernel
theorem dX7_bestChange_94 : decode cX7_bestChange 94 = .ok (.istore 5, 2) := by decide +kernel
theorem dX7_bestChange_96 : decode cX7_bestChange 96 = .ok (.iload 5, 2) := by decide +kernel
theorem dX7_bestChange_98 : decode cX7_bestChange 98 = .ok (.aload_n 0, 1) := by decide +kernel
theorem dX7_bestChange_99 : decode cX7_bestChange 99 = .ok (.getfield 67, 3) := by decide +kernel
theorem dX7_bestChange_102 : decode cX7_bestChange 102 = .ok (.if_icmp .le 17, 3) := by decide +kernel
theorem dX7_bestChange_105 : decode cX7_bestChange 105 = .ok (.aload_n 0, 1) := by decide +kernel
theorem dX7_bestChange_106 : decode cX7_bestChange 106 = .ok (.iload 5, 2) := by decide +kernel
theorem dX7_bestChange_108 : decode cX7_bestChange 108 = .ok (.putfield 67, 3) := by decide +kernel
theorem dX7_bestChange_111 : decode cX7_bestChange 111 = .ok (.bipush 10, 2) := by decide +kernel
theorem dX7_bestChange_113 : decode cX7_bestChange 113 = .ok (.iload_n 3, 1) := by decide +kernel
theorem dX7_bestChange_114 : decode cX7_bestChange 114 = .ok (.imul, 1) := by decide +kernel
theorem dX7_bestChange_115 : decode cX7_bestChange 115 = .ok (.iload 4, 2) := by decide +kernel
theorem dX7_bestChange_117 : decode cX7_bestChange 117 = .ok (.iadd, 1) := by decide +kernel
theorem dX7_bestChange_118 : decode cX7_bestChange 118 = .ok (.istore_n 2, 1) := by decide +kernel
theorem dX7_bestChange_119 : decode cX7_bestChange 119 = .ok (.iinc 4 1, 3) := by decide +kernel
theorem dX7_bestChange_122 : decode cX7_bestChange 122 = .ok (.goto (-97), 3) := by decide +kernel
theorem dX7_bestChange_125 : decode cX7_bestChange 125 = .ok (.iinc 3 1, 3) := by decide +kernel
theorem dX7_bestChange_128 : decode cX7_bestChange 128 = .ok (.goto (-119), 3) := by decide +kernel
theorem dX7_bestChange_131 : decode cX7_bestChange 131 = .ok (.iload_n 2, 1) := by decide +kernel
theorem dX7_bestChange_132 : decode cX7_bestChange 132 = .ok (.ireturn, 1) := by decide +kernel
set_option maxRecDepth 20000 in
theorem ggX7_allFitting_X1_become : GoodIn wsX7_allFitting wsX1_become := goodIn_r _ [7, 8, 9, 10, 11, 12, 13, 14, 15, 16, 17, 18, 19, 20, 21, 22, 109, 110, 111, 112, 113, 114, 115, 116, 117, 118, 119, 120, 121] (by decide +kernel) (by decide +kernel)
set_option maxRecDepth 20000 in
theorem gX7_allFitting_X1_become : GoodIn wsX7_allFitting (wsV RX7 38 RX1 yX1_become wsX1_become) := goodIn_app (goodIn_of _ (by decide +kernel)) ggX7_allFitting_X1_become
set_option maxRecDepth 20000 in
theorem ggX7_allFitting_X7_suppose : GoodIn wsX7_allFitting wsX7_suppose := goodIn_r _ [27, 28, 1, 29, 30, 31, 32, 101, 102, 103, 104, 105, 106, 107, 108, 109, 110, 111, 112, 113, 114, 115, 116, 117, 118, 119, 120, 121] (by decide +kernel) (by decide +kernel)
set_option maxRecDepth 20000 in
theorem gX7_allFitting_X7_suppose : GoodIn wsX7_allFitting (wsV RX7 94 RX7 yX7_suppose wsX7_suppose) := goodIn_app (goodIn_of _ (by decide +kernel)) ggX7_allFitting_X7_suppose
set_option maxRecDepth 20000 in
theorem ggX7_allFitting_X7_isTold : GoodIn wsX7_allFitting wsX7_isTold := goodIn_r _ [36, 1, 37, 38, 39, 40, 41, 6, 42, 11, 9, 43, 44, 45, 46, 8, 18, 47, 13, 48, 49, 50, 51, 52, 53, 54, 55, 12, 20, 56, 19, 57, 58, 59, 60, 22, 61, 62, 63, 64, 65, 66, 67, 68, 69, 70, 71, 72, 73, 74, 75, 76, 77, 78, 79, 80, 81, 82, 83, 84, 85, 86, 87, 88, 89, 90, 91, 92, 93, 94, 95, 96, 97, 98, 99, 100, 101, 102, 103, 104, 105, 106, 107, 108, 109, 110, 111, 112, 113, 114, 115, 116, 117, 118, 119, 120, 121, 122, 123, 124, 125] (by decide +kernel) (by decide +kernel)
set_option maxRecDepth 20000 in
theorem gX7_allFitting_X7_isTold : GoodIn wsX7_allFitting (wsV RX7 98 RX7 yX7_isTold wsX7_isTold) := goodIn_app (goodIn_of _ (by decide +kernel)) ggX7_allFitting_X7_isTold
theorem dX7_allFitting_0 : decode cX7_allFitting 0 = .ok (.iload 5, 2) := by decide +kernel
theorem dX7_allFitting_2 : decode cX7_allFitting 2 = .ok (.ifCond .eq 9, 3) := by decide +kernel
theorem dX7_allFitting_5 : decode cX7_allFitting 5 = .ok (.iload 5, 2) := by decide +kernel
theorem dX7_allFitting_7 : decode cX7_allFitting 7 = .ok (.iconst 2, 1) := by decide +kernel
theorem dX7_allFitting_8 : decode cX7_allFitting 8 = .ok (.if_icmp .ne 7, 3) := by decide +kernel
theorem dX7_allFitting_11 : decode cX7_allFitting 11 = .ok (.iconst 1, 1) := by decide +kernel
theorem dX7_allFitting_12 : decode cX7_allFitting 12 = .ok (.goto 4, 3) := by decide +kernel
theorem dX7_allFitting_15 : decode cX7_allFitting 15 = .ok (.iconst 0, 1) := by decide +kernel
theorem dX7_allFitting_16 : decode cX7_allFitting 16 = .ok (.istore 6, 2) := by decide +kernel
theorem dX7_allFitting_18 : decode cX7_allFitting 18 = .ok (.iload 5, 2) := by decide +kernel
theorem dX7_allFitting_20 : decode cX7_allFitting 20 = .ok (.ifCond .ne 7, 3) := by decide +kernel
theorem dX7_allFitting_23 : decode cX7_allFitting 23 = .ok (.iconst 5, 1) := by decide +kernel
theorem dX7_allFitting_24 : decode cX7_allFitting 24 = .ok (.goto 16, 3) := by decide +kernel
theorem dX7_allFitting_27 : decode cX7_allFitting 27 = .ok (.iload 5, 2) := by decide +kernel
theorem dX7_allFitting_29 : decode cX7_allFitting 29 = .ok (.iconst 3, 1) := by decide +kernel
theorem dX7_allFitting_30 : decode cX7_allFitting 30 = .ok (.if_icmp .ne 8, 3) := by decide +kernel
theorem dX7_allFitting_33 : decode cX7_allFitting 33 = .ok (.bipush 15, 2) := by decide +kernel
theorem dX7_allFitting_35 : decode cX7_allFitting 35 = .ok (.goto 5, 3) := by decide +kernel
theorem dX7_allFitting_38 : decode cX7_allFitting 38 = .ok (.bipush 9, 2) := by decide +kernel
theorem dX7_allFitting_40 : decode cX7_allFitting 40 = .ok (.istore 7, 2) := by decide +kernel
theorem dX7_allFitting_42 : decode cX7_allFitting 42 = .ok (.iconst 0, 1) := by decide +kernel
theorem dX7_allFitting_43 : decode cX7_allFitting 43 = .ok (.istore 8, 2) := by decide +kernel
theorem dX7_allFitting_45 : decode cX7_allFitting 45 = .ok (.iload 6, 2) := by decide +kernel
theorem dX7_allFitting_47 : decode cX7_allFitting 47 = .ok (.istore 9, 2) := by decide +kernel
theorem dX7_allFitting_49 : decode cX7_allFitting 49 = .ok (.iload 9, 2) := by decide +kernel
theorem dX7_allFitting_51 : decode cX7_allFitting 51 = .ok (.iload 7, 2) := by decide +kernel
theorem dX7_allFitting_53 : decode cX7_allFitting 53 = .ok (.if_icmp .gt 50, 3) := by decide +kernel
theorem dX7_allFitting_56 : decode cX7_allFitting 56 = .ok (.aload_n 0, 1) := by decide +kernel
theorem dX7_allFitting_57 : decode cX7_allFitting 57 = .ok (.getfield 35, 3) := by decide +kernel
theorem dX7_allFitting_60 : decode cX7_allFitting 60 = .ok (.aload_n 0, 1) := by decide +kernel
theorem dX7_allFitting_61 : decode cX7_allFitting 61 = .ok (.getfield 24, 3) := by decide +kernel
theorem dX7_allFitting_64 : decode cX7_allFitting 64 = .ok (.invokevirtual 38, 3) := by decide +kernel
theorem dX7_allFitting_67 : decode cX7_allFitting 67 = .ok (.aload_n 0, 1) := by decide +kernel
theorem dX7_allFitting_68 : decode cX7_allFitting 68 = .ok (.iload_n 1, 1) := by decide +kernel
theorem dX7_allFitting_69 : decode cX7_allFitting 69 = .ok (.iload 5, 2) := by decide +kernel
theorem dX7_allFitting_71 : decode cX7_allFitting 71 = .ok (.iload 9, 2) := by decide +kernel
theorem dX7_allFitting_73 : decode cX7_allFitting 73 = .ok (.invokevirtual 94, 3) := by decide +kernel
theorem dX7_allFitting_76 : decode cX7_allFitting 76 = .ok (.aload_n 0, 1) := by decide +kernel
theorem dX7_allFitting_77 : decode cX7_allFitting 77 = .ok (.iload_n 1, 1) := by decide +kernel
theorem dX7_allFitting_78 : decode cX7_allFitting 78 = .ok (.aload_n 2, 1) := by decide +kernel
theorem dX7_allFitting_79 : decode cX7_allFitting 79 = .ok (.iload_n 3, 1) := by decide +kernel
theorem dX7_allFitting_80 : decode cX7_allFitting 80 = .ok (.iload 4, 2) := by decide +kernel
theorem dX7_allFitting_82 : decode cX7_allFitting 82 = .ok (.invokevirtual 98, 3) := by decide +kernel
theorem dX7_allFitting_85 : decode cX7_allFitting 85 = .ok (.ifCond .eq 12, 3) := by decide +kernel
theorem dX7_allFitting_88 : decode cX7_allFitting 88 = .ok (.iload 8, 2) := by decide +kernel
theorem dX7_allFitting_90 : decode cX7_allFitting 90 = .ok (.iconst 1, 1) := by decide +kernel
theorem dX7_allFitting_91 : decode cX7_allFitting 91 = .ok (.iload 9, 2) := by decide +kernel
theorem dX7_allFitting_93 : decode cX7_allFitting 93 = .ok (.ishl, 1) := by decide +kernel
theorem dX7_allFitting_94 : decode cX7_allFitting 94 = .ok (.ior, 1) := by decide +kernel
theorem dX7_allFitting_95 : decode cX7_allFitting 95 = .ok (.istore 8, 2) := by decide +kernel
theorem dX7_allFitting_97 : decode cX7_allFitting 97 = .ok (.iinc 9 1, 3) := by decide +kernel
theorem dX7_allFitting_100 : decode cX7_allFitting 100 = .ok (.goto (-51), 3) := by decide +kernel
theorem dX7_allFitting_103 : decode cX7_allFitting 103 = .ok (.iload 8, 2) := by decide +kernel
theorem dX7_allFitting_105 : decode cX7_allFitting 105 = .ok (.ireturn, 1) := by decide +kernel
theorem dX7_suppose_0 : decode cX7_suppose 0 = .ok (.iload_n 2, 1) := by decide +kernel
theorem dX7_suppose_1 : decode cX7_suppose 1 = .ok (.tableswitch 82 0 2 #[27, 58, 71], 27) := by decide +kernel
theorem dX7_suppose_28 : decode cX7_suppose 28 = .ok (.iload_n 3, 1) := by decide +kernel
theorem dX7_suppose_29 : decode cX7_suppose 29 = .ok (.ifCond .lt 62, 3) := by decide +kernel
theorem dX7_suppose_32 : decode cX7_suppose 32 = .ok (.iload_n 3, 1) := by decide +kernel
theorem dX7_suppose_33 : decode cX7_suppose 33 = .ok (.aload_n 0, 1) := by decide +kernel
theorem dX7_suppose_34 : decode cX7_suppose 34 = .ok (.getfield 28, 3) := by decide +kernel
theorem dX7_suppose_37 : decode cX7_suppose 37 = .ok (.arraylength, 1) := by decide +kernel
theorem dX7_suppose_38 : decode cX7_suppose 38 = .ok (.if_icmp .ge 53, 3) := by decide +kernel
theorem dX7_suppose_41 : decode cX7_suppose 41 = .ok (.aload_n 0, 1) := by decide +kernel
theorem dX7_suppose_42 : decode cX7_suppose 42 = .ok (.getfield 35, 3) := by decide +kernel
theorem dX7_suppose_45 : decode cX7_suppose 45 = .ok (.getfield 102, 3) := by decide +kernel
theorem dX7_suppose_48 : decode cX7_suppose 48 = .ok (.iload_n 1, 1) := by decide +kernel
theorem dX7_suppose_49 : decode cX7_suppose 49 = .ok (.aload_n 0, 1) := by decide +kernel
theorem dX7_suppose_50 : decode cX7_suppose 50 = .ok (.getfield 28, 3) := by decide +kernel
theorem dX7_suppose_53 : decode cX7_suppose 53 = .ok (.iload_n 3, 1) := by decide +kernel
theorem dX7_suppose_54 : decode cX7_suppose 54 = .ok (.aaload, 1) := by decide +kernel
theorem dX7_suppose_55 : decode cX7_suppose 55 = .ok (.aastore, 1) := by decide +kernel
theorem dX7_suppose_56 : decode cX7_suppose 56 = .ok (.goto 35, 3) := by decide +kernel
theorem dX7_suppose_59 : decode cX7_suppose 59 = .ok (.aload_n 0, 1) := by decide +kernel
theorem dX7_suppose_60 : decode cX7_suppose 60 = .ok (.getfield 35, 3) := by decide +kernel
theorem dX7_suppose_63 : decode cX7_suppose 63 = .ok (.getfield 105, 3) := by decide +kernel
theorem dX7_suppose_66 : decode cX7_suppose 66 = .ok (.iload_n 1, 1) := by decide +kernel
theorem dX7_suppose_67 : decode cX7_suppose 67 = .ok (.iload_n 3, 1) := by decide +kernel
theorem dX7_suppose_68 : decode cX7_suppose 68 = .ok (.iastore, 1) := by decide +kernel
theorem dX7_suppose_69 : decode cX7_suppose 69 = .ok (.goto 22, 3) := by decide +kernel
theorem dX7_suppose_72 : decode cX7_suppose 72 = .ok (.aload_n 0, 1) := by decide +kernel
theorem dX7_suppose_73 : decode cX7_suppose 73 = .ok (.getfield 35, 3) := by decide +kernel
theorem dX7_suppose_76 : decode cX7_suppose 76 = .ok (.iload_n 3, 1) := by decide +kernel
theorem dX7_suppose_77 : decode cX7_suppose 77 = .ok (.putfield 108, 3) := by decide +kernel
theorem dX7_suppose_80 : decode cX7_suppose 80 = .ok (.goto 11, 3) := by decide +kernel
theorem dX7_suppose_83 : decode cX7_suppose 83 = .ok (.aload_n 0, 1) := by decide +kernel
theorem dX7_suppose_84 : decode cX7_suppose 84 = .ok (.getfield 35, 3) := by decide +kernel
theorem dX7_suppose_87 : decode cX7_suppose 87 = .ok (.iload_n 3, 1) := by decide +kernel
theorem dX7_suppose_88 : decode cX7_suppose 88 = .ok (.putfield 111, 3) := by decide +kernel
theorem dX7_suppose_91 : decode cX7_suppose 91 = .ok (.return_, 1) := by decide +kernel
set_option maxRecDepth 20000 in
theorem ggX7_isTold_X1_hasFrost : GoodIn wsX7_isTold wsX1_hasFrost := goodIn_r _ [8, 9, 10, 84, 85, 86, 87, 88, 89, 90, 91, 92, 93, 94, 95, 96] (by decide +kernel) (by decide +kernel)
set_option maxRecDepth 20000 in
theorem gX7_isTold_X1_hasFrost : GoodIn wsX7_isTold (wsV RX7 42 RX1 yX1_hasFrost wsX1_hasFrost) := goodIn_app (goodIn_of _ (by decide +kernel)) ggX7_isTold_X1_hasFrost
set_option maxRecDepth 20000 in
theorem ggX7_isTold_X1_pass : GoodIn wsX7_isTold wsX1_pass := goodIn_r _ [14, 15, 16, 17, 18, 19, 20, 21, 22, 10, 23, 24, 25, 7, 26, 27, 28, 29, 30, 31, 32, 33, 34, 35, 36, 37, 38, 39, 40, 41, 42, 43, 44, 45, 46, 47, 48, 49, 50, 51, 52, 53, 54, 55, 56, 57, 58, 59, 60, 61, 62, 63, 64, 65, 66, 67, 68, 69, 70, 71, 72, 73, 74, 75, 84, 85, 86, 87, 88, 89, 90, 91, 92, 93, 94, 95, 96] (by decide +kernel) (by decide +kernel)
set_option maxRecDepth 20000 in
theorem gX7_isTold_X1_pass : GoodIn wsX7_isTold (wsV RX7 46 RX1 yX1_pass wsX1_pass) := goodIn_app (goodIn_of _ (by decide +kernel)) ggX7_isTold_X1_pass
theorem dX7_isTold_0 : decode cX7_isTold 0 = .ok (.iload_n 3, 1) := by decide +kernel
theorem dX7_isTold_1 : decode cX7_isTold 1 = .ok (.istore 5, 2) := by decide +kernel
theorem dX7_isTold_3 : decode cX7_isTold 3 = .ok (.iload 5, 2) := by decide +kernel
theorem dX7_isTold_5 : decode cX7_isTold 5 = .ok (.iload_n 3, 1) := by decide +kernel
theorem dX7_isTold_6 : decode cX7_isTold 6 = .ok (.iload 4, 2) := by decide +kernel
theorem dX7_isTold_8 : decode cX7_isTold 8 = .ok (.iadd, 1) := by decide +kernel
theorem dX7_isTold_9 : decode cX7_isTold 9 = .ok (.if_icmp .ge 51, 3) := by decide +kernel
theorem dX7_isTold_12 : decode cX7_isTold 12 = .ok (.iload 5, 2) := by decide +kernel
theorem dX7_isTold_14 : decode cX7_isTold 14 = .ok (.bipush 40, 2) := by decide +kernel
theorem dX7_isTold_16 : decode cX7_isTold 16 = .ok (.if_icmp .ge 44, 3) := by decide +kernel
theorem dX7_isTold_19 : decode cX7_isTold 19 = .ok (.aload_n 0, 1) := by decide +kernel
theorem dX7_isTold_20 : decode cX7_isTold 20 = .ok (.getfield 35, 3) := by decide +kernel
theorem dX7_isTold_23 : decode cX7_isTold 23 = .ok (.aload_n 0, 1) := by decide +kernel
theorem dX7_isTold_24 : decode cX7_isTold 24 = .ok (.getfield 35, 3) := by decide +kernel
theorem dX7_isTold_27 : decode cX7_isTold 27 = .ok (.invokevirtual 42, 3) := by decide +kernel
theorem dX7_isTold_30 : decode cX7_isTold 30 = .ok (.invokevirtual 46, 3) := by decide +kernel
theorem dX7_isTold_33 : decode cX7_isTold 33 = .ok (.aload_n 0, 1) := by decide +kernel
theorem dX7_isTold_34 : decode cX7_isTold 34 = .ok (.getfield 35, 3) := by decide +kernel
theorem dX7_isTold_37 : decode cX7_isTold 37 = .ok (.getfield 50, 3) := by decide +kernel
theorem dX7_isTold_40 : decode cX7_isTold 40 = .ok (.iload_n 1, 1) := by decide +kernel
theorem dX7_isTold_41 : decode cX7_isTold 41 = .ok (.iaload, 1) := by decide +kernel
theorem dX7_isTold_42 : decode cX7_isTold 42 = .ok (.aload_n 2, 1) := by decide +kernel
theorem dX7_isTold_43 : decode cX7_isTold 43 = .ok (.getfield 114, 3) := by decide +kernel
theorem dX7_isTold_46 : decode cX7_isTold 46 = .ok (.iload 5, 2) := by decide +kernel
theorem dX7_isTold_48 : decode cX7_isTold 48 = .ok (.iaload, 1) := by decide +kernel
theorem dX7_isTold_49 : decode cX7_isTold 49 = .ok (.if_icmp .eq 5, 3) := by decide +kernel
theorem dX7_isTold_52 : decode cX7_isTold 52 = .ok (.iconst 0, 1) := by decide +kernel
theorem dX7_isTold_53 : decode cX7_isTold 53 = .ok (.ireturn, 1) := by decide +kernel
theorem dX7_isTold_54 : decode cX7_isTold 54 = .ok (.iinc 5 1, 3) := by decide +kernel
theorem dX7_isTold_57 : decode cX7_isTold 57 = .ok (.goto (-54), 3) := by decide +kernel
theorem dX7_isTold_60 : decode cX7_isTold 60 = .ok (.iconst 1, 1) := by decide +kernel
theorem dX7_isTold_61 : decode cX7_isTold 61 = .ok (.ireturn, 1) := by decide +kernel
set_option maxRecDepth 20000 in
theorem ggX7_waysToRise_X1_become : GoodIn wsX7_waysToRise wsX1_become := goodIn_r _ [7, 8, 9, 10, 11, 12, 13, 14, 15, 16, 17, 18, 19, 20, 21, 22, 95, 96, 97, 98, 99, 100, 101, 102, 103, 104, 105, 106, 107] (by decide +kernel) (by decide +kernel)
set_option maxRecDepth 20000 in
theorem gX7_waysToRise_X1_become : GoodIn wsX7_waysToRise (wsV RX7 38 RX1 yX1_become wsX1_become) := goodIn_app (goodIn_of _ (by decide +kernel)) ggX7_waysToRise_X1_become
set_option maxRecDepth 20000 in
theorem ggX7_waysToRise_X7_waysFrom : GoodIn wsX7_waysToRise wsX7_waysFrom := goodIn_r _ [27, 1, 28, 3, 4, 5, 6, 7, 8, 9, 10, 11, 12, 13, 14, 15, 16, 17, 18, 19, 20, 21, 22, 29, 30, 31, 32, 33, 34, 35, 36, 37, 38, 39, 40, 41, 42, 43, 44, 45, 46, 47, 48, 49, 50, 51, 52, 53, 54, 55, 56, 57, 58, 59, 60, 61, 62, 63, 64, 65, 66, 67, 68, 69, 70, 71, 72, 73, 74, 75, 76, 77, 78, 79, 80, 81, 82, 83, 84, 85, 86, 23, 24, 25, 26, 87, 88, 89, 90, 91, 92, 93, 94, 95, 96, 97, 98, 99, 100, 101, 102, 103, 104, 105, 106, 107] (by decide +kernel) (by decide +kernel)
set_option maxRecDepth 20000 in
theorem gX7_waysToRise_X7_waysFrom : GoodIn wsX7_waysToRise (wsV RX7 119 RX7 yX7_waysFrom wsX7_waysFrom) := goodIn_app (goodIn_of _ (by decide +kernel)) ggX7_waysToRise_X7_waysFrom
theorem dX7_waysToRise_0 : decode cX7_waysToRise 0 = .ok (.iload_n 3, 1) := by decide +kernel
theorem dX7_waysToRise_1 : decode cX7_waysToRise 1 = .ok (.ifCond .lt 9, 3) := by decide +kernel
theorem dX7_waysToRise_4 : decode cX7_waysToRise 4 = .ok (.iload_n 3, 1) := by decide +kernel
theorem dX7_waysToRise_5 : decode cX7_waysToRise 5 = .ok (.bipush 8, 2) := by decide +kernel
theorem dX7_waysToRise_7 : decode cX7_waysToRise 7 = .ok (.if_icmp .le 5, 3) := by decide +kernel
theorem dX7_waysToRise_10 : decode cX7_waysToRise 10 = .ok (.iconst 0, 1) := by decide +kernel
theorem dX7_waysToRise_11 : decode cX7_waysToRise 11 = .ok (.ireturn, 1) := by decide +kernel
theorem dX7_waysToRise_12 : decode cX7_waysToRise 12 = .ok (.aload_n 0, 1) := by decide +kernel
theorem dX7_waysToRise_13 : decode cX7_waysToRise 13 = .ok (.getfield 11, 3) := by decide +kernel
theorem dX7_waysToRise_16 : decode cX7_waysToRise 16 = .ok (.iload_n 3, 1) := by decide +kernel
theorem dX7_waysToRise_17 : decode cX7_waysToRise 17 = .ok (.aaload, 1) := by decide +kernel
theorem dX7_waysToRise_18 : decode cX7_waysToRise 18 = .ok (.aload_n 0, 1) := by decide +kernel
theorem dX7_waysToRise_19 : decode cX7_waysToRise 19 = .ok (.getfield 24, 3) := by decide +kernel
theorem dX7_waysToRise_22 : decode cX7_waysToRise 22 = .ok (.invokevirtual 38, 3) := by decide +kernel
theorem dX7_waysToRise_25 : decode cX7_waysToRise 25 = .ok (.aload_n 0, 1) := by decide +kernel
theorem dX7_waysToRise_26 : decode cX7_waysToRise 26 = .ok (.iload_n 1, 1) := by decide +kernel
theorem dX7_waysToRise_27 : decode cX7_waysToRise 27 = .ok (.iload_n 2, 1) := by decide +kernel
theorem dX7_waysToRise_28 : decode cX7_waysToRise 28 = .ok (.iload_n 3, 1) := by decide +kernel
theorem dX7_waysToRise_29 : decode cX7_waysToRise 29 = .ok (.iload 4, 2) := by decide +kernel
theorem dX7_waysToRise_31 : decode cX7_waysToRise 31 = .ok (.invokevirtual 119, 3) := by decide +kernel
theorem dX7_waysToRise_34 : decode cX7_waysToRise 34 = .ok (.ireturn, 1) := by decide +kernel
set_option maxRecDepth 20000 in
theorem ggX7_waysFrom_X1_become : GoodIn wsX7_waysFrom wsX1_become := goodIn_r _ [7, 8, 9, 10, 11, 12, 13, 14, 15, 16, 17, 18, 19, 20, 21, 22, 93, 94, 95, 96, 97, 98, 99, 100, 101, 102, 103, 104, 105] (by decide +kernel) (by decide +kernel)
set_option maxRecDepth 20000 in
theorem gX7_waysFrom_X1_become : GoodIn wsX7_waysFrom (wsV RX7 38 RX1 yX1_become wsX1_become) := goodIn_app (goodIn_of _ (by decide +kernel)) ggX7_waysFrom_X1_become
set_option maxRecDepth 20000 in
theorem ggX7_waysFrom_X1_pass : GoodIn wsX7_waysFrom wsX1_pass := goodIn_r _ [26, 8, 18, 27, 13, 28, 29, 30, 31, 9, 32, 33, 34, 6, 35, 12, 20, 36, 19, 37, 38, 39, 40, 22, 41, 42, 43, 44, 45, 46, 47, 48, 49, 50, 51, 52, 53, 54, 55, 56, 57, 58, 59, 60, 61, 62, 63, 64, 65, 66, 67, 68, 69, 70, 71, 72, 73, 74, 75, 76, 77, 78, 79, 80, 93, 94, 95, 96, 97, 98, 99, 100, 101, 102, 103, 104, 105] (by decide +kernel) (by decide +kernel)
set_option maxRecDepth 20000 in
theorem gX7_waysFrom_X1_pass : GoodIn wsX7_waysFrom (wsV RX7 46 RX1 yX1_pass wsX1_pass) := goodIn_app (goodIn_of _ (by decide +kernel)) ggX7_waysFrom_X1_pass
set_option maxRecDepth 20000 in
theorem ggX7_waysFrom_X7_waysFrom : GoodIn wsX7_waysFrom wsX7_waysFrom := goodIn_r _ [0, 1, 2, 3, 4, 5, 6, 7, 8, 9, 10, 11, 12, 13, 14, 15, 16, 17, 18, 19, 20, 21, 22, 23, 24, 25, 26, 27, 28, 29, 30, 31, 32, 33, 34, 35, 36, 37, 38, 39, 40, 41, 42, 43, 44, 45, 46, 47, 48, 49, 50, 51, 52, 53, 54, 55, 56, 57, 58, 59, 60, 61, 62, 63, 64, 65, 66, 67, 68, 69, 70, 71, 72, 73, 74, 75, 76, 77, 78, 79, 80, 81, 82, 83, 84, 85, 86, 87, 88, 89, 90, 91, 92, 93, 94, 95, 96, 97, 98, 99, 100, 101, 102, 103, 104, 105] (by decide +kernel) (by decide +kernel)
set_option maxRecDepth 20000 in
theorem gX7_waysFrom_X7_waysFrom : GoodIn wsX7_waysFrom (wsV RX7 119 RX7 yX7_waysFrom wsX7_waysFrom) := goodIn_app (goodIn_of _ (by decide +kernel)) ggX7_waysFrom_X7_waysFrom
theorem dX7_waysFrom_0 : decode cX7_waysFrom 0 = .ok (.iload_n 3, 1) := by decide +kernel
theorem dX7_waysFrom_1 : decode cX7_waysFrom 1 = .ok (.ifCond .le 9, 3) := by decide +kernel
theorem dX7_waysFrom_4 : decode cX7_waysFrom 4 = .ok (.iload_n 3, 1) := by decide +kernel
theorem dX7_waysFrom_5 : decode cX7_waysFrom 5 = .ok (.bipush 8, 2) := by decide +kernel
theorem dX7_waysFrom_7 : decode cX7_waysFrom 7 = .ok (.if_icmp .le 24, 3) := by decide +kernel
theorem dX7_waysFrom_10 : decode cX7_waysFrom 10 = .ok (.aload_n 0, 1) := by decide +kernel
theorem dX7_waysFrom_11 : decode cX7_waysFrom 11 = .ok (.getfield 11, 3) := by decide +kernel
theorem dX7_waysFrom_14 : decode cX7_waysFrom 14 = .ok (.iconst 0, 1) := by decide +kernel
theorem dX7_waysFrom_15 : decode cX7_waysFrom 15 = .ok (.aaload, 1) := by decide +kernel
theorem dX7_waysFrom_16 : decode cX7_waysFrom 16 = .ok (.getfield 50, 3) := by decide +kernel
theorem dX7_waysFrom_19 : decode cX7_waysFrom 19 = .ok (.iload_n 1, 1) := by decide +kernel
theorem dX7_waysFrom_20 : decode cX7_waysFrom 20 = .ok (.iaload, 1) := by decide +kernel
theorem dX7_waysFrom_21 : decode cX7_waysFrom 21 = .ok (.iload_n 2, 1) := by decide +kernel
theorem dX7_waysFrom_22 : decode cX7_waysFrom 22 = .ok (.if_icmp .lt 7, 3) := by decide +kernel
theorem dX7_waysFrom_25 : decode cX7_waysFrom 25 = .ok (.iconst 1, 1) := by decide +kernel
theorem dX7_waysFrom_26 : decode cX7_waysFrom 26 = .ok (.goto 4, 3) := by decide +kernel
theorem dX7_waysFrom_29 : decode cX7_waysFrom 29 = .ok (.iconst 0, 1) := by decide +kernel
theorem dX7_waysFrom_30 : decode cX7_waysFrom 30 = .ok (.ireturn, 1) := by decide +kernel
theorem dX7_waysFrom_31 : decode cX7_waysFrom 31 = .ok (.iconst 0, 1) := by decide +kernel
theorem dX7_waysFrom_32 : decode cX7_waysFrom 32 = .ok (.istore 5, 2) := by decide +kernel
theorem dX7_waysFrom_34 : decode cX7_waysFrom 34 = .ok (.iload 4, 2) := by decide +kernel
theorem dX7_waysFrom_36 : decode cX7_waysFrom 36 = .ok (.ifCond .le 51, 3) := by decide +kernel
theorem dX7_waysFrom_39 : decode cX7_waysFrom 39 = .ok (.aload_n 0, 1) := by decide +kernel
theorem dX7_waysFrom_40 : decode cX7_waysFrom 40 = .ok (.getfield 11, 3) := by decide +kernel
theorem dX7_waysFrom_43 : decode cX7_waysFrom 43 = .ok (.iload_n 3, 1) := by decide +kernel
theorem dX7_waysFrom_44 : decode cX7_waysFrom 44 = .ok (.iconst 1, 1) := by decide +kernel
theorem dX7_waysFrom_45 : decode cX7_waysFrom 45 = .ok (.isub, 1) := by decide +kernel
theorem dX7_waysFrom_46 : decode cX7_waysFrom 46 = .ok (.aaload, 1) := by decide +kernel
theorem dX7_waysFrom_47 : decode cX7_waysFrom 47 = .ok (.aload_n 0, 1) := by decide +kernel
theorem dX7_waysFrom_48 : decode cX7_waysFrom 48 = .ok (.getfield 11, 3) := by decide +kernel
theorem dX7_waysFrom_51 : decode cX7_waysFrom 51 = .ok (.iload_n 3, 1) := by decide +kernel
theorem dX7_waysFrom_52 : decode cX7_waysFrom 52 = .ok (.aaload, 1) := by decide +kernel
theorem dX7_waysFrom_53 : decode cX7_waysFrom 53 = .ok (.invokevirtual 38, 3) := by decide +kernel
theorem dX7_waysFrom_56 : decode cX7_waysFrom 56 = .ok (.aload_n 0, 1) := by decide +kernel
theorem dX7_waysFrom_57 : decode cX7_waysFrom 57 = .ok (.getfield 11, 3) := by decide +kernel
theorem dX7_waysFrom_60 : decode cX7_waysFrom 60 = .ok (.iload_n 3, 1) := by decide +kernel
theorem dX7_waysFrom_61 : decode cX7_waysFrom 61 = .ok (.iconst 1, 1) := by decide +kernel
theorem dX7_waysFrom_62 : decode cX7_waysFrom 62 = .ok (.isub, 1) := by decide +kernel
theorem dX7_waysFrom_63 : decode cX7_waysFrom 63 = .ok (.aaload, 1) := by decide +kernel
theorem dX7_waysFrom_64 : decode cX7_waysFrom 64 = .ok (.iconst 1, 1) := by decide +kernel
theorem dX7_waysFrom_65 : decode cX7_waysFrom 65 = .ok (.invokevirtual 46, 3) := by decide +kernel
theorem dX7_waysFrom_68 : decode cX7_waysFrom 68 = .ok (.iload 5, 2) := by decide +kernel
theorem dX7_waysFrom_70 : decode cX7_waysFrom 70 = .ok (.iload 4, 2) := by decide +kernel
theorem dX7_waysFrom_72 : decode cX7_waysFrom 72 = .ok (.aload_n 0, 1) := by decide +kernel
theorem dX7_waysFrom_73 : decode cX7_waysFrom 73 = .ok (.iload_n 1, 1) := by decide +kernel
theorem dX7_waysFrom_74 : decode cX7_waysFrom 74 = .ok (.iload_n 2, 1) := by decide +kernel
theorem dX7_waysFrom_75 : decode cX7_waysFrom 75 = .ok (.iload_n 3, 1) := by decide +kernel
theorem dX7_waysFrom_76 : decode cX7_waysFrom 76 = .ok (.iconst 1, 1) := by decide +kernel
theorem dX7_waysFrom_77 : decode cX7_waysFrom 77 = .ok (.isub, 1) := by decide +kernel
theorem dX7_waysFrom_78 : decode cX7_waysFrom 78 = .ok (.iload 4, 2) := by decide +kernel
theorem dX7_waysFrom_80 : decode cX7_waysFrom 80 = .ok (.invokevirtual 119, 3) := by decide +kernel
theorem dX7_waysFrom_83 : decode cX7_waysFrom 83 = .ok (.imul, 1) := by decide +kernel
theorem dX7_waysFrom_84 : decode cX7_waysFrom 84 = .ok (.iadd, 1) := by decide +kernel
theorem dX7_waysFrom_85 : decode cX7_waysFrom 85 = .ok (.istore 5, 2) := by decide +kernel
theorem dX7_waysFrom_87 : decode cX7_waysFrom 87 = .ok (.iload 4, 2) := by decide +kernel
theorem dX7_waysFrom_89 : decode cX7_waysFrom 89 = .ok (.bipush 10, 2) := by decide +kernel
theorem dX7_waysFrom_91 : decode cX7_waysFrom 91 = .ok (.if_icmp .ge 54, 3) := by decide +kernel
theorem dX7_waysFrom_94 : decode cX7_waysFrom 94 = .ok (.aload_n 0, 1) := by decide +kernel
theorem dX7_waysFrom_95 : decode cX7_waysFrom 95 = .ok (.getfield 11, 3) := by decide +kernel
theorem dX7_waysFrom_98 : decode cX7_waysFrom 98 = .ok (.iload_n 3, 1) := by decide +kernel
theorem dX7_waysFrom_99 : decode cX7_waysFrom 99 = .ok (.iconst 1, 1) := by decide +kernel
theorem dX7_waysFrom_100 : decode cX7_waysFrom 100 = .ok (.isub, 1) := by decide +kernel
theorem dX7_waysFrom_101 : decode cX7_waysFrom 101 = .ok (.aaload, 1) := by decide +kernel
theorem dX7_waysFrom_102 : decode cX7_waysFrom 102 = .ok (.aload_n 0, 1) := by decide +kernel
theorem dX7_waysFrom_103 : decode cX7_waysFrom 103 = .ok (.getfield 11, 3) := by decide +kernel
theorem dX7_waysFrom_106 : decode cX7_waysFrom 106 = .ok (.iload_n 3, 1) := by decide +kernel
theorem dX7_waysFrom_107 : decode cX7_waysFrom 107 = .ok (.aaload, 1) := by decide +kernel
theorem dX7_waysFrom_108 : decode cX7_waysFrom 108 = .ok (.invokevirtual 38, 3) := by decide +kernel
theorem dX7_waysFrom_111 : decode cX7_waysFrom 111 = .ok (.aload_n 0, 1) := by decide +kernel
theorem dX7_waysFrom_112 : decode cX7_waysFrom 112 = .ok (.getfield 11, 3) := by decide +kernel
theorem dX7_waysFrom_115 : decode cX7_waysFrom 115 = .ok (.iload_n 3, 1) := by decide +kernel
theorem dX7_waysFrom_116 : decode cX7_waysFrom 116 = .ok (.iconst 1, 1) := by decide +kernel
theorem dX7_waysFrom_117 : decode cX7_waysFrom 117 = .ok (.isub, 1) := by decide +kernel
theorem dX7_waysFrom_118 : decode cX7_waysFrom 118 = .ok (.aaload, 1) := by decide +kernel
theorem dX7_waysFrom_119 : decode cX7_waysFrom 119 = .ok (.iconst 0, 1) := by decide +kernel
theorem dX7_waysFrom_120 : decode cX7_waysFrom 120 = .ok (.invokevirtual 46, 3) := by decide +kernel
theorem dX7_waysFrom_123 : decode cX7_waysFrom 123 = .ok (.iload 5, 2) := by decide +kernel
theorem dX7_waysFrom_125 : decode cX7_waysFrom 125 = .ok (.bipush 10, 2) := by decide +kernel
theorem dX7_waysFrom_127 : decode cX7_waysFrom 127 = .ok (.iload 4, 2) := by decide +kernel
theorem dX7_waysFrom_129 : decode cX7_waysFrom 129 = .ok (.isub, 1) := by decide +kernel
theorem dX7_waysFrom_130 : decode cX7_waysFrom 130 = .ok (.aload_n 0, 1) := by decide +kernel
theorem dX7_waysFrom_131 : decode cX7_waysFrom 131 = .ok (.iload_n 1, 1) := by decide +kernel
theorem dX7_waysFrom_132 : decode cX7_waysFrom 132 = .ok (.iload_n 2, 1) := by decide +kernel
theorem dX7_waysFrom_133 : decode cX7_waysFrom 133 = .ok (.iload_n 3, 1) := by decide +kernel
theorem dX7_waysFrom_134 : decode cX7_waysFrom 134 = .ok (.iconst 1, 1) := by decide +kernel
theorem dX7_waysFrom_135 : decode cX7_waysFrom 135 = .ok (.isub, 1) := by decide +kernel
theorem dX7_waysFrom_136 : decode cX7_waysFrom 136 = .ok (.iload 4, 2) := by decide +kernel
theorem dX7_waysFrom_138 : decode cX7_waysFrom 138 = .ok (.invokevirtual 119, 3) := by decide +kernel
theorem dX7_waysFrom_141 : decode cX7_waysFrom 141 = .ok (.imul, 1) := by decide +kernel
theorem dX7_waysFrom_142 : decode cX7_waysFrom 142 = .ok (.iadd, 1) := by decide +kernel
theorem dX7_waysFrom_143 : decode cX7_waysFrom 143 = .ok (.istore 5, 2) := by decide +kernel
theorem dX7_waysFrom_145 : decode cX7_waysFrom 145 = .ok (.iload 5, 2) := by decide +kernel
theorem dX7_waysFrom_147 : decode cX7_waysFrom 147 = .ok (.ireturn, 1) := by decide +kernel
set_option maxRecDepth 20000 in
theorem ggX7_century_X1_become : GoodIn wsX7_century wsX1_become := goodIn_r _ [14, 15, 16, 17, 18, 19, 20, 21, 22, 23, 24, 25, 26, 27, 28, 29, 104, 105, 106, 107, 108, 109, 110, 111, 112, 113, 114, 115, 116] (by decide +kernel) (by decide +kernel)
set_option maxRecDepth 20000 in
theorem gX7_century_X1_become : GoodIn wsX7_century (wsV RX7 38 RX1 yX1_become wsX1_become) := goodIn_app (goodIn_of _ (by decide +kernel)) ggX7_century_X1_become
set_option maxRecDepth 20000 in
theorem ggX7_century_X1_exchange : GoodIn wsX7_century wsX1_exchange := goodIn_r _ [33, 28, 29, 104, 105, 106, 107, 108, 109, 110, 111, 112, 113, 114, 115, 116] (by decide +kernel) (by decide +kernel)
set_option maxRecDepth 20000 in
theorem gX7_century_X1_exchange : GoodIn wsX7_century (wsV RX7 91 RX1 yX1_exchange wsX1_exchange) := goodIn_app (goodIn_of _ (by decide +kernel)) ggX7_century_X1_exchange
set_option maxRecDepth 20000 in
theorem ggX7_century_X1_hasFrost : GoodIn wsX7_century wsX1_hasFrost := goodIn_r _ [37, 18, 16, 104, 105, 106, 107, 108, 109, 110, 111, 112, 113, 114, 115, 116] (by decide +kernel) (by decide +kernel)
set_option maxRecDepth 20000 in
theorem gX7_century_X1_hasFrost : GoodIn wsX7_century (wsV RX7 42 RX1 yX1_hasFrost wsX1_hasFrost) := goodIn_app (goodIn_of _ (by decide +kernel)) ggX7_century_X1_hasFrost
set_option maxRecDepth 20000 in
theorem ggX7_century_X1_pass : GoodIn wsX7_century wsX1_pass := goodIn_r _ [41, 15, 25, 42, 20, 43, 44, 45, 46, 16, 47, 48, 49, 13, 50, 19, 27, 51, 26, 52, 53, 54, 55, 29, 56, 57, 58, 59, 60, 61, 62, 63, 64, 65, 66, 67, 68, 69, 70, 71, 72, 73, 74, 75, 76, 77, 78, 79, 80, 81, 82, 83, 84, 85, 86, 87, 88, 89, 90, 91, 92, 93, 94, 95, 104, 105, 106, 107, 108, 109, 110, 111, 112, 113, 114, 115, 116] (by decide +kernel) (by decide +kernel)
set_option maxRecDepth 20000 in
theorem gX7_century_X1_pass : GoodIn wsX7_century (wsV RX7 46 RX1 yX1_pass wsX1_pass) := goodIn_app (goodIn_of _ (by decide +kernel)) ggX7_century_X1_pass
theorem dX7_century_0 : decode cX7_century 0 = .ok (.aload_n 0, 1) := by decide +kernel
theorem dX7_century_1 : decode cX7_century 1 = .ok (.getfield 35, 3) := by decide +kernel
theorem dX7_century_4 : decode cX7_century 4 = .ok (.aload_n 0, 1) := by decide +kernel
theorem dX7_century_5 : decode cX7_century 5 = .ok (.getfield 24, 3) := by decide +kernel
theorem dX7_century_8 : decode cX7_century 8 = .ok (.invokevirtual 38, 3) := by decide +kernel
theorem dX7_century_11 : decode cX7_century 11 = .ok (.aload_n 0, 1) := by decide +kernel
theorem dX7_century_12 : decode cX7_century 12 = .ok (.getfield 35, 3) := by decide +kernel
theorem dX7_century_15 : decode cX7_century 15 = .ok (.getfield 54, 3) := by decide +kernel
theorem dX7_century_18 : decode cX7_century 18 = .ok (.istore_n 3, 1) := by decide +kernel
theorem dX7_century_19 : decode cX7_century 19 = .ok (.iload_n 2, 1) := by decide +kernel
theorem dX7_century_20 : decode cX7_century 20 = .ok (.i2l, 1) := by decide +kernel
theorem dX7_century_21 : decode cX7_century 21 = .ok (.lstore 4, 2) := by decide +kernel
theorem dX7_century_23 : decode cX7_century 23 = .ok (.iconst 0, 1) := by decide +kernel
theorem dX7_century_24 : decode cX7_century 24 = .ok (.istore 6, 2) := by decide +kernel
theorem dX7_century_26 : decode cX7_century 26 = .ok (.iload 6, 2) := by decide +kernel
theorem dX7_century_28 : decode cX7_century 28 = .ok (.iload_n 1, 1) := by decide +kernel
theorem dX7_century_29 : decode cX7_century 29 = .ok (.if_icmp .ge 97, 3) := by decide +kernel
theorem dX7_century_32 : decode cX7_century 32 = .ok (.iload_n 3, 1) := by decide +kernel
theorem dX7_century_33 : decode cX7_century 33 = .ok (.ifCond .le 93, 3) := by decide +kernel
theorem dX7_century_36 : decode cX7_century 36 = .ok (.lload 4, 2) := by decide +kernel
theorem dX7_century_38 : decode cX7_century 38 = .ok (.ldc2_w 123, 3) := by decide +kernel
theorem dX7_century_41 : decode cX7_century 41 = .ok (.lmul, 1) := by decide +kernel
theorem dX7_century_42 : decode cX7_century 42 = .ok (.ldc2_w 125, 3) := by decide +kernel
theorem dX7_century_45 : decode cX7_century 45 = .ok (.lrem, 1) := by decide +kernel
theorem dX7_century_46 : decode cX7_century 46 = .ok (.lstore 4, 2) := by decide +kernel
theorem dX7_century_48 : decode cX7_century 48 = .ok (.aload_n 0, 1) := by decide +kernel
theorem dX7_century_49 : decode cX7_century 49 = .ok (.getfield 35, 3) := by decide +kernel
theorem dX7_century_52 : decode cX7_century 52 = .ok (.iconst 1, 1) := by decide +kernel
theorem dX7_century_53 : decode cX7_century 53 = .ok (.lload 4, 2) := by decide +kernel
theorem dX7_century_55 : decode cX7_century 55 = .ok (.ldc2_w 127, 3) := by decide +kernel
theorem dX7_century_58 : decode cX7_century 58 = .ok (.lrem, 1) := by decide +kernel
theorem dX7_century_59 : decode cX7_century 59 = .ok (.l2i, 1) := by decide +kernel
theorem dX7_century_60 : decode cX7_century 60 = .ok (.iadd, 1) := by decide +kernel
theorem dX7_century_61 : decode cX7_century 61 = .ok (.putfield 108, 3) := by decide +kernel
theorem dX7_century_64 : decode cX7_century 64 = .ok (.lload 4, 2) := by decide +kernel
theorem dX7_century_66 : decode cX7_century 66 = .ok (.iload_n 3, 1) := by decide +kernel
theorem dX7_century_67 : decode cX7_century 67 = .ok (.i2l, 1) := by decide +kernel
theorem dX7_century_68 : decode cX7_century 68 = .ok (.lrem, 1) := by decide +kernel
theorem dX7_century_69 : decode cX7_century 69 = .ok (.l2i, 1) := by decide +kernel
theorem dX7_century_70 : decode cX7_century 70 = .ok (.istore 7, 2) := by decide +kernel
theorem dX7_century_72 : decode cX7_century 72 = .ok (.lload 4, 2) := by decide +kernel
theorem dX7_century_74 : decode cX7_century 74 = .ok (.ldc2_w 129, 3) := by decide +kernel
theorem dX7_century_77 : decode cX7_century 77 = .ok (.ldiv, 1) := by decide +kernel
theorem dX7_century_78 : decode cX7_century 78 = .ok (.iload_n 3, 1) := by decide +kernel
theorem dX7_century_79 : decode cX7_century 79 = .ok (.i2l, 1) := by decide +kernel
theorem dX7_century_80 : decode cX7_century 80 = .ok (.lrem, 1) := by decide +kernel
theorem dX7_century_81 : decode cX7_century 81 = .ok (.l2i, 1) := by decide +kernel
theorem dX7_century_82 : decode cX7_century 82 = .ok (.istore 8, 2) := by decide +kernel
theorem dX7_century_84 : decode cX7_century 84 = .ok (.lload 4, 2) := by decide +kernel
theorem dX7_century_86 : decode cX7_century 86 = .ok (.ldc2_w 131, 3) := by decide +kernel
theorem dX7_century_89 : decode cX7_century 89 = .ok (.lrem, 1) := by decide +kernel
theorem dX7_century_90 : decode cX7_century 90 = .ok (.lconst 0, 1) := by decide +kernel
theorem dX7_century_91 : decode cX7_century 91 = .ok (.lcmp, 1) := by decide +kernel
theorem dX7_century_92 : decode cX7_century 92 = .ok (.ifCond .ne 14, 3) := by decide +kernel
theorem dX7_century_95 : decode cX7_century 95 = .ok (.aload_n 0, 1) := by decide +kernel
theorem dX7_century_96 : decode cX7_century 96 = .ok (.getfield 35, 3) := by decide +kernel
theorem dX7_century_99 : decode cX7_century 99 = .ok (.iload 7, 2) := by decide +kernel
theorem dX7_century_101 : decode cX7_century 101 = .ok (.iload 8, 2) := by decide +kernel
theorem dX7_century_103 : decode cX7_century 103 = .ok (.invokevirtual 91, 3) := by decide +kernel
theorem dX7_century_106 : decode cX7_century 106 = .ok (.aload_n 0, 1) := by decide +kernel
theorem dX7_century_107 : decode cX7_century 107 = .ok (.getfield 35, 3) := by decide +kernel
theorem dX7_century_110 : decode cX7_century 110 = .ok (.aload_n 0, 1) := by decide +kernel
theorem dX7_century_111 : decode cX7_century 111 = .ok (.getfield 35, 3) := by decide +kernel
theorem dX7_century_114 : decode cX7_century 114 = .ok (.invokevirtual 42, 3) := by decide +kernel
theorem dX7_century_117 : decode cX7_century 117 = .ok (.invokevirtual 46, 3) := by decide +kernel
theorem dX7_century_120 : decode cX7_century 120 = .ok (.iinc 6 1, 3) := by decide +kernel
theorem dX7_century_123 : decode cX7_century 123 = .ok (.goto (-97), 3) := by decide +kernel
theorem dX7_century_126 : decode cX7_century 126 = .ok (.aload_n 0, 1) := by decide +kernel
theorem dX7_century_127 : decode cX7_century 127 = .ok (.getfield 35, 3) := by decide +kernel
theorem dX7_century_130 : decode cX7_century 130 = .ok (.areturn, 1) := by decide +kernel
set_option maxRecDepth 20000 in
theorem ggX8_init_X0_init : GoodIn wsX8_init wsX0_init := goodIn_r _ [4, 5, 6, 7, 8, 9, 10, 11, 12, 13, 14, 15, 16, 17] (by decide +kernel) (by decide +kernel)
set_option maxRecDepth 20000 in
theorem gX8_init_X0_init : GoodIn wsX8_init (wsX0_init) := ggX8_init_X0_init
theorem dX8_init_0 : decode cX8_init 0 = .ok (.aload_n 0, 1) := by decide +kernel
theorem dX8_init_1 : decode cX8_init 1 = .ok (.iload_n 1, 1) := by decide +kernel
theorem dX8_init_2 : decode cX8_init 2 = .ok (.invokespecial 1, 3) := by decide +kernel
theorem dX8_init_5 : decode cX8_init 5 = .ok (.return_, 1) := by decide +kernel
set_option maxRecDepth 20000 in
theorem ggX8_gainIn_X0_gainIn : GoodIn wsX8_gainIn wsX0_gainIn := goodIn_r _ [8, 9, 10, 11, 12, 13, 14, 15, 16, 17, 18, 19, 20, 21, 22, 23] (by decide +kernel) (by decide +kernel)
set_option maxRecDepth 20000 in
theorem gX8_gainIn_X0_gainIn_s17 : GoodIn wsX8_gainIn (va_wsSU RX8 17 yX0_gainIn wsX0_gainIn) := goodIn_app (goodIn_of _ (by decide +kernel)) ggX8_gainIn_X0_gainIn
theorem dX8_gainIn_0 : decode cX8_gainIn 0 = .ok (.aload_n 1, 1) := by decide +kernel
theorem dX8_gainIn_1 : decode cX8_gainIn 1 = .ok (.getfield 7, 3) := by decide +kernel
theorem dX8_gainIn_4 : decode cX8_gainIn 4 = .ok (.iload_n 2, 1) := by decide +kernel
theorem dX8_gainIn_5 : decode cX8_gainIn 5 = .ok (.iaload, 1) := by decide +kernel
theorem dX8_gainIn_6 : decode cX8_gainIn 6 = .ok (.ifCond .eq 12, 3) := by decide +kernel
theorem dX8_gainIn_9 : decode cX8_gainIn 9 = .ok (.iconst 2, 1) := by decide +kernel
theorem dX8_gainIn_10 : decode cX8_gainIn 10 = .ok (.aload_n 1, 1) := by decide +kernel
theorem dX8_gainIn_11 : decode cX8_gainIn 11 = .ok (.getfield 13, 3) := by decide +kernel
theorem dX8_gainIn_14 : decode cX8_gainIn 14 = .ok (.imul, 1) := by decide +kernel
theorem dX8_gainIn_15 : decode cX8_gainIn 15 = .ok (.goto 10, 3) := by decide +kernel
theorem dX8_gainIn_18 : decode cX8_gainIn 18 = .ok (.aload_n 0, 1) := by decide +kernel
theorem dX8_gainIn_19 : decode cX8_gainIn 19 = .ok (.aload_n 1, 1) := by decide +kernel
theorem dX8_gainIn_20 : decode cX8_gainIn 20 = .ok (.iload_n 2, 1) := by decide +kernel
theorem dX8_gainIn_21 : decode cX8_gainIn 21 = .ok (.iload_n 3, 1) := by decide +kernel
theorem dX8_gainIn_22 : decode cX8_gainIn 22 = .ok (.invokespecial 17, 3) := by decide +kernel
theorem dX8_gainIn_25 : decode cX8_gainIn 25 = .ok (.ireturn, 1) := by decide +kernel
set_option maxRecDepth 20000 in
theorem ggX8_size_X10_leave : GoodIn wsX8_size wsX10_leave := goodIn_r _ [5, 6, 7, 23, 24] (by decide +kernel) (by decide +kernel)
set_option maxRecDepth 20000 in
theorem gX8_size_X10_leave : GoodIn wsX8_size (wsV RX8 21 RX10 yX10_leave wsX10_leave) := goodIn_app (goodIn_of _ (by decide +kernel)) ggX8_size_X10_leave
set_option maxRecDepth 20000 in
theorem ggX8_size_X0_size : GoodIn wsX8_size wsX0_size := goodIn_r _ [13, 14, 2, 3, 4, 5, 6, 7, 15, 16, 17, 18, 19, 20, 21, 22, 23, 24, 25, 26, 27, 28, 29, 30, 31, 32, 33, 34, 35, 36, 37] (by decide +kernel) (by decide +kernel)
set_option maxRecDepth 20000 in
theorem gX8_size_X0_size_s26 : GoodIn wsX8_size (va_wsSU RX8 26 yX0_size wsX0_size) := goodIn_app (goodIn_of _ (by decide +kernel)) ggX8_size_X0_size
theorem dX8_size_0 : decode cX8_size 0 = .ok (.aload_n 3, 1) := by decide +kernel
theorem dX8_size_1 : decode cX8_size 1 = .ok (.bipush 14, 2) := by decide +kernel
theorem dX8_size_3 : decode cX8_size 3 = .ok (.invokevirtual 21, 3) := by decide +kernel
theorem dX8_size_6 : decode cX8_size 6 = .ok (.iconst 2, 1) := by decide +kernel
theorem dX8_size_7 : decode cX8_size 7 = .ok (.aload_n 0, 1) := by decide +kernel
theorem dX8_size_8 : decode cX8_size 8 = .ok (.aload_n 1, 1) := by decide +kernel
theorem dX8_size_9 : decode cX8_size 9 = .ok (.iload_n 2, 1) := by decide +kernel
theorem dX8_size_10 : decode cX8_size 10 = .ok (.aload_n 3, 1) := by decide +kernel
theorem dX8_size_11 : decode cX8_size 11 = .ok (.invokespecial 26, 3) := by decide +kernel
theorem dX8_size_14 : decode cX8_size 14 = .ok (.imul, 1) := by decide +kernel
theorem dX8_size_15 : decode cX8_size 15 = .ok (.ireturn, 1) := by decide +kernel
theorem dX9_init_0 : decode cX9_init 0 = .ok (.aload_n 0, 1) := by decide +kernel
theorem dX9_init_1 : decode cX9_init 1 = .ok (.invokespecial 3, 3) := by decide +kernel
theorem dX9_init_4 : decode cX9_init 4 = .ok (.aload_n 0, 1) := by decide +kernel
theorem dX9_init_5 : decode cX9_init 5 = .ok (.bipush 90, 2) := by decide +kernel
theorem dX9_init_7 : decode cX9_init 7 = .ok (.newarray .int, 2) := by decide +kernel
theorem dX9_init_9 : decode cX9_init 9 = .ok (.putfield 9, 3) := by decide +kernel
theorem dX9_init_12 : decode cX9_init 12 = .ok (.return_, 1) := by decide +kernel
theorem dX9_add_0 : decode cX9_add 0 = .ok (.aload_n 0, 1) := by decide +kernel
theorem dX9_add_1 : decode cX9_add 1 = .ok (.getfield 15, 3) := by decide +kernel
theorem dX9_add_4 : decode cX9_add 4 = .ok (.bipush 90, 2) := by decide +kernel
theorem dX9_add_6 : decode cX9_add 6 = .ok (.if_icmp .lt 5, 3) := by decide +kernel
theorem dX9_add_9 : decode cX9_add 9 = .ok (.iconst 0, 1) := by decide +kernel
theorem dX9_add_10 : decode cX9_add 10 = .ok (.ireturn, 1) := by decide +kernel
theorem dX9_add_11 : decode cX9_add 11 = .ok (.aload_n 0, 1) := by decide +kernel
theorem dX9_add_12 : decode cX9_add 12 = .ok (.getfield 9, 3) := by decide +kernel
theorem dX9_add_15 : decode cX9_add 15 = .ok (.aload_n 0, 1) := by decide +kernel
theorem dX9_add_16 : decode cX9_add 16 = .ok (.getfield 15, 3) := by decide +kernel
theorem dX9_add_19 : decode cX9_add 19 = .ok (.iload_n 1, 1) := by decide +kernel
theorem dX9_add_20 : decode cX9_add 20 = .ok (.iastore, 1) := by decide +kernel
theorem dX9_add_21 : decode cX9_add 21 = .ok (.aload_n 0, 1) := by decide +kernel
theorem dX9_add_22 : decode cX9_add 22 = .ok (.dup, 1) := by decide +kernel
theorem dX9_add_23 : decode cX9_add 23 = .ok (.getfield 15, 3) := by decide +kernel
theorem dX9_add_26 : decode cX9_add 26 = .ok (.iconst 1, 1) := by decide +kernel
theorem dX9_add_27 : decode cX9_add 27 = .ok (.iadd, 1) := by decide +kernel
theorem dX9_add_28 : decode cX9_add 28 = .ok (.putfield 15, 3) := by decide +kernel
theorem dX9_add_31 : decode cX9_add 31 = .ok (.iconst 1, 1) := by decide +kernel
theorem dX9_add_32 : decode cX9_add 32 = .ok (.ireturn, 1) := by decide +kernel
set_option maxRecDepth 20000 in
theorem ggX9_readInto_X1_begin : GoodIn wsX9_readInto wsX1_begin := goodIn_r _ [7, 8, 9, 10, 11, 12, 62, 63, 64, 65, 66, 67, 68, 69, 70, 71, 72, 73, 74] (by decide +kernel) (by decide +kernel)
set_option maxRecDepth 20000 in
theorem gX9_readInto_X1_begin : GoodIn wsX9_readInto (wsV RX9 22 RX1 yX1_begin wsX1_begin) := goodIn_app (goodIn_of _ (by decide +kernel)) ggX9_readInto_X1_begin
set_option maxRecDepth 20000 in
theorem ggX9_readInto_X9_readLaw : GoodIn wsX9_readInto wsX9_readLaw := goodIn_r _ [17, 18, 19, 20, 21, 22, 23, 16, 24, 1, 25, 26, 27, 28, 2, 29, 30, 31, 32, 33, 34, 35, 36, 37, 38, 39, 40, 41, 42, 43, 44, 57, 58, 59, 60, 61, 62, 63, 64, 65, 66, 67, 68, 69, 70, 71, 72, 73, 74] (by decide +kernel) (by decide +kernel)
set_option maxRecDepth 20000 in
theorem gX9_readInto_X9_readLaw : GoodIn wsX9_readInto (wsV RX9 27 RX9 yX9_readLaw wsX9_readLaw) := goodIn_app (goodIn_of _ (by decide +kernel)) ggX9_readInto_X9_readLaw
set_option maxRecDepth 20000 in
theorem ggX9_readInto_X9_readTurnip : GoodIn wsX9_readInto wsX9_readTurnip := goodIn_r _ [48, 1, 49, 50, 51, 18, 52, 53, 25, 26, 27, 16, 28, 2, 29, 54, 55, 56, 30, 31, 32, 33, 34, 35, 36, 37, 38, 39, 40, 41, 42, 43, 44, 21, 22, 23, 24, 57, 58, 59, 60, 61, 62, 63, 64, 65, 66, 67, 68, 69, 70, 71, 72, 73, 74] (by decide +kernel) (by decide +kernel)
set_option maxRecDepth 20000 in
theorem gX9_readInto_X9_readTurnip : GoodIn wsX9_readInto (wsV RX9 31 RX9 yX9_readTurnip wsX9_readTurnip) := goodIn_app (goodIn_of _ (by decide +kernel)) ggX9_readInto_X9_readTurnip
theorem dX9_readInto_0 : decode cX9_readInto 0 = .ok (.aload_n 0, 1) := by decide +kernel
theorem dX9_readInto_1 : decode cX9_readInto 1 = .ok (.iconst 0, 1) := by decide +kernel
theorem dX9_readInto_2 : decode cX9_readInto 2 = .ok (.putfield 19, 3) := by decide +kernel
theorem dX9_readInto_5 : decode cX9_readInto 5 = .ok (.aload_n 1, 1) := by decide +kernel
theorem dX9_readInto_6 : decode cX9_readInto 6 = .ok (.invokevirtual 22, 3) := by decide +kernel
theorem dX9_readInto_9 : decode cX9_readInto 9 = .ok (.aload_n 0, 1) := by decide +kernel
theorem dX9_readInto_10 : decode cX9_readInto 10 = .ok (.aload_n 1, 1) := by decide +kernel
theorem dX9_readInto_11 : decode cX9_readInto 11 = .ok (.invokevirtual 27, 3) := by decide +kernel
theorem dX9_readInto_14 : decode cX9_readInto 14 = .ok (.ifCond .eq 16, 3) := by decide +kernel
theorem dX9_readInto_17 : decode cX9_readInto 17 = .ok (.aload_n 0, 1) := by decide +kernel
theorem dX9_readInto_18 : decode cX9_readInto 18 = .ok (.aload_n 1, 1) := by decide +kernel
theorem dX9_readInto_19 : decode cX9_readInto 19 = .ok (.aload_n 2, 1) := by decide +kernel
theorem dX9_readInto_20 : decode cX9_readInto 20 = .ok (.invokevirtual 31, 3) := by decide +kernel
theorem dX9_readInto_23 : decode cX9_readInto 23 = .ok (.ifCond .eq 7, 3) := by decide +kernel
theorem dX9_readInto_26 : decode cX9_readInto 26 = .ok (.iconst 1, 1) := by decide +kernel
theorem dX9_readInto_27 : decode cX9_readInto 27 = .ok (.goto 4, 3) := by decide +kernel
theorem dX9_readInto_30 : decode cX9_readInto 30 = .ok (.iconst 0, 1) := by decide +kernel
theorem dX9_readInto_31 : decode cX9_readInto 31 = .ok (.istore_n 3, 1) := by decide +kernel
theorem dX9_readInto_32 : decode cX9_readInto 32 = .ok (.iconst 0, 1) := by decide +kernel
theorem dX9_readInto_33 : decode cX9_readInto 33 = .ok (.istore 4, 2) := by decide +kernel
theorem dX9_readInto_35 : decode cX9_readInto 35 = .ok (.iload_n 3, 1) := by decide +kernel
theorem dX9_readInto_36 : decode cX9_readInto 36 = .ok (.ifCond .eq 34, 3) := by decide +kernel
theorem dX9_readInto_39 : decode cX9_readInto 39 = .ok (.aload_n 0, 1) := by decide +kernel
theorem dX9_readInto_40 : decode cX9_readInto 40 = .ok (.getfield 19, 3) := by decide +kernel
theorem dX9_readInto_43 : decode cX9_readInto 43 = .ok (.aload_n 0, 1) := by decide +kernel
theorem dX9_readInto_44 : decode cX9_readInto 44 = .ok (.getfield 15, 3) := by decide +kernel
theorem dX9_readInto_47 : decode cX9_readInto 47 = .ok (.if_icmp .ge 23, 3) := by decide +kernel
theorem dX9_readInto_50 : decode cX9_readInto 50 = .ok (.iload 4, 2) := by decide +kernel
theorem dX9_readInto_52 : decode cX9_readInto 52 = .ok (.bipush 90, 2) := by decide +kernel
theorem dX9_readInto_54 : decode cX9_readInto 54 = .ok (.if_icmp .ge 16, 3) := by decide +kernel
theorem dX9_readInto_57 : decode cX9_readInto 57 = .ok (.aload_n 0, 1) := by decide +kernel
theorem dX9_readInto_58 : decode cX9_readInto 58 = .ok (.aload_n 1, 1) := by decide +kernel
theorem dX9_readInto_59 : decode cX9_readInto 59 = .ok (.aload_n 2, 1) := by decide +kernel
theorem dX9_readInto_60 : decode cX9_readInto 60 = .ok (.invokevirtual 31, 3) := by decide +kernel
theorem dX9_readInto_63 : decode cX9_readInto 63 = .ok (.istore_n 3, 1) := by decide +kernel
theorem dX9_readInto_64 : decode cX9_readInto 64 = .ok (.iinc 4 1, 3) := by decide +kernel
theorem dX9_readInto_67 : decode cX9_readInto 67 = .ok (.goto (-32), 3) := by decide +kernel
theorem dX9_readInto_70 : decode cX9_readInto 70 = .ok (.iload_n 3, 1) := by decide +kernel
theorem dX9_readInto_71 : decode cX9_readInto 71 = .ok (.ireturn, 1) := by decide +kernel
set_option maxRecDepth 20000 in
theorem ggX9_readLaw_X9_readSign : GoodIn wsX9_readLaw wsX9_readSign := goodIn_r _ [8, 9, 10, 11, 12, 7, 13, 14, 15, 16, 17, 18, 19, 20, 31, 32, 33, 34, 35] (by decide +kernel) (by decide +kernel)
set_option maxRecDepth 20000 in
theorem gX9_readLaw_X9_readSign : GoodIn wsX9_readLaw (wsV RX9 35 RX9 yX9_readSign wsX9_readSign) := goodIn_app (goodIn_of _ (by decide +kernel)) ggX9_readLaw_X9_readSign
set_option maxRecDepth 20000 in
theorem ggX9_readLaw_X9_readNumber : GoodIn wsX9_readLaw wsX9_readNumber := goodIn_r _ [24, 9, 1, 10, 11, 12, 7, 13, 14, 15, 25, 26, 27, 16, 17, 18, 19, 20, 28, 29, 30, 31, 32, 33, 34, 35] (by decide +kernel) (by decide +kernel)
set_option maxRecDepth 20000 in
theorem gX9_readLaw_X9_readNumber : GoodIn wsX9_readLaw (wsV RX9 39 RX9 yX9_readNumber wsX9_readNumber) := goodIn_app (goodIn_of _ (by decide +kernel)) ggX9_readLaw_X9_readNumber
theorem dX9_readLaw_0 : decode cX9_readLaw 0 = .ok (.aload_n 0, 1) := by decide +kernel
theorem dX9_readLaw_1 : decode cX9_readLaw 1 = .ok (.bipush 103, 2) := by decide +kernel
theorem dX9_readLaw_3 : decode cX9_readLaw 3 = .ok (.invokevirtual 35, 3) := by decide +kernel
theorem dX9_readLaw_6 : decode cX9_readLaw 6 = .ok (.ifCond .eq 13, 3) := by decide +kernel
theorem dX9_readLaw_9 : decode cX9_readLaw 9 = .ok (.aload_n 0, 1) := by decide +kernel
theorem dX9_readLaw_10 : decode cX9_readLaw 10 = .ok (.iconst 1, 1) := by decide +kernel
theorem dX9_readLaw_11 : decode cX9_readLaw 11 = .ok (.bipush 9, 2) := by decide +kernel
theorem dX9_readLaw_13 : decode cX9_readLaw 13 = .ok (.invokevirtual 39, 3) := by decide +kernel
theorem dX9_readLaw_16 : decode cX9_readLaw 16 = .ok (.ifCond .ne 5, 3) := by decide +kernel
theorem dX9_readLaw_19 : decode cX9_readLaw 19 = .ok (.iconst 0, 1) := by decide +kernel
theorem dX9_readLaw_20 : decode cX9_readLaw 20 = .ok (.ireturn, 1) := by decide +kernel
theorem dX9_readLaw_21 : decode cX9_readLaw 21 = .ok (.aload_n 1, 1) := by decide +kernel
theorem dX9_readLaw_22 : decode cX9_readLaw 22 = .ok (.aload_n 0, 1) := by decide +kernel
theorem dX9_readLaw_23 : decode cX9_readLaw 23 = .ok (.getfield 43, 3) := by decide +kernel
theorem dX9_readLaw_26 : decode cX9_readLaw 26 = .ok (.putfield 46, 3) := by decide +kernel
theorem dX9_readLaw_29 : decode cX9_readLaw 29 = .ok (.aload_n 0, 1) := by decide +kernel
theorem dX9_readLaw_30 : decode cX9_readLaw 30 = .ok (.bipush 44, 2) := by decide +kernel
theorem dX9_readLaw_32 : decode cX9_readLaw 32 = .ok (.invokevirtual 35, 3) := by decide +kernel
theorem dX9_readLaw_35 : decode cX9_readLaw 35 = .ok (.ifCond .eq 13, 3) := by decide +kernel
theorem dX9_readLaw_38 : decode cX9_readLaw 38 = .ok (.aload_n 0, 1) := by decide +kernel
theorem dX9_readLaw_39 : decode cX9_readLaw 39 = .ok (.iconst 0, 1) := by decide +kernel
theorem dX9_readLaw_40 : decode cX9_readLaw 40 = .ok (.bipush 15, 2) := by decide +kernel
theorem dX9_readLaw_42 : decode cX9_readLaw 42 = .ok (.invokevirtual 39, 3) := by decide +kernel
theorem dX9_readLaw_45 : decode cX9_readLaw 45 = .ok (.ifCond .ne 5, 3) := by decide +kernel
theorem dX9_readLaw_48 : decode cX9_readLaw 48 = .ok (.iconst 0, 1) := by decide +kernel
theorem dX9_readLaw_49 : decode cX9_readLaw 49 = .ok (.ireturn, 1) := by decide +kernel
theorem dX9_readLaw_50 : decode cX9_readLaw 50 = .ok (.aload_n 1, 1) := by decide +kernel
theorem dX9_readLaw_51 : decode cX9_readLaw 51 = .ok (.aload_n 0, 1) := by decide +kernel
theorem dX9_readLaw_52 : decode cX9_readLaw 52 = .ok (.getfield 43, 3) := by decide +kernel
theorem dX9_readLaw_55 : decode cX9_readLaw 55 = .ok (.putfield 49, 3) := by decide +kernel
theorem dX9_readLaw_58 : decode cX9_readLaw 58 = .ok (.aload_n 0, 1) := by decide +kernel
theorem dX9_readLaw_59 : decode cX9_readLaw 59 = .ok (.bipush 59, 2) := by decide +kernel
theorem dX9_readLaw_61 : decode cX9_readLaw 61 = .ok (.invokevirtual 35, 3) := by decide +kernel
theorem dX9_readLaw_64 : decode cX9_readLaw 64 = .ok (.ireturn, 1) := by decide +kernel
set_option maxRecDepth 20000 in
theorem ggX9_readTurnip_X9_byteAt : GoodIn wsX9_readTurnip wsX9_byteAt := goodIn_r _ [12, 13, 14, 37, 38, 39, 40, 41] (by decide +kernel) (by decide +kernel)
set_option maxRecDepth 20000 in
theorem gX9_readTurnip_X9_byteAt : GoodIn wsX9_readTurnip (wsV RX9 52 RX9 yX9_byteAt wsX9_byteAt) := goodIn_app (goodIn_of _ (by decide +kernel)) ggX9_readTurnip_X9_byteAt
set_option maxRecDepth 20000 in
theorem ggX9_readTurnip_X9_sortOf : GoodIn wsX9_readTurnip wsX9_sortOf := goodIn_r _ [17] (by decide +kernel) (by decide +kernel)
set_option maxRecDepth 20000 in
theorem gX9_readTurnip_X9_sortOf : GoodIn wsX9_readTurnip (va_wsS RX9 56 yX9_sortOf wsX9_sortOf) := goodIn_app (goodIn_of _ (by decide +kernel)) ggX9_readTurnip_X9_sortOf
set_option maxRecDepth 20000 in
theorem ggX9_readTurnip_X9_failed : GoodIn wsX9_readTurnip wsX9_failed := goodIn_r _ [21, 22, 37, 38, 39, 40, 41] (by decide +kernel) (by decide +kernel)
set_option maxRecDepth 20000 in
theorem gX9_readTurnip_X9_failed : GoodIn wsX9_readTurnip (wsV RX9 59 RX9 yX9_failed wsX9_failed) := goodIn_app (goodIn_of _ (by decide +kernel)) ggX9_readTurnip_X9_failed
set_option maxRecDepth 20000 in
theorem ggX9_readTurnip_X9_readNumber : GoodIn wsX9_readTurnip wsX9_readNumber := goodIn_r _ [26, 1, 5, 8, 9, 10, 11, 12, 13, 14, 27, 28, 29, 18, 19, 20, 21, 22, 30, 31, 32, 37, 38, 39, 40, 41] (by decide +kernel) (by decide +kernel)
set_option maxRecDepth 20000 in
theorem gX9_readTurnip_X9_readNumber : GoodIn wsX9_readTurnip (wsV RX9 39 RX9 yX9_readNumber wsX9_readNumber) := goodIn_app (goodIn_of _ (by decide +kernel)) ggX9_readTurnip_X9_readNumber
set_option maxRecDepth 20000 in
theorem ggX9_readTurnip_X9_readSign : GoodIn wsX9_readTurnip wsX9_readSign := goodIn_r _ [36, 1, 8, 9, 10, 11, 12, 13, 14, 18, 19, 20, 21, 22, 37, 38, 39, 40, 41] (by decide +kernel) (by decide +kernel)
set_option maxRecDepth 20000 in
theorem gX9_readTurnip_X9_readSign : GoodIn wsX9_readTurnip (wsV RX9 35 RX9 yX9_readSign wsX9_readSign) := goodIn_app (goodIn_of _ (by decide +kernel)) ggX9_readTurnip_X9_readSign
theorem dX9_readTurnip_0 : decode cX9_readTurnip 0 = .ok (.aload_n 0, 1) := by decide +kernel
theorem dX9_readTurnip_1 : decode cX9_readTurnip 1 = .ok (.aload_n 0, 1) := by decide +kernel
theorem dX9_readTurnip_2 : decode cX9_readTurnip 2 = .ok (.getfield 19, 3) := by decide +kernel
theorem dX9_readTurnip_5 : decode cX9_readTurnip 5 = .ok (.invokevirtual 52, 3) := by decide +kernel
theorem dX9_readTurnip_8 : decode cX9_readTurnip 8 = .ok (.invokestatic 56, 3) := by decide +kernel
theorem dX9_readTurnip_11 : decode cX9_readTurnip 11 = .ok (.istore_n 3, 1) := by decide +kernel
theorem dX9_readTurnip_12 : decode cX9_readTurnip 12 = .ok (.iload_n 3, 1) := by decide +kernel
theorem dX9_readTurnip_13 : decode cX9_readTurnip 13 = .ok (.ifCond .lt 9, 3) := by decide +kernel
theorem dX9_readTurnip_16 : decode cX9_readTurnip 16 = .ok (.iload_n 3, 1) := by decide +kernel
theorem dX9_readTurnip_17 : decode cX9_readTurnip 17 = .ok (.aload_n 2, 1) := by decide +kernel
theorem dX9_readTurnip_18 : decode cX9_readTurnip 18 = .ok (.arraylength, 1) := by decide +kernel
theorem dX9_readTurnip_19 : decode cX9_readTurnip 19 = .ok (.if_icmp .lt 9, 3) := by decide +kernel
theorem dX9_readTurnip_22 : decode cX9_readTurnip 22 = .ok (.aload_n 0, 1) := by decide +kernel
theorem dX9_readTurnip_23 : decode cX9_readTurnip 23 = .ok (.iconst 1, 1) := by decide +kernel
theorem dX9_readTurnip_24 : decode cX9_readTurnip 24 = .ok (.invokevirtual 59, 3) := by decide +kernel
theorem dX9_readTurnip_27 : decode cX9_readTurnip 27 = .ok (.ireturn, 1) := by decide +kernel
theorem dX9_readTurnip_28 : decode cX9_readTurnip 28 = .ok (.aload_n 1, 1) := by decide +kernel
theorem dX9_readTurnip_29 : decode cX9_readTurnip 29 = .ok (.getfield 62, 3) := by decide +kernel
theorem dX9_readTurnip_32 : decode cX9_readTurnip 32 = .ok (.istore 4, 2) := by decide +kernel
theorem dX9_readTurnip_34 : decode cX9_readTurnip 34 = .ok (.iload 4, 2) := by decide +kernel
theorem dX9_readTurnip_36 : decode cX9_readTurnip 36 = .ok (.bipush 7, 2) := by decide +kernel
theorem dX9_readTurnip_38 : decode cX9_readTurnip 38 = .ok (.if_icmp .lt 9, 3) := by decide +kernel
theorem dX9_readTurnip_41 : decode cX9_readTurnip 41 = .ok (.aload_n 0, 1) := by decide +kernel
theorem dX9_readTurnip_42 : decode cX9_readTurnip 42 = .ok (.iconst 3, 1) := by decide +kernel
theorem dX9_readTurnip_43 : decode cX9_readTurnip 43 = .ok (.invokevirtual 59, 3) := by decide +kernel
theorem dX9_readTurnip_46 : decode cX9_readTurnip 46 = .ok (.ireturn, 1) := by decide +kernel
theorem dX9_readTurnip_47 : decode cX9_readTurnip 47 = .ok (.aload_n 0, 1) := by decide +kernel
theorem dX9_readTurnip_48 : decode cX9_readTurnip 48 = .ok (.dup, 1) := by decide +kernel
theorem dX9_readTurnip_49 : decode cX9_readTurnip 49 = .ok (.getfield 19, 3) := by decide +kernel
theorem dX9_readTurnip_52 : decode cX9_readTurnip 52 = .ok (.iconst 1, 1) := by decide +kernel
theorem dX9_readTurnip_53 : decode cX9_readTurnip 53 = .ok (.iadd, 1) := by decide +kernel
theorem dX9_readTurnip_54 : decode cX9_readTurnip 54 = .ok (.putfield 19, 3) := by decide +kernel
theorem dX9_readTurnip_57 : decode cX9_readTurnip 57 = .ok (.aload_n 1, 1) := by decide +kernel
theorem dX9_readTurnip_58 : decode cX9_readTurnip 58 = .ok (.getfield 65, 3) := by decide +kernel
theorem dX9_readTurnip_61 : decode cX9_readTurnip 61 = .ok (.iload 4, 2) := by decide +kernel
theorem dX9_readTurnip_63 : decode cX9_readTurnip 63 = .ok (.aload_n 2, 1) := by decide +kernel
theorem dX9_readTurnip_64 : decode cX9_readTurnip 64 = .ok (.iload_n 3, 1) := by decide +kernel
theorem dX9_readTurnip_65 : decode cX9_readTurnip 65 = .ok (.aaload, 1) := by decide +kernel
theorem dX9_readTurnip_66 : decode cX9_readTurnip 66 = .ok (.aastore, 1) := by decide +kernel
theorem dX9_readTurnip_67 : decode cX9_readTurnip 67 = .ok (.aload_n 0, 1) := by decide +kernel
theorem dX9_readTurnip_68 : decode cX9_readTurnip 68 = .ok (.iconst 0, 1) := by decide +kernel
theorem dX9_readTurnip_69 : decode cX9_readTurnip 69 = .ok (.bipush 9, 2) := by decide +kernel
theorem dX9_readTurnip_71 : decode cX9_readTurnip 71 = .ok (.invokevirtual 39, 3) := by decide +kernel
theorem dX9_readTurnip_74 : decode cX9_readTurnip 74 = .ok (.ifCond .ne 5, 3) := by decide +kernel
theorem dX9_readTurnip_77 : decode cX9_readTurnip 77 = .ok (.iconst 0, 1) := by decide +kernel
theorem dX9_readTurnip_78 : decode cX9_readTurnip 78 = .ok (.ireturn, 1) := by decide +kernel
theorem dX9_readTurnip_79 : decode cX9_readTurnip 79 = .ok (.aload_n 1, 1) := by decide +kernel
theorem dX9_readTurnip_80 : decode cX9_readTurnip 80 = .ok (.getfield 69, 3) := by decide +kernel
theorem dX9_readTurnip_83 : decode cX9_readTurnip 83 = .ok (.iload 4, 2) := by decide +kernel
theorem dX9_readTurnip_85 : decode cX9_readTurnip 85 = .ok (.aload_n 0, 1) := by decide +kernel
theorem dX9_readTurnip_86 : decode cX9_readTurnip 86 = .ok (.getfield 43, 3) := by decide +kernel
theorem dX9_readTurnip_89 : decode cX9_readTurnip 89 = .ok (.iastore, 1) := by decide +kernel
theorem dX9_readTurnip_90 : decode cX9_readTurnip 90 = .ok (.aload_n 0, 1) := by decide +kernel
theorem dX9_readTurnip_91 : decode cX9_readTurnip 91 = .ok (.bipush 44, 2) := by decide +kernel
theorem dX9_readTurnip_93 : decode cX9_readTurnip 93 = .ok (.invokevirtual 35, 3) := by decide +kernel
theorem dX9_readTurnip_96 : decode cX9_readTurnip 96 = .ok (.ifCond .eq 13, 3) := by decide +kernel
theorem dX9_readTurnip_99 : decode cX9_readTurnip 99 = .ok (.aload_n 0, 1) := by decide +kernel
theorem dX9_readTurnip_100 : decode cX9_readTurnip 100 = .ok (.iconst 0, 1) := by decide +kernel
theorem dX9_readTurnip_101 : decode cX9_readTurnip 101 = .ok (.bipush 9, 2) := by decide +kernel
theorem dX9_readTurnip_103 : decode cX9_readTurnip 103 = .ok (.invokevirtual 39, 3) := by decide +kernel
theorem dX9_readTurnip_106 : decode cX9_readTurnip 106 = .ok (.ifCond .ne 5, 3) := by decide +kernel
theorem dX9_readTurnip_109 : decode cX9_readTurnip 109 = .ok (.iconst 0, 1) := by decide +kernel
theorem dX9_readTurnip_110 : decode cX9_readTurnip 110 = .ok (.ireturn, 1) := by decide +kernel
theorem dX9_readTurnip_111 : decode cX9_readTurnip 111 = .ok (.aload_n 1, 1) := by decide +kernel
theorem dX9_readTurnip_112 : decode cX9_readTurnip 112 = .ok (.getfield 72, 3) := by decide +kernel
theorem dX9_readTurnip_115 : decode cX9_readTurnip 115 = .ok (.iload 4, 2) := by decide +kernel
theorem dX9_readTurnip_117 : decode cX9_readTurnip 117 = .ok (.aload_n 0, 1) := by decide +kernel
theorem dX9_readTurnip_118 : decode cX9_readTurnip 118 = .ok (.getfield 43, 3) := by decide +kernel
theorem dX9_readTurnip_121 : decode cX9_readTurnip 121 = .ok (.iastore, 1) := by decide +kernel
theorem dX9_readTurnip_122 : decode cX9_readTurnip 122 = .ok (.aload_n 0, 1) := by decide +kernel
theorem dX9_readTurnip_123 : decode cX9_readTurnip 123 = .ok (.bipush 44, 2) := by decide +kernel
theorem dX9_readTurnip_125 : decode cX9_readTurnip 125 = .ok (.invokevirtual 35, 3) := by decide +kernel
theorem dX9_readTurnip_128 : decode cX9_readTurnip 128 = .ok (.ifCond .eq 12, 3) := by decide +kernel
theorem dX9_readTurnip_131 : decode cX9_readTurnip 131 = .ok (.aload_n 0, 1) := by decide +kernel
theorem dX9_readTurnip_132 : decode cX9_readTurnip 132 = .ok (.iconst 0, 1) := by decide +kernel
theorem dX9_readTurnip_133 : decode cX9_readTurnip 133 = .ok (.iconst 1, 1) := by decide +kernel
theorem dX9_readTurnip_134 : decode cX9_readTurnip 134 = .ok (.invokevirtual 39, 3) := by decide +kernel
theorem dX9_readTurnip_137 : decode cX9_readTurnip 137 = .ok (.ifCond .ne 5, 3) := by decide +kernel
theorem dX9_readTurnip_140 : decode cX9_readTurnip 140 = .ok (.iconst 0, 1) := by decide +kernel
theorem dX9_readTurnip_141 : decode cX9_readTurnip 141 = .ok (.ireturn, 1) := by decide +kernel
theorem dX9_readTurnip_142 : decode cX9_readTurnip 142 = .ok (.aload_n 1, 1) := by decide +kernel
theorem dX9_readTurnip_143 : decode cX9_readTurnip 143 = .ok (.getfield 75, 3) := by decide +kernel
theorem dX9_readTurnip_146 : decode cX9_readTurnip 146 = .ok (.iload 4, 2) := by decide +kernel
theorem dX9_readTurnip_148 : decode cX9_readTurnip 148 = .ok (.aload_n 0, 1) := by decide +kernel
theorem dX9_readTurnip_149 : decode cX9_readTurnip 149 = .ok (.getfield 43, 3) := by decide +kernel
theorem dX9_readTurnip_152 : decode cX9_readTurnip 152 = .ok (.iastore, 1) := by decide +kernel
theorem dX9_readTurnip_153 : decode cX9_readTurnip 153 = .ok (.aload_n 1, 1) := by decide +kernel
theorem dX9_readTurnip_154 : decode cX9_readTurnip 154 = .ok (.dup, 1) := by decide +kernel
theorem dX9_readTurnip_155 : decode cX9_readTurnip 155 = .ok (.getfield 62, 3) := by decide +kernel
theorem dX9_readTurnip_158 : decode cX9_readTurnip 158 = .ok (.iconst 1, 1) := by decide +kernel
theorem dX9_readTurnip_159 : decode cX9_readTurnip 159 = .ok (.iadd, 1) := by decide +kernel
theorem dX9_readTurnip_160 : decode cX9_readTurnip 160 = .ok (.putfield 62, 3) := by decide +kernel
theorem dX9_readTurnip_163 : decode cX9_readTurnip 163 = .ok (.aload_n 0, 1) := by decide +kernel
theorem dX9_readTurnip_164 : decode cX9_readTurnip 164 = .ok (.bipush 59, 2) := by decide +kernel
theorem dX9_readTurnip_166 : decode cX9_readTurnip 166 = .ok (.invokevirtual 35, 3) := by decide +kernel
theorem dX9_readTurnip_169 : decode cX9_readTurnip 169 = .ok (.ireturn, 1) := by decide +kernel
set_option maxRecDepth 20000 in
theorem ggX9_readSign_X9_byteAt : GoodIn wsX9_readSign wsX9_byteAt := goodIn_r _ [6, 7, 8, 14, 15, 16, 17, 18] (by decide +kernel) (by decide +kernel)
set_option maxRecDepth 20000 in
theorem gX9_readSign_X9_byteAt : GoodIn wsX9_readSign (wsV RX9 52 RX9 yX9_byteAt wsX9_byteAt) := goodIn_app (goodIn_of _ (by decide +kernel)) ggX9_readSign_X9_byteAt
set_option maxRecDepth 20000 in
theorem ggX9_readSign_X9_failed : GoodIn wsX9_readSign wsX9_failed := goodIn_r _ [12, 13, 14, 15, 16, 17, 18] (by decide +kernel) (by decide +kernel)
set_option maxRecDepth 20000 in
theorem gX9_readSign_X9_failed : GoodIn wsX9_readSign (wsV RX9 59 RX9 yX9_failed wsX9_failed) := goodIn_app (goodIn_of _ (by decide +kernel)) ggX9_readSign_X9_failed
theorem dX9_readSign_0 : decode cX9_readSign 0 = .ok (.aload_n 0, 1) := by decide +kernel
theorem dX9_readSign_1 : decode cX9_readSign 1 = .ok (.aload_n 0, 1) := by decide +kernel
theorem dX9_readSign_2 : decode cX9_readSign 2 = .ok (.getfield 19, 3) := by decide +kernel
theorem dX9_readSign_5 : decode cX9_readSign 5 = .ok (.invokevirtual 52, 3) := by decide +kernel
theorem dX9_readSign_8 : decode cX9_readSign 8 = .ok (.iload_n 1, 1) := by decide +kernel
theorem dX9_readSign_9 : decode cX9_readSign 9 = .ok (.if_icmp .eq 9, 3) := by decide +kernel
theorem dX9_readSign_12 : decode cX9_readSign 12 = .ok (.aload_n 0, 1) := by decide +kernel
theorem dX9_readSign_13 : decode cX9_readSign 13 = .ok (.iconst 1, 1) := by decide +kernel
theorem dX9_readSign_14 : decode cX9_readSign 14 = .ok (.invokevirtual 59, 3) := by decide +kernel
theorem dX9_readSign_17 : decode cX9_readSign 17 = .ok (.ireturn, 1) := by decide +kernel
theorem dX9_readSign_18 : decode cX9_readSign 18 = .ok (.aload_n 0, 1) := by decide +kernel
theorem dX9_readSign_19 : decode cX9_readSign 19 = .ok (.dup, 1) := by decide +kernel
theorem dX9_readSign_20 : decode cX9_readSign 20 = .ok (.getfield 19, 3) := by decide +kernel
theorem dX9_readSign_23 : decode cX9_readSign 23 = .ok (.iconst 1, 1) := by decide +kernel
theorem dX9_readSign_24 : decode cX9_readSign 24 = .ok (.iadd, 1) := by decide +kernel
theorem dX9_readSign_25 : decode cX9_readSign 25 = .ok (.putfield 19, 3) := by decide +kernel
theorem dX9_readSign_28 : decode cX9_readSign 28 = .ok (.iconst 1, 1) := by decide +kernel
theorem dX9_readSign_29 : decode cX9_readSign 29 = .ok (.ireturn, 1) := by decide +kernel
set_option maxRecDepth 20000 in
theorem ggX9_readNumber_X9_byteAt : GoodIn wsX9_readNumber wsX9_byteAt := goodIn_r _ [7, 8, 9, 21, 22, 23, 24, 25] (by decide +kernel) (by decide +kernel)
set_option maxRecDepth 20000 in
theorem gX9_readNumber_X9_byteAt : GoodIn wsX9_readNumber (wsV RX9 52 RX9 yX9_byteAt wsX9_byteAt) := goodIn_app (goodIn_of _ (by decide +kernel)) ggX9_readNumber_X9_byteAt
set_option maxRecDepth 20000 in
theorem ggX9_readNumber_X9_isFigure : GoodIn wsX9_readNumber wsX9_isFigure := goodIn_r _ [12] (by decide +kernel) (by decide +kernel)
set_option maxRecDepth 20000 in
theorem gX9_readNumber_X9_isFigure : GoodIn wsX9_readNumber (va_wsS RX9 78 yX9_isFigure wsX9_isFigure) := goodIn_app (goodIn_of _ (by decide +kernel)) ggX9_readNumber_X9_isFigure
set_option maxRecDepth 20000 in
theorem ggX9_readNumber_X9_failed : GoodIn wsX9_readNumber wsX9_failed := goodIn_r _ [16, 17, 21, 22, 23, 24, 25] (by decide +kernel) (by decide +kernel)
set_option maxRecDepth 20000 in
theorem gX9_readNumber_X9_failed : GoodIn wsX9_readNumber (wsV RX9 59 RX9 yX9_failed wsX9_failed) := goodIn_app (goodIn_of _ (by decide +kernel)) ggX9_readNumber_X9_failed
set_option maxRecDepth 20000 in
theorem ggX9_readNumber_X11_outside : GoodIn wsX9_readNumber wsX11_outside := goodIn_r _ [20] (by decide +kernel) (by decide +kernel)
set_option maxRecDepth 20000 in
theorem gX9_readNumber_X11_outside_n81 : GoodIn wsX9_readNumber (wsX11_outside) := ggX9_readNumber_X11_outside
theorem dX9_readNumber_0 : decode cX9_readNumber 0 = .ok (.iconst 0, 1) := by decide +kernel
theorem dX9_readNumber_1 : decode cX9_readNumber 1 = .ok (.istore_n 3, 1) := by decide +kernel
theorem dX9_readNumber_2 : decode cX9_readNumber 2 = .ok (.iconst 0, 1) := by decide +kernel
theorem dX9_readNumber_3 : decode cX9_readNumber 3 = .ok (.istore 4, 2) := by decide +kernel
theorem dX9_readNumber_5 : decode cX9_readNumber 5 = .ok (.iload_n 3, 1) := by decide +kernel
theorem dX9_readNumber_6 : decode cX9_readNumber 6 = .ok (.iconst 3, 1) := by decide +kernel
theorem dX9_readNumber_7 : decode cX9_readNumber 7 = .ok (.if_icmp .ge 46, 3) := by decide +kernel
theorem dX9_readNumber_10 : decode cX9_readNumber 10 = .ok (.aload_n 0, 1) := by decide +kernel
theorem dX9_readNumber_11 : decode cX9_readNumber 11 = .ok (.aload_n 0, 1) := by decide +kernel
theorem dX9_readNumber_12 : decode cX9_readNumber 12 = .ok (.getfield 19, 3) := by decide +kernel
theorem dX9_readNumber_15 : decode cX9_readNumber 15 = .ok (.iload_n 3, 1) := by decide +kernel
theorem dX9_readNumber_16 : decode cX9_readNumber 16 = .ok (.iadd, 1) := by decide +kernel
theorem dX9_readNumber_17 : decode cX9_readNumber 17 = .ok (.invokevirtual 52, 3) := by decide +kernel
theorem dX9_readNumber_20 : decode cX9_readNumber 20 = .ok (.invokestatic 78, 3) := by decide +kernel
theorem dX9_readNumber_23 : decode cX9_readNumber 23 = .ok (.ifCond .eq 30, 3) := by decide +kernel
theorem dX9_readNumber_26 : decode cX9_readNumber 26 = .ok (.bipush 10, 2) := by decide +kernel
theorem dX9_readNumber_28 : decode cX9_readNumber 28 = .ok (.iload 4, 2) := by decide +kernel
theorem dX9_readNumber_30 : decode cX9_readNumber 30 = .ok (.imul, 1) := by decide +kernel
theorem dX9_readNumber_31 : decode cX9_readNumber 31 = .ok (.aload_n 0, 1) := by decide +kernel
theorem dX9_readNumber_32 : decode cX9_readNumber 32 = .ok (.aload_n 0, 1) := by decide +kernel
theorem dX9_readNumber_33 : decode cX9_readNumber 33 = .ok (.getfield 19, 3) := by decide +kernel
theorem dX9_readNumber_36 : decode cX9_readNumber 36 = .ok (.iload_n 3, 1) := by decide +kernel
theorem dX9_readNumber_37 : decode cX9_readNumber 37 = .ok (.iadd, 1) := by decide +kernel
theorem dX9_readNumber_38 : decode cX9_readNumber 38 = .ok (.invokevirtual 52, 3) := by decide +kernel
theorem dX9_readNumber_41 : decode cX9_readNumber 41 = .ok (.iadd, 1) := by decide +kernel
theorem dX9_readNumber_42 : decode cX9_readNumber 42 = .ok (.bipush 48, 2) := by decide +kernel
theorem dX9_readNumber_44 : decode cX9_readNumber 44 = .ok (.isub, 1) := by decide +kernel
theorem dX9_readNumber_45 : decode cX9_readNumber 45 = .ok (.istore 4, 2) := by decide +kernel
theorem dX9_readNumber_47 : decode cX9_readNumber 47 = .ok (.iinc 3 1, 3) := by decide +kernel
theorem dX9_readNumber_50 : decode cX9_readNumber 50 = .ok (.goto (-45), 3) := by decide +kernel
theorem dX9_readNumber_53 : decode cX9_readNumber 53 = .ok (.iload_n 3, 1) := by decide +kernel
theorem dX9_readNumber_54 : decode cX9_readNumber 54 = .ok (.ifCond .eq 8, 3) := by decide +kernel
theorem dX9_readNumber_57 : decode cX9_readNumber 57 = .ok (.iload_n 3, 1) := by decide +kernel
theorem dX9_readNumber_58 : decode cX9_readNumber 58 = .ok (.iconst 2, 1) := by decide +kernel
theorem dX9_readNumber_59 : decode cX9_readNumber 59 = .ok (.if_icmp .le 9, 3) := by decide +kernel
theorem dX9_readNumber_62 : decode cX9_readNumber 62 = .ok (.aload_n 0, 1) := by decide +kernel
theorem dX9_readNumber_63 : decode cX9_readNumber 63 = .ok (.iconst 1, 1) := by decide +kernel
theorem dX9_readNumber_64 : decode cX9_readNumber 64 = .ok (.invokevirtual 59, 3) := by decide +kernel
theorem dX9_readNumber_67 : decode cX9_readNumber 67 = .ok (.ireturn, 1) := by decide +kernel
theorem dX9_readNumber_68 : decode cX9_readNumber 68 = .ok (.iload 4, 2) := by decide +kernel
theorem dX9_readNumber_70 : decode cX9_readNumber 70 = .ok (.iload_n 1, 1) := by decide +kernel
theorem dX9_readNumber_71 : decode cX9_readNumber 71 = .ok (.iload_n 2, 1) := by decide +kernel
theorem dX9_readNumber_72 : decode cX9_readNumber 72 = .ok (.invokestatic 81, 3) := by decide +kernel
theorem dX9_readNumber_75 : decode cX9_readNumber 75 = .ok (.ifCond .eq 9, 3) := by decide +kernel
theorem dX9_readNumber_78 : decode cX9_readNumber 78 = .ok (.aload_n 0, 1) := by decide +kernel
theorem dX9_readNumber_79 : decode cX9_readNumber 79 = .ok (.iconst 2, 1) := by decide +kernel
theorem dX9_readNumber_80 : decode cX9_readNumber 80 = .ok (.invokevirtual 59, 3) := by decide +kernel
theorem dX9_readNumber_83 : decode cX9_readNumber 83 = .ok (.ireturn, 1) := by decide +kernel
theorem dX9_readNumber_84 : decode cX9_readNumber 84 = .ok (.aload_n 0, 1) := by decide +kernel
theorem dX9_readNumber_85 : decode cX9_readNumber 85 = .ok (.iload 4, 2) := by decide +kernel
theorem dX9_readNumber_87 : decode cX9_readNumber 87 = .ok (.putfield 43, 3) := by decide +kernel
theorem dX9_readNumber_90 : decode cX9_readNumber 90 = .ok (.aload_n 0, 1) := by decide +kernel
theorem dX9_readNumber_91 : decode cX9_readNumber 91 = .ok (.dup, 1) := by decide +kernel
theorem dX9_readNumber_92 : decode cX9_readNumber 92 = .ok (.getfield 19, 3) := by decide +kernel
theorem dX9_readNumber_95 : decode cX9_readNumber 95 = .ok (.iload_n 3, 1) := by decide +kernel
theorem dX9_readNumber_96 : decode cX9_readNumber 96 = .ok (.iadd, 1) := by decide +kernel
theorem dX9_readNumber_97 : decode cX9_readNumber 97 = .ok (.putfield 19, 3) := by decide +kernel
theorem dX9_readNumber_100 : decode cX9_readNumber 100 = .ok (.iconst 1, 1) := by decide +kernel
theorem dX9_readNumber_101 : decode cX9_readNumber 101 = .ok (.ireturn, 1) := by decide +kernel
theorem dX9_failed_0 : decode cX9_failed 0 = .ok (.aload_n 0, 1) := by decide +kernel
theorem dX9_failed_1 : decode cX9_failed 1 = .ok (.iload_n 1, 1) := by decide +kernel
theorem dX9_failed_2 : decode cX9_failed 2 = .ok (.putfield 85, 3) := by decide +kernel
theorem dX9_failed_5 : decode cX9_failed 5 = .ok (.iconst 0, 1) := by decide +kernel
theorem dX9_failed_6 : decode cX9_failed 6 = .ok (.ireturn, 1) := by decide +kernel
theorem dX9_byteAt_0 : decode cX9_byteAt 0 = .ok (.iload_n 1, 1) := by decide +kernel
theorem dX9_byteAt_1 : decode cX9_byteAt 1 = .ok (.ifCond .lt 20, 3) := by decide +kernel
theorem dX9_byteAt_4 : decode cX9_byteAt 4 = .ok (.iload_n 1, 1) := by decide +kernel
theorem dX9_byteAt_5 : decode cX9_byteAt 5 = .ok (.aload_n 0, 1) := by decide +kernel
theorem dX9_byteAt_6 : decode cX9_byteAt 6 = .ok (.getfield 15, 3) := by decide +kernel
theorem dX9_byteAt_9 : decode cX9_byteAt 9 = .ok (.if_icmp .ge 12, 3) := by decide +kernel
theorem dX9_byteAt_12 : decode cX9_byteAt 12 = .ok (.aload_n 0, 1) := by decide +kernel
theorem dX9_byteAt_13 : decode cX9_byteAt 13 = .ok (.getfield 9, 3) := by decide +kernel
theorem dX9_byteAt_16 : decode cX9_byteAt 16 = .ok (.iload_n 1, 1) := by decide +kernel
theorem dX9_byteAt_17 : decode cX9_byteAt 17 = .ok (.iaload, 1) := by decide +kernel
theorem dX9_byteAt_18 : decode cX9_byteAt 18 = .ok (.goto 4, 3) := by decide +kernel
theorem dX9_byteAt_21 : decode cX9_byteAt 21 = .ok (.iconst (-1), 1) := by decide +kernel
theorem dX9_byteAt_22 : decode cX9_byteAt 22 = .ok (.ireturn, 1) := by decide +kernel
theorem dX9_isFigure_0 : decode cX9_isFigure 0 = .ok (.iload_n 0, 1) := by decide +kernel
theorem dX9_isFigure_1 : decode cX9_isFigure 1 = .ok (.bipush 48, 2) := by decide +kernel
theorem dX9_isFigure_3 : decode cX9_isFigure 3 = .ok (.if_icmp .lt 13, 3) := by decide +kernel
theorem dX9_isFigure_6 : decode cX9_isFigure 6 = .ok (.iload_n 0, 1) := by decide +kernel
theorem dX9_isFigure_7 : decode cX9_isFigure 7 = .ok (.bipush 57, 2) := by decide +kernel
theorem dX9_isFigure_9 : decode cX9_isFigure 9 = .ok (.if_icmp .gt 7, 3) := by decide +kernel
theorem dX9_isFigure_12 : decode cX9_isFigure 12 = .ok (.iconst 1, 1) := by decide +kernel
theorem dX9_isFigure_13 : decode cX9_isFigure 13 = .ok (.goto 4, 3) := by decide +kernel
theorem dX9_isFigure_16 : decode cX9_isFigure 16 = .ok (.iconst 0, 1) := by decide +kernel
theorem dX9_isFigure_17 : decode cX9_isFigure 17 = .ok (.ireturn, 1) := by decide +kernel
theorem dX9_sortOf_0 : decode cX9_sortOf 0 = .ok (.iload_n 0, 1) := by decide +kernel
theorem dX9_sortOf_1 : decode cX9_sortOf 1 = .ok (.tableswitch 85 102 116 #[81, 85, 85, 85, 85, 85, 85, 85, 85, 77, 79, 85, 85, 83, 75], 75) := by decide +kernel
theorem dX9_sortOf_76 : decode cX9_sortOf 76 = .ok (.iconst 1, 1) := by decide +kernel
theorem dX9_sortOf_77 : decode cX9_sortOf 77 = .ok (.ireturn, 1) := by decide +kernel
theorem dX9_sortOf_78 : decode cX9_sortOf 78 = .ok (.iconst 2, 1) := by decide +kernel
theorem dX9_sortOf_79 : decode cX9_sortOf 79 = .ok (.ireturn, 1) := by decide +kernel
theorem dX9_sortOf_80 : decode cX9_sortOf 80 = .ok (.iconst 3, 1) := by decide +kernel
theorem dX9_sortOf_81 : decode cX9_sortOf 81 = .ok (.ireturn, 1) := by decide +kernel
theorem dX9_sortOf_82 : decode cX9_sortOf 82 = .ok (.iconst 4, 1) := by decide +kernel
theorem dX9_sortOf_83 : decode cX9_sortOf 83 = .ok (.ireturn, 1) := by decide +kernel
theorem dX9_sortOf_84 : decode cX9_sortOf 84 = .ok (.iconst 5, 1) := by decide +kernel
theorem dX9_sortOf_85 : decode cX9_sortOf 85 = .ok (.ireturn, 1) := by decide +kernel
theorem dX9_sortOf_86 : decode cX9_sortOf 86 = .ok (.iconst (-1), 1) := by decide +kernel
theorem dX9_sortOf_87 : decode cX9_sortOf 87 = .ok (.ireturn, 1) := by decide +kernel
theorem dX10_init_0 : decode cX10_init 0 = .ok (.aload_n 0, 1) := by decide +kernel
theorem dX10_init_1 : decode cX10_init 1 = .ok (.invokespecial 3, 3) := by decide +kernel
theorem dX10_init_4 : decode cX10_init 4 = .ok (.aload_n 0, 1) := by decide +kernel
theorem dX10_init_5 : decode cX10_init 5 = .ok (.bipush 16, 2) := by decide +kernel
theorem dX10_init_7 : decode cX10_init 7 = .ok (.newarray .int, 2) := by decide +kernel
theorem dX10_init_9 : decode cX10_init 9 = .ok (.putfield 9, 3) := by decide +kernel
theorem dX10_init_12 : decode cX10_init 12 = .ok (.return_, 1) := by decide +kernel
theorem dX10_leave_0 : decode cX10_leave 0 = .ok (.aload_n 0, 1) := by decide +kernel
theorem dX10_leave_1 : decode cX10_leave 1 = .ok (.getfield 15, 3) := by decide +kernel
theorem dX10_leave_4 : decode cX10_leave 4 = .ok (.bipush 16, 2) := by decide +kernel
theorem dX10_leave_6 : decode cX10_leave 6 = .ok (.if_icmp .ge 23, 3) := by decide +kernel
theorem dX10_leave_9 : decode cX10_leave 9 = .ok (.aload_n 0, 1) := by decide +kernel
theorem dX10_leave_10 : decode cX10_leave 10 = .ok (.getfield 9, 3) := by decide +kernel
theorem dX10_leave_13 : decode cX10_leave 13 = .ok (.aload_n 0, 1) := by decide +kernel
theorem dX10_leave_14 : decode cX10_leave 14 = .ok (.getfield 15, 3) := by decide +kernel
theorem dX10_leave_17 : decode cX10_leave 17 = .ok (.iload_n 1, 1) := by decide +kernel
theorem dX10_leave_18 : decode cX10_leave 18 = .ok (.iastore, 1) := by decide +kernel
theorem dX10_leave_19 : decode cX10_leave 19 = .ok (.aload_n 0, 1) := by decide +kernel
theorem dX10_leave_20 : decode cX10_leave 20 = .ok (.dup, 1) := by decide +kernel
theorem dX10_leave_21 : decode cX10_leave 21 = .ok (.getfield 15, 3) := by decide +kernel
theorem dX10_leave_24 : decode cX10_leave 24 = .ok (.iconst 1, 1) := by decide +kernel
theorem dX10_leave_25 : decode cX10_leave 25 = .ok (.iadd, 1) := by decide +kernel
theorem dX10_leave_26 : decode cX10_leave 26 = .ok (.putfield 15, 3) := by decide +kernel
theorem dX10_leave_29 : decode cX10_leave 29 = .ok (.return_, 1) := by decide +kernel
set_option maxRecDepth 20000 in
theorem ggX11_init_X9_init : GoodIn wsX11_init wsX9_init := goodIn_r _ [45, 46, 2, 3, 47, 48, 121, 122, 123, 124, 125] (by decide +kernel) (by decide +kernel)
set_option maxRecDepth 20000 in
theorem gX11_init_X9_init_n17 : GoodIn wsX11_init (wsX9_init) := ggX11_init_X9_init
set_option maxRecDepth 20000 in
theorem ggX11_init_X10_init : GoodIn wsX11_init wsX10_init := goodIn_r _ [50, 51, 2, 3, 47, 52, 126, 127] (by decide +kernel) (by decide +kernel)
set_option maxRecDepth 20000 in
theorem gX11_init_X10_init_n24 : GoodIn wsX11_init (wsX10_init) := ggX11_init_X10_init
set_option maxRecDepth 20000 in
theorem ggX11_init_X4_init : GoodIn wsX11_init wsX4_init := goodIn_r _ [55, 56, 57, 58, 59, 60, 2, 3, 61, 131, 129, 128, 130, 132] (by decide +kernel) (by decide +kernel)
set_option maxRecDepth 20000 in
theorem gX11_init_X4_init : GoodIn wsX11_init (wsX4_init) := ggX11_init_X4_init
set_option maxRecDepth 20000 in
theorem ggX11_init_X3_init : GoodIn wsX11_init wsX3_init := goodIn_r _ [64, 65, 54, 21, 55, 56, 57, 58, 59, 60, 2, 3, 61, 131, 129, 128, 130, 132] (by decide +kernel) (by decide +kernel)
set_option maxRecDepth 20000 in
theorem gX11_init_X3_init : GoodIn wsX11_init (wsX3_init) := ggX11_init_X3_init
set_option maxRecDepth 20000 in
theorem ggX11_init_X5_init : GoodIn wsX11_init wsX5_init := goodIn_r _ [68, 69, 54, 21, 55, 56, 57, 58, 59, 60, 2, 3, 61, 131, 129, 128, 130, 132] (by decide +kernel) (by decide +kernel)
set_option maxRecDepth 20000 in
theorem gX11_init_X5_init : GoodIn wsX11_init (wsX5_init) := ggX11_init_X5_init
set_option maxRecDepth 20000 in
theorem ggX11_init_X0_init : GoodIn wsX11_init wsX0_init := goodIn_r _ [72, 73, 57, 58, 59, 60, 2, 3, 61, 131, 129, 128, 130, 132] (by decide +kernel) (by decide +kernel)
set_option maxRecDepth 20000 in
theorem gX11_init_X0_init : GoodIn wsX11_init (wsX0_init) := ggX11_init_X0_init
set_option maxRecDepth 20000 in
theorem ggX11_init_X8_init : GoodIn wsX11_init wsX8_init := goodIn_r _ [76, 77, 71, 30, 72, 73, 57, 58, 59, 60, 2, 3, 61, 131, 129, 128, 130, 132] (by decide +kernel) (by decide +kernel)
set_option maxRecDepth 20000 in
theorem gX11_init_X8_init : GoodIn wsX11_init (wsX8_init) := ggX11_init_X8_init
set_option maxRecDepth 20000 in
theorem ggX11_init_X6_init : GoodIn wsX11_init wsX6_init := goodIn_r _ [79, 80, 2, 3, 47, 81, 133, 134, 135, 136] (by decide +kernel) (by decide +kernel)
set_option maxRecDepth 20000 in
theorem gX11_init_X6_init_n61 : GoodIn wsX11_init (wsX6_init) := ggX11_init_X6_init
set_option maxRecDepth 20000 in
theorem ggX11_init_X1_init : GoodIn wsX11_init wsX1_init := goodIn_r _ [84, 85, 2, 3, 86, 87, 47, 88, 89, 90, 91, 92, 93, 94, 95, 137, 138, 139, 140, 141, 142, 143, 144, 145, 146, 147, 148, 149] (by decide +kernel) (by decide +kernel)
set_option maxRecDepth 20000 in
theorem gX11_init_X1_init : GoodIn wsX11_init (wsX1_init) := ggX11_init_X1_init
set_option maxRecDepth 20000 in
theorem ggX11_init_X7_init : GoodIn wsX11_init wsX7_init := goodIn_r _ [98, 99, 2, 3, 100, 101, 47, 102, 103, 104, 105, 36, 37, 106, 107, 83, 84, 85, 86, 87, 88, 89, 90, 91, 92, 93, 94, 95, 150, 151, 152, 153, 154, 155, 156, 157, 137, 138, 139, 140, 141, 142, 143, 144, 145, 146, 147, 148, 149] (by decide +kernel) (by decide +kernel)
set_option maxRecDepth 20000 in
theorem gX11_init_X7_init : GoodIn wsX11_init (wsX7_init) := ggX11_init_X7_init
theorem dX11_init_0 : decode cX11_init 0 = .ok (.aload_n 0, 1) := by decide +kernel
theorem dX11_init_1 : decode cX11_init 1 = .ok (.invokespecial 1, 3) := by decide +kernel
theorem dX11_init_4 : decode cX11_init 4 = .ok (.aload_n 0, 1) := by decide +kernel
theorem dX11_init_5 : decode cX11_init 5 = .ok (.bipush 8, 2) := by decide +kernel
theorem dX11_init_7 : decode cX11_init 7 = .ok (.anewarray 9, 3) := by decide +kernel
theorem dX11_init_10 : decode cX11_init 10 = .ok (.putfield 11, 3) := by decide +kernel
theorem dX11_init_13 : decode cX11_init 13 = .ok (.aload_n 0, 1) := by decide +kernel
theorem dX11_init_14 : decode cX11_init 14 = .ok (.new 15, 3) := by decide +kernel
theorem dX11_init_17 : decode cX11_init 17 = .ok (.dup, 1) := by decide +kernel
theorem dX11_init_18 : decode cX11_init 18 = .ok (.invokespecial 17, 3) := by decide +kernel
theorem dX11_init_21 : decode cX11_init 21 = .ok (.putfield 18, 3) := by decide +kernel
theorem dX11_init_24 : decode cX11_init 24 = .ok (.aload_n 0, 1) := by decide +kernel
theorem dX11_init_25 : decode cX11_init 25 = .ok (.new 22, 3) := by decide +kernel
theorem dX11_init_28 : decode cX11_init 28 = .ok (.dup, 1) := by decide +kernel
theorem dX11_init_29 : decode cX11_init 29 = .ok (.invokespecial 24, 3) := by decide +kernel
theorem dX11_init_32 : decode cX11_init 32 = .ok (.putfield 25, 3) := by decide +kernel
theorem dX11_init_35 : decode cX11_init 35 = .ok (.aload_n 0, 1) := by decide +kernel
theorem dX11_init_36 : decode cX11_init 36 = .ok (.bipush 6, 2) := by decide +kernel
theorem dX11_init_38 : decode cX11_init 38 = .ok (.anewarray 29, 3) := by decide +kernel
theorem dX11_init_41 : decode cX11_init 41 = .ok (.putfield 31, 3) := by decide +kernel
theorem dX11_init_44 : decode cX11_init 44 = .ok (.aload_n 0, 1) := by decide +kernel
theorem dX11_init_45 : decode cX11_init 45 = .ok (.bipush 24, 2) := by decide +kernel
theorem dX11_init_47 : decode cX11_init 47 = .ok (.anewarray 35, 3) := by decide +kernel
theorem dX11_init_50 : decode cX11_init 50 = .ok (.putfield 37, 3) := by decide +kernel
theorem dX11_init_53 : decode cX11_init 53 = .ok (.aload_n 0, 1) := by decide +kernel
theorem dX11_init_54 : decode cX11_init 54 = .ok (.iconst 2, 1) := by decide +kernel
theorem dX11_init_55 : decode cX11_init 55 = .ok (.anewarray 35, 3) := by decide +kernel
theorem dX11_init_58 : decode cX11_init 58 = .ok (.putfield 41, 3) := by decide +kernel
theorem dX11_init_61 : decode cX11_init 61 = .ok (.new 44, 3) := by decide +kernel
theorem dX11_init_64 : decode cX11_init 64 = .ok (.dup, 1) := by decide +kernel
theorem dX11_init_65 : decode cX11_init 65 = .ok (.iconst 1, 1) := by decide +kernel
theorem dX11_init_66 : decode cX11_init 66 = .ok (.invokespecial 46, 3) := by decide +kernel
theorem dX11_init_69 : decode cX11_init 69 = .ok (.astore_n 1, 1) := by decide +kernel
theorem dX11_init_70 : decode cX11_init 70 = .ok (.aload_n 0, 1) := by decide +kernel
theorem dX11_init_71 : decode cX11_init 71 = .ok (.getfield 31, 3) := by decide +kernel
theorem dX11_init_74 : decode cX11_init 74 = .ok (.iconst 0, 1) := by decide +kernel
theorem dX11_init_75 : decode cX11_init 75 = .ok (.aload_n 1, 1) := by decide +kernel
theorem dX11_init_76 : decode cX11_init 76 = .ok (.aastore, 1) := by decide +kernel
theorem dX11_init_77 : decode cX11_init 77 = .ok (.aload_n 0, 1) := by decide +kernel
theorem dX11_init_78 : decode cX11_init 78 = .ok (.getfield 31, 3) := by decide +kernel
theorem dX11_init_81 : decode cX11_init 81 = .ok (.iconst 1, 1) := by decide +kernel
theorem dX11_init_82 : decode cX11_init 82 = .ok (.aload_n 1, 1) := by decide +kernel
theorem dX11_init_83 : decode cX11_init 83 = .ok (.aastore, 1) := by decide +kernel
theorem dX11_init_84 : decode cX11_init 84 = .ok (.aload_n 0, 1) := by decide +kernel
theorem dX11_init_85 : decode cX11_init 85 = .ok (.getfield 31, 3) := by decide +kernel
theorem dX11_init_88 : decode cX11_init 88 = .ok (.iconst 2, 1) := by decide +kernel
theorem dX11_init_89 : decode cX11_init 89 = .ok (.new 49, 3) := by decide +kernel
theorem dX11_init_92 : decode cX11_init 92 = .ok (.dup, 1) := by decide +kernel
theorem dX11_init_93 : decode cX11_init 93 = .ok (.iconst 2, 1) := by decide +kernel
theorem dX11_init_94 : decode cX11_init 94 = .ok (.invokespecial 51, 3) := by decide +kernel
theorem dX11_init_97 : decode cX11_init 97 = .ok (.aastore, 1) := by decide +kernel
theorem dX11_init_98 : decode cX11_init 98 = .ok (.aload_n 0, 1) := by decide +kernel
theorem dX11_init_99 : decode cX11_init 99 = .ok (.getfield 31, 3) := by decide +kernel
theorem dX11_init_102 : decode cX11_init 102 = .ok (.iconst 3, 1) := by decide +kernel
theorem dX11_init_103 : decode cX11_init 103 = .ok (.new 52, 3) := by decide +kernel
theorem dX11_init_106 : decode cX11_init 106 = .ok (.dup, 1) := by decide +kernel
theorem dX11_init_107 : decode cX11_init 107 = .ok (.iconst 3, 1) := by decide +kernel
theorem dX11_init_108 : decode cX11_init 108 = .ok (.invokespecial 54, 3) := by decide +kernel
theorem dX11_init_111 : decode cX11_init 111 = .ok (.aastore, 1) := by decide +kernel
theorem dX11_init_112 : decode cX11_init 112 = .ok (.aload_n 0, 1) := by decide +kernel
theorem dX11_init_113 : decode cX11_init 113 = .ok (.getfield 31, 3) := by decide +kernel
theorem dX11_init_116 : decode cX11_init 116 = .ok (.iconst 4, 1) := by decide +kernel
theorem dX11_init_117 : decode cX11_init 117 = .ok (.new 55, 3) := by decide +kernel
theorem dX11_init_120 : decode cX11_init 120 = .ok (.dup, 1) := by decide +kernel
theorem dX11_init_121 : decode cX11_init 121 = .ok (.iconst 4, 1) := by decide +kernel
theorem dX11_init_122 : decode cX11_init 122 = .ok (.invokespecial 57, 3) := by decide +kernel
theorem dX11_init_125 : decode cX11_init 125 = .ok (.aastore, 1) := by decide +kernel
theorem dX11_init_126 : decode cX11_init 126 = .ok (.aload_n 0, 1) := by decide +kernel
theorem dX11_init_127 : decode cX11_init 127 = .ok (.getfield 31, 3) := by decide +kernel
theorem dX11_init_130 : decode cX11_init 130 = .ok (.iconst 5, 1) := by decide +kernel
theorem dX11_init_131 : decode cX11_init 131 = .ok (.new 58, 3) := by decide +kernel
theorem dX11_init_134 : decode cX11_init 134 = .ok (.dup, 1) := by decide +kernel
theorem dX11_init_135 : decode cX11_init 135 = .ok (.iconst 5, 1) := by decide +kernel
theorem dX11_init_136 : decode cX11_init 136 = .ok (.invokespecial 60, 3) := by decide +kernel
theorem dX11_init_139 : decode cX11_init 139 = .ok (.aastore, 1) := by decide +kernel
theorem dX11_init_140 : decode cX11_init 140 = .ok (.iconst 0, 1) := by decide +kernel
theorem dX11_init_141 : decode cX11_init 141 = .ok (.istore_n 2, 1) := by decide +kernel
theorem dX11_init_142 : decode cX11_init 142 = .ok (.iload_n 2, 1) := by decide +kernel
theorem dX11_init_143 : decode cX11_init 143 = .ok (.bipush 8, 2) := by decide +kernel
theorem dX11_init_145 : decode cX11_init 145 = .ok (.if_icmp .ge 22, 3) := by decide +kernel
theorem dX11_init_148 : decode cX11_init 148 = .ok (.aload_n 0, 1) := by decide +kernel
theorem dX11_init_149 : decode cX11_init 149 = .ok (.getfield 11, 3) := by decide +kernel
theorem dX11_init_152 : decode cX11_init 152 = .ok (.iload_n 2, 1) := by decide +kernel
theorem dX11_init_153 : decode cX11_init 153 = .ok (.new 9, 3) := by decide +kernel
theorem dX11_init_156 : decode cX11_init 156 = .ok (.dup, 1) := by decide +kernel
theorem dX11_init_157 : decode cX11_init 157 = .ok (.invokespecial 61, 3) := by decide +kernel
theorem dX11_init_160 : decode cX11_init 160 = .ok (.aastore, 1) := by decide +kernel
theorem dX11_init_161 : decode cX11_init 161 = .ok (.iinc 2 1, 3) := by decide +kernel
theorem dX11_init_164 : decode cX11_init 164 = .ok (.goto (-22), 3) := by decide +kernel
theorem dX11_init_167 : decode cX11_init 167 = .ok (.iconst 0, 1) := by decide +kernel
theorem dX11_init_168 : decode cX11_init 168 = .ok (.istore_n 2, 1) := by decide +kernel
theorem dX11_init_169 : decode cX11_init 169 = .ok (.iload_n 2, 1) := by decide +kernel
theorem dX11_init_170 : decode cX11_init 170 = .ok (.bipush 24, 2) := by decide +kernel
theorem dX11_init_172 : decode cX11_init 172 = .ok (.if_icmp .ge 23, 3) := by decide +kernel
theorem dX11_init_175 : decode cX11_init 175 = .ok (.aload_n 0, 1) := by decide +kernel
theorem dX11_init_176 : decode cX11_init 176 = .ok (.getfield 37, 3) := by decide +kernel
theorem dX11_init_179 : decode cX11_init 179 = .ok (.iload_n 2, 1) := by decide +kernel
theorem dX11_init_180 : decode cX11_init 180 = .ok (.new 35, 3) := by decide +kernel
theorem dX11_init_183 : decode cX11_init 183 = .ok (.dup, 1) := by decide +kernel
theorem dX11_init_184 : decode cX11_init 184 = .ok (.aload_n 1, 1) := by decide +kernel
theorem dX11_init_185 : decode cX11_init 185 = .ok (.invokespecial 62, 3) := by decide +kernel
theorem dX11_init_188 : decode cX11_init 188 = .ok (.aastore, 1) := by decide +kernel
theorem dX11_init_189 : decode cX11_init 189 = .ok (.iinc 2 1, 3) := by decide +kernel
theorem dX11_init_192 : decode cX11_init 192 = .ok (.goto (-23), 3) := by decide +kernel
theorem dX11_init_195 : decode cX11_init 195 = .ok (.iconst 0, 1) := by decide +kernel
theorem dX11_init_196 : decode cX11_init 196 = .ok (.istore_n 2, 1) := by decide +kernel
theorem dX11_init_197 : decode cX11_init 197 = .ok (.iload_n 2, 1) := by decide +kernel
theorem dX11_init_198 : decode cX11_init 198 = .ok (.iconst 2, 1) := by decide +kernel
theorem dX11_init_199 : decode cX11_init 199 = .ok (.if_icmp .ge 23, 3) := by decide +kernel
theorem dX11_init_202 : decode cX11_init 202 = .ok (.aload_n 0, 1) := by decide +kernel
theorem dX11_init_203 : decode cX11_init 203 = .ok (.getfield 41, 3) := by decide +kernel
theorem dX11_init_206 : decode cX11_init 206 = .ok (.iload_n 2, 1) := by decide +kernel
theorem dX11_init_207 : decode cX11_init 207 = .ok (.new 35, 3) := by decide +kernel
theorem dX11_init_210 : decode cX11_init 210 = .ok (.dup, 1) := by decide +kernel
theorem dX11_init_211 : decode cX11_init 211 = .ok (.aload_n 1, 1) := by decide +kernel
theorem dX11_init_212 : decode cX11_init 212 = .ok (.invokespecial 62, 3) := by decide +kernel
theorem dX11_init_215 : decode cX11_init 215 = .ok (.aastore, 1) := by decide +kernel
theorem dX11_init_216 : decode cX11_init 216 = .ok (.iinc 2 1, 3) := by decide +kernel
theorem dX11_init_219 : decode cX11_init 219 = .ok (.goto (-22), 3) := by decide +kernel
theorem dX11_init_222 : decode cX11_init 222 = .ok (.aload_n 0, 1) := by decide +kernel
theorem dX11_init_223 : decode cX11_init 223 = .ok (.new 35, 3) := by decide +kernel
theorem dX11_init_226 : decode cX11_init 226 = .ok (.dup, 1) := by decide +kernel
theorem dX11_init_227 : decode cX11_init 227 = .ok (.aload_n 1, 1) := by decide +kernel
theorem dX11_init_228 : decode cX11_init 228 = .ok (.invokespecial 62, 3) := by decide +kernel
theorem dX11_init_231 : decode cX11_init 231 = .ok (.putfield 65, 3) := by decide +kernel
theorem dX11_init_234 : decode cX11_init 234 = .ok (.aload_n 0, 1) := by decide +kernel
theorem dX11_init_235 : decode cX11_init 235 = .ok (.new 35, 3) := by decide +kernel
theorem dX11_init_238 : decode cX11_init 238 = .ok (.dup, 1) := by decide +kernel
theorem dX11_init_239 : decode cX11_init 239 = .ok (.aload_n 1, 1) := by decide +kernel
theorem dX11_init_240 : decode cX11_init 240 = .ok (.invokespecial 62, 3) := by decide +kernel
theorem dX11_init_243 : decode cX11_init 243 = .ok (.putfield 69, 3) := by decide +kernel
theorem dX11_init_246 : decode cX11_init 246 = .ok (.aload_n 0, 1) := by decide +kernel
theorem dX11_init_247 : decode cX11_init 247 = .ok (.new 72, 3) := by decide +kernel
theorem dX11_init_250 : decode cX11_init 250 = .ok (.dup, 1) := by decide +kernel
theorem dX11_init_251 : decode cX11_init 251 = .ok (.aload_n 0, 1) := by decide +kernel
theorem dX11_init_252 : decode cX11_init 252 = .ok (.getfield 65, 3) := by decide +kernel
theorem dX11_init_255 : decode cX11_init 255 = .ok (.aload_n 0, 1) := by decide +kernel
theorem dX11_init_256 : decode cX11_init 256 = .ok (.getfield 31, 3) := by decide +kernel
theorem dX11_init_259 : decode cX11_init 259 = .ok (.invokespecial 74, 3) := by decide +kernel
theorem dX11_init_262 : decode cX11_init 262 = .ok (.putfield 77, 3) := by decide +kernel
theorem dX11_init_265 : decode cX11_init 265 = .ok (.return_, 1) := by decide +kernel
set_option maxRecDepth 20000 in
theorem ggX11_row_X11_isRow : GoodIn wsX11_row wsX11_isRow := goodIn_r _ [6] (by decide +kernel) (by decide +kernel)
set_option maxRecDepth 20000 in
theorem gX11_row_X11_isRow : GoodIn wsX11_row (va_wsS RX11 81 yX11_isRow wsX11_isRow) := goodIn_app (goodIn_of _ (by decide +kernel)) ggX11_row_X11_isRow
set_option maxRecDepth 20000 in
theorem ggX11_row_X11_outside : GoodIn wsX11_row wsX11_outside := goodIn_r _ [9] (by decide +kernel) (by decide +kernel)
set_option maxRecDepth 20000 in
theorem gX11_row_X11_outside : GoodIn wsX11_row (va_wsS RX11 85 yX11_outside wsX11_outside) := goodIn_app (goodIn_of _ (by decide +kernel)) ggX11_row_X11_outside
set_option maxRecDepth 20000 in
theorem ggX11_row_X11_found : GoodIn wsX11_row wsX11_found := goodIn_r _ [13, 14, 15, 33, 34, 35, 36, 37, 38, 39, 40, 41, 42, 43, 44, 45] (by decide +kernel) (by decide +kernel)
set_option maxRecDepth 20000 in
theorem gX11_row_X11_found : GoodIn wsX11_row (wsV RX11 90 RX11 yX11_found wsX11_found) := goodIn_app (goodIn_of _ (by decide +kernel)) ggX11_row_X11_found
set_option maxRecDepth 20000 in
theorem ggX11_row_X6_begin : GoodIn wsX11_row wsX6_begin := goodIn_r _ [20, 21, 22, 23, 24, 25, 26, 27, 28, 46, 47, 48, 49] (by decide +kernel) (by decide +kernel)
set_option maxRecDepth 20000 in
theorem gX11_row_X6_begin : GoodIn wsX11_row (wsV RX11 94 RX6 yX6_begin wsX6_begin) := goodIn_app (goodIn_of _ (by decide +kernel)) ggX11_row_X6_begin
set_option maxRecDepth 20000 in
theorem ggX11_row_X11_fine : GoodIn wsX11_row wsX11_fine := goodIn_r _ [32, 14, 33, 34, 35, 36, 37, 38, 39, 40, 41, 42, 43, 44, 45] (by decide +kernel) (by decide +kernel)
set_option maxRecDepth 20000 in
theorem gX11_row_X11_fine : GoodIn wsX11_row (wsV RX11 98 RX11 yX11_fine wsX11_fine) := goodIn_app (goodIn_of _ (by decide +kernel)) ggX11_row_X11_fine
theorem dX11_row_0 : decode cX11_row 0 = .ok (.iload_n 1, 1) := by decide +kernel
theorem dX11_row_1 : decode cX11_row 1 = .ok (.invokestatic 81, 3) := by decide +kernel
theorem dX11_row_4 : decode cX11_row 4 = .ok (.ifCond .eq 18, 3) := by decide +kernel
theorem dX11_row_7 : decode cX11_row 7 = .ok (.iload_n 2, 1) := by decide +kernel
theorem dX11_row_8 : decode cX11_row 8 = .ok (.iconst 0, 1) := by decide +kernel
theorem dX11_row_9 : decode cX11_row 9 = .ok (.iconst 2, 1) := by decide +kernel
theorem dX11_row_10 : decode cX11_row 10 = .ok (.invokestatic 85, 3) := by decide +kernel
theorem dX11_row_13 : decode cX11_row 13 = .ok (.ifCond .ne 9, 3) := by decide +kernel
theorem dX11_row_16 : decode cX11_row 16 = .ok (.iload_n 3, 1) := by decide +kernel
theorem dX11_row_17 : decode cX11_row 17 = .ok (.bipush 40, 2) := by decide +kernel
theorem dX11_row_19 : decode cX11_row 19 = .ok (.if_icmp .le 6, 3) := by decide +kernel
theorem dX11_row_22 : decode cX11_row 22 = .ok (.ldc 89, 2) := by decide +kernel
theorem dX11_row_24 : decode cX11_row 24 = .ok (.ireturn, 1) := by decide +kernel
theorem dX11_row_25 : decode cX11_row 25 = .ok (.iload_n 3, 1) := by decide +kernel
theorem dX11_row_26 : decode cX11_row 26 = .ok (.ifCond .ge 9, 3) := by decide +kernel
theorem dX11_row_29 : decode cX11_row 29 = .ok (.aload_n 0, 1) := by decide +kernel
theorem dX11_row_30 : decode cX11_row 30 = .ok (.iconst 4, 1) := by decide +kernel
theorem dX11_row_31 : decode cX11_row 31 = .ok (.invokevirtual 90, 3) := by decide +kernel
theorem dX11_row_34 : decode cX11_row 34 = .ok (.ireturn, 1) := by decide +kernel
theorem dX11_row_35 : decode cX11_row 35 = .ok (.aload_n 0, 1) := by decide +kernel
theorem dX11_row_36 : decode cX11_row 36 = .ok (.getfield 11, 3) := by decide +kernel
theorem dX11_row_39 : decode cX11_row 39 = .ok (.iload_n 1, 1) := by decide +kernel
theorem dX11_row_40 : decode cX11_row 40 = .ok (.aaload, 1) := by decide +kernel
theorem dX11_row_41 : decode cX11_row 41 = .ok (.iload_n 2, 1) := by decide +kernel
theorem dX11_row_42 : decode cX11_row 42 = .ok (.iload_n 3, 1) := by decide +kernel
theorem dX11_row_43 : decode cX11_row 43 = .ok (.invokevirtual 94, 3) := by decide +kernel
theorem dX11_row_46 : decode cX11_row 46 = .ok (.aload_n 0, 1) := by decide +kernel
theorem dX11_row_47 : decode cX11_row 47 = .ok (.iload_n 3, 1) := by decide +kernel
theorem dX11_row_48 : decode cX11_row 48 = .ok (.invokevirtual 98, 3) := by decide +kernel
theorem dX11_row_51 : decode cX11_row 51 = .ok (.ireturn, 1) := by decide +kernel
set_option maxRecDepth 20000 in
theorem ggX11_set_X11_isRow : GoodIn wsX11_set wsX11_isRow := goodIn_r _ [8] (by decide +kernel) (by decide +kernel)
set_option maxRecDepth 20000 in
theorem gX11_set_X11_isRow : GoodIn wsX11_set (va_wsS RX11 81 yX11_isRow wsX11_isRow) := goodIn_app (goodIn_of _ (by decide +kernel)) ggX11_set_X11_isRow
set_option maxRecDepth 20000 in
theorem ggX11_set_X11_found : GoodIn wsX11_set wsX11_found := goodIn_r _ [12, 13, 14, 30, 31, 32, 33, 34, 35, 36, 37, 38, 39, 40, 41, 42] (by decide +kernel) (by decide +kernel)
set_option maxRecDepth 20000 in
theorem gX11_set_X11_found : GoodIn wsX11_set (wsV RX11 90 RX11 yX11_found wsX11_found) := goodIn_app (goodIn_of _ (by decide +kernel)) ggX11_set_X11_found
set_option maxRecDepth 20000 in
theorem ggX11_set_X6_has : GoodIn wsX11_set wsX6_has := goodIn_r _ [19, 20, 43, 44, 45, 46] (by decide +kernel) (by decide +kernel)
set_option maxRecDepth 20000 in
theorem gX11_set_X6_has : GoodIn wsX11_set (wsV RX11 105 RX6 yX6_has wsX6_has) := goodIn_app (goodIn_of _ (by decide +kernel)) ggX11_set_X6_has
set_option maxRecDepth 20000 in
theorem ggX11_set_X6_narrowed : GoodIn wsX11_set wsX6_narrowed := goodIn_r _ [24, 25, 43, 44, 45, 46] (by decide +kernel) (by decide +kernel)
set_option maxRecDepth 20000 in
theorem gX11_set_X6_narrowed : GoodIn wsX11_set (wsV RX11 113 RX6 yX6_narrowed wsX6_narrowed) := goodIn_app (goodIn_of _ (by decide +kernel)) ggX11_set_X6_narrowed
set_option maxRecDepth 20000 in
theorem ggX11_set_X11_fine : GoodIn wsX11_set wsX11_fine := goodIn_r _ [29, 13, 30, 31, 32, 33, 34, 35, 36, 37, 38, 39, 40, 41, 42] (by decide +kernel) (by decide +kernel)
set_option maxRecDepth 20000 in
theorem gX11_set_X11_fine : GoodIn wsX11_set (wsV RX11 98 RX11 yX11_fine wsX11_fine) := goodIn_app (goodIn_of _ (by decide +kernel)) ggX11_set_X11_fine
theorem dX11_set_0 : decode cX11_set 0 = .ok (.iload_n 1, 1) := by decide +kernel
theorem dX11_set_1 : decode cX11_set 1 = .ok (.invokestatic 81, 3) := by decide +kernel
theorem dX11_set_4 : decode cX11_set 4 = .ok (.ifCond .ne 6, 3) := by decide +kernel
theorem dX11_set_7 : decode cX11_set 7 = .ok (.ldc 89, 2) := by decide +kernel
theorem dX11_set_9 : decode cX11_set 9 = .ok (.ireturn, 1) := by decide +kernel
theorem dX11_set_10 : decode cX11_set 10 = .ok (.aload_n 0, 1) := by decide +kernel
theorem dX11_set_11 : decode cX11_set 11 = .ok (.getfield 11, 3) := by decide +kernel
theorem dX11_set_14 : decode cX11_set 14 = .ok (.iload_n 1, 1) := by decide +kernel
theorem dX11_set_15 : decode cX11_set 15 = .ok (.aaload, 1) := by decide +kernel
theorem dX11_set_16 : decode cX11_set 16 = .ok (.astore 4, 2) := by decide +kernel
theorem dX11_set_18 : decode cX11_set 18 = .ok (.aload 4, 2) := by decide +kernel
theorem dX11_set_20 : decode cX11_set 20 = .ok (.getfield 101, 3) := by decide +kernel
theorem dX11_set_23 : decode cX11_set 23 = .ok (.ifCond .ne 9, 3) := by decide +kernel
theorem dX11_set_26 : decode cX11_set 26 = .ok (.aload_n 0, 1) := by decide +kernel
theorem dX11_set_27 : decode cX11_set 27 = .ok (.iconst 1, 1) := by decide +kernel
theorem dX11_set_28 : decode cX11_set 28 = .ok (.invokevirtual 90, 3) := by decide +kernel
theorem dX11_set_31 : decode cX11_set 31 = .ok (.ireturn, 1) := by decide +kernel
theorem dX11_set_32 : decode cX11_set 32 = .ok (.aload 4, 2) := by decide +kernel
theorem dX11_set_34 : decode cX11_set 34 = .ok (.iload_n 2, 1) := by decide +kernel
theorem dX11_set_35 : decode cX11_set 35 = .ok (.iconst 1, 1) := by decide +kernel
theorem dX11_set_36 : decode cX11_set 36 = .ok (.invokevirtual 105, 3) := by decide +kernel
theorem dX11_set_39 : decode cX11_set 39 = .ok (.ifCond .ne 9, 3) := by decide +kernel
theorem dX11_set_42 : decode cX11_set 42 = .ok (.aload_n 0, 1) := by decide +kernel
theorem dX11_set_43 : decode cX11_set 43 = .ok (.iconst 2, 1) := by decide +kernel
theorem dX11_set_44 : decode cX11_set 44 = .ok (.invokevirtual 90, 3) := by decide +kernel
theorem dX11_set_47 : decode cX11_set 47 = .ok (.ireturn, 1) := by decide +kernel
theorem dX11_set_48 : decode cX11_set 48 = .ok (.aload 4, 2) := by decide +kernel
theorem dX11_set_50 : decode cX11_set 50 = .ok (.getfield 109, 3) := by decide +kernel
theorem dX11_set_53 : decode cX11_set 53 = .ok (.iload_n 2, 1) := by decide +kernel
theorem dX11_set_54 : decode cX11_set 54 = .ok (.aload 4, 2) := by decide +kernel
theorem dX11_set_56 : decode cX11_set 56 = .ok (.iload_n 3, 1) := by decide +kernel
theorem dX11_set_57 : decode cX11_set 57 = .ok (.invokevirtual 113, 3) := by decide +kernel
theorem dX11_set_60 : decode cX11_set 60 = .ok (.iastore, 1) := by decide +kernel
theorem dX11_set_61 : decode cX11_set 61 = .ok (.aload_n 0, 1) := by decide +kernel
theorem dX11_set_62 : decode cX11_set 62 = .ok (.aload 4, 2) := by decide +kernel
theorem dX11_set_64 : decode cX11_set 64 = .ok (.getfield 109, 3) := by decide +kernel
theorem dX11_set_67 : decode cX11_set 67 = .ok (.iload_n 2, 1) := by decide +kernel
theorem dX11_set_68 : decode cX11_set 68 = .ok (.iaload, 1) := by decide +kernel
theorem dX11_set_69 : decode cX11_set 69 = .ok (.invokevirtual 98, 3) := by decide +kernel
theorem dX11_set_72 : decode cX11_set 72 = .ok (.ireturn, 1) := by decide +kernel
set_option maxRecDepth 20000 in
theorem ggX11_copy_X11_isRow : GoodIn wsX11_copy wsX11_isRow := goodIn_r _ [13] (by decide +kernel) (by decide +kernel)
set_option maxRecDepth 20000 in
theorem gX11_copy_X11_isRow : GoodIn wsX11_copy (va_wsS RX11 81 yX11_isRow wsX11_isRow) := goodIn_app (goodIn_of _ (by decide +kernel)) ggX11_copy_X11_isRow
set_option maxRecDepth 20000 in
theorem ggX11_copy_X11_found : GoodIn wsX11_copy wsX11_found := goodIn_r _ [17, 18, 19, 30, 31, 32, 33, 34, 35, 36, 37, 38, 39, 40, 41, 42] (by decide +kernel) (by decide +kernel)
set_option maxRecDepth 20000 in
theorem gX11_copy_X11_found : GoodIn wsX11_copy (wsV RX11 90 RX11 yX11_found wsX11_found) := goodIn_app (goodIn_of _ (by decide +kernel)) ggX11_copy_X11_found
set_option maxRecDepth 20000 in
theorem ggX11_copy_X6_has : GoodIn wsX11_copy wsX6_has := goodIn_r _ [24, 25, 43, 44, 45, 46] (by decide +kernel) (by decide +kernel)
set_option maxRecDepth 20000 in
theorem gX11_copy_X6_has : GoodIn wsX11_copy (wsV RX11 105 RX6 yX6_has wsX6_has) := goodIn_app (goodIn_of _ (by decide +kernel)) ggX11_copy_X6_has
set_option maxRecDepth 20000 in
theorem ggX11_copy_X11_fine : GoodIn wsX11_copy wsX11_fine := goodIn_r _ [29, 18, 30, 31, 32, 33, 34, 35, 36, 37, 38, 39, 40, 41, 42] (by decide +kernel) (by decide +kernel)
set_option maxRecDepth 20000 in
theorem gX11_copy_X11_fine : GoodIn wsX11_copy (wsV RX11 98 RX11 yX11_fine wsX11_fine) := goodIn_app (goodIn_of _ (by decide +kernel)) ggX11_copy_X11_fine
theorem dX11_copy_0 : decode cX11_copy 0 = .ok (.iload_n 1, 1) := by decide +kernel
theorem dX11_copy_1 : decode cX11_copy 1 = .ok (.invokestatic 81, 3) := by decide +kernel
theorem dX11_copy_4 : decode cX11_copy 4 = .ok (.ifCond .eq 10, 3) := by decide +kernel
theorem dX11_copy_7 : decode cX11_copy 7 = .ok (.iload_n 3, 1) := by decide +kernel
theorem dX11_copy_8 : decode cX11_copy 8 = .ok (.invokestatic 81, 3) := by decide +kernel
theorem dX11_copy_11 : decode cX11_copy 11 = .ok (.ifCond .ne 6, 3) := by decide +kernel
theorem dX11_copy_14 : decode cX11_copy 14 = .ok (.ldc 89, 2) := by decide +kernel
theorem dX11_copy_16 : decode cX11_copy 16 = .ok (.ireturn, 1) := by decide +kernel
theorem dX11_copy_17 : decode cX11_copy 17 = .ok (.aload_n 0, 1) := by decide +kernel
theorem dX11_copy_18 : decode cX11_copy 18 = .ok (.getfield 11, 3) := by decide +kernel
theorem dX11_copy_21 : decode cX11_copy 21 = .ok (.iload_n 1, 1) := by decide +kernel
theorem dX11_copy_22 : decode cX11_copy 22 = .ok (.aaload, 1) := by decide +kernel
theorem dX11_copy_23 : decode cX11_copy 23 = .ok (.astore 6, 2) := by decide +kernel
theorem dX11_copy_25 : decode cX11_copy 25 = .ok (.aload_n 0, 1) := by decide +kernel
theorem dX11_copy_26 : decode cX11_copy 26 = .ok (.getfield 11, 3) := by decide +kernel
theorem dX11_copy_29 : decode cX11_copy 29 = .ok (.iload_n 3, 1) := by decide +kernel
theorem dX11_copy_30 : decode cX11_copy 30 = .ok (.aaload, 1) := by decide +kernel
theorem dX11_copy_31 : decode cX11_copy 31 = .ok (.astore 7, 2) := by decide +kernel
theorem dX11_copy_33 : decode cX11_copy 33 = .ok (.aload 6, 2) := by decide +kernel
theorem dX11_copy_35 : decode cX11_copy 35 = .ok (.getfield 101, 3) := by decide +kernel
theorem dX11_copy_38 : decode cX11_copy 38 = .ok (.ifCond .eq 11, 3) := by decide +kernel
theorem dX11_copy_41 : decode cX11_copy 41 = .ok (.aload 7, 2) := by decide +kernel
theorem dX11_copy_43 : decode cX11_copy 43 = .ok (.getfield 101, 3) := by decide +kernel
theorem dX11_copy_46 : decode cX11_copy 46 = .ok (.ifCond .ne 9, 3) := by decide +kernel
theorem dX11_copy_49 : decode cX11_copy 49 = .ok (.aload_n 0, 1) := by decide +kernel
theorem dX11_copy_50 : decode cX11_copy 50 = .ok (.iconst 1, 1) := by decide +kernel
theorem dX11_copy_51 : decode cX11_copy 51 = .ok (.invokevirtual 90, 3) := by decide +kernel
theorem dX11_copy_54 : decode cX11_copy 54 = .ok (.ireturn, 1) := by decide +kernel
theorem dX11_copy_55 : decode cX11_copy 55 = .ok (.aload 6, 2) := by decide +kernel
theorem dX11_copy_57 : decode cX11_copy 57 = .ok (.getfield 116, 3) := by decide +kernel
theorem dX11_copy_60 : decode cX11_copy 60 = .ok (.aload 7, 2) := by decide +kernel
theorem dX11_copy_62 : decode cX11_copy 62 = .ok (.getfield 116, 3) := by decide +kernel
theorem dX11_copy_65 : decode cX11_copy 65 = .ok (.if_icmp .eq 9, 3) := by decide +kernel
theorem dX11_copy_68 : decode cX11_copy 68 = .ok (.aload_n 0, 1) := by decide +kernel
theorem dX11_copy_69 : decode cX11_copy 69 = .ok (.iconst 5, 1) := by decide +kernel
theorem dX11_copy_70 : decode cX11_copy 70 = .ok (.invokevirtual 90, 3) := by decide +kernel
theorem dX11_copy_73 : decode cX11_copy 73 = .ok (.ireturn, 1) := by decide +kernel
theorem dX11_copy_74 : decode cX11_copy 74 = .ok (.aload 6, 2) := by decide +kernel
theorem dX11_copy_76 : decode cX11_copy 76 = .ok (.iload_n 2, 1) := by decide +kernel
theorem dX11_copy_77 : decode cX11_copy 77 = .ok (.iload 5, 2) := by decide +kernel
theorem dX11_copy_79 : decode cX11_copy 79 = .ok (.invokevirtual 105, 3) := by decide +kernel
theorem dX11_copy_82 : decode cX11_copy 82 = .ok (.ifCond .eq 15, 3) := by decide +kernel
theorem dX11_copy_85 : decode cX11_copy 85 = .ok (.aload 7, 2) := by decide +kernel
theorem dX11_copy_87 : decode cX11_copy 87 = .ok (.iload 4, 2) := by decide +kernel
theorem dX11_copy_89 : decode cX11_copy 89 = .ok (.iload 5, 2) := by decide +kernel
theorem dX11_copy_91 : decode cX11_copy 91 = .ok (.invokevirtual 105, 3) := by decide +kernel
theorem dX11_copy_94 : decode cX11_copy 94 = .ok (.ifCond .ne 9, 3) := by decide +kernel
theorem dX11_copy_97 : decode cX11_copy 97 = .ok (.aload_n 0, 1) := by decide +kernel
theorem dX11_copy_98 : decode cX11_copy 98 = .ok (.iconst 2, 1) := by decide +kernel
theorem dX11_copy_99 : decode cX11_copy 99 = .ok (.invokevirtual 90, 3) := by decide +kernel
theorem dX11_copy_102 : decode cX11_copy 102 = .ok (.ireturn, 1) := by decide +kernel
theorem dX11_copy_103 : decode cX11_copy 103 = .ok (.aload 6, 2) := by decide +kernel
theorem dX11_copy_105 : decode cX11_copy 105 = .ok (.getfield 109, 3) := by decide +kernel
theorem dX11_copy_108 : decode cX11_copy 108 = .ok (.iload_n 2, 1) := by decide +kernel
theorem dX11_copy_109 : decode cX11_copy 109 = .ok (.aload 7, 2) := by decide +kernel
theorem dX11_copy_111 : decode cX11_copy 111 = .ok (.getfield 109, 3) := by decide +kernel
theorem dX11_copy_114 : decode cX11_copy 114 = .ok (.iload 4, 2) := by decide +kernel
theorem dX11_copy_116 : decode cX11_copy 116 = .ok (.iload 5, 2) := by decide +kernel
theorem dX11_copy_118 : decode cX11_copy 118 = .ok (.invokestatic 120, 3) := by decide +kernel
theorem dX11_copy_121 : decode cX11_copy 121 = .ok (.aload_n 0, 1) := by decide +kernel
theorem dX11_copy_122 : decode cX11_copy 122 = .ok (.iload 5, 2) := by decide +kernel
theorem dX11_copy_124 : decode cX11_copy 124 = .ok (.invokevirtual 98, 3) := by decide +kernel
theorem dX11_copy_127 : decode cX11_copy 127 = .ok (.ireturn, 1) := by decide +kernel
set_option maxRecDepth 20000 in
theorem ggX11_drop_X11_isRow : GoodIn wsX11_drop wsX11_isRow := goodIn_r _ [8] (by decide +kernel) (by decide +kernel)
set_option maxRecDepth 20000 in
theorem gX11_drop_X11_isRow : GoodIn wsX11_drop (va_wsS RX11 81 yX11_isRow wsX11_isRow) := goodIn_app (goodIn_of _ (by decide +kernel)) ggX11_drop_X11_isRow
set_option maxRecDepth 20000 in
theorem ggX11_drop_X11_found : GoodIn wsX11_drop wsX11_found := goodIn_r _ [12, 13, 14, 19, 20, 21, 22, 23, 24, 25, 26, 27, 28, 29, 30, 31] (by decide +kernel) (by decide +kernel)
set_option maxRecDepth 20000 in
theorem gX11_drop_X11_found : GoodIn wsX11_drop (wsV RX11 90 RX11 yX11_found wsX11_found) := goodIn_app (goodIn_of _ (by decide +kernel)) ggX11_drop_X11_found
set_option maxRecDepth 20000 in
theorem ggX11_drop_X11_fine : GoodIn wsX11_drop wsX11_fine := goodIn_r _ [18, 13, 19, 20, 21, 22, 23, 24, 25, 26, 27, 28, 29, 30, 31] (by decide +kernel) (by decide +kernel)
set_option maxRecDepth 20000 in
theorem gX11_drop_X11_fine : GoodIn wsX11_drop (wsV RX11 98 RX11 yX11_fine wsX11_fine) := goodIn_app (goodIn_of _ (by decide +kernel)) ggX11_drop_X11_fine
theorem dX11_drop_0 : decode cX11_drop 0 = .ok (.iload_n 1, 1) := by decide +kernel
theorem dX11_drop_1 : decode cX11_drop 1 = .ok (.invokestatic 81, 3) := by decide +kernel
theorem dX11_drop_4 : decode cX11_drop 4 = .ok (.ifCond .ne 6, 3) := by decide +kernel
theorem dX11_drop_7 : decode cX11_drop 7 = .ok (.ldc 89, 2) := by decide +kernel
theorem dX11_drop_9 : decode cX11_drop 9 = .ok (.ireturn, 1) := by decide +kernel
theorem dX11_drop_10 : decode cX11_drop 10 = .ok (.aload_n 0, 1) := by decide +kernel
theorem dX11_drop_11 : decode cX11_drop 11 = .ok (.getfield 11, 3) := by decide +kernel
theorem dX11_drop_14 : decode cX11_drop 14 = .ok (.iload_n 1, 1) := by decide +kernel
theorem dX11_drop_15 : decode cX11_drop 15 = .ok (.aaload, 1) := by decide +kernel
theorem dX11_drop_16 : decode cX11_drop 16 = .ok (.astore_n 2, 1) := by decide +kernel
theorem dX11_drop_17 : decode cX11_drop 17 = .ok (.aload_n 2, 1) := by decide +kernel
theorem dX11_drop_18 : decode cX11_drop 18 = .ok (.getfield 101, 3) := by decide +kernel
theorem dX11_drop_21 : decode cX11_drop 21 = .ok (.ifCond .ne 9, 3) := by decide +kernel
theorem dX11_drop_24 : decode cX11_drop 24 = .ok (.aload_n 0, 1) := by decide +kernel
theorem dX11_drop_25 : decode cX11_drop 25 = .ok (.iconst 1, 1) := by decide +kernel
theorem dX11_drop_26 : decode cX11_drop 26 = .ok (.invokevirtual 90, 3) := by decide +kernel
theorem dX11_drop_29 : decode cX11_drop 29 = .ok (.ireturn, 1) := by decide +kernel
theorem dX11_drop_30 : decode cX11_drop 30 = .ok (.aload_n 2, 1) := by decide +kernel
theorem dX11_drop_31 : decode cX11_drop 31 = .ok (.iconst 0, 1) := by decide +kernel
theorem dX11_drop_32 : decode cX11_drop 32 = .ok (.putfield 101, 3) := by decide +kernel
theorem dX11_drop_35 : decode cX11_drop 35 = .ok (.aload_n 0, 1) := by decide +kernel
theorem dX11_drop_36 : decode cX11_drop 36 = .ok (.aload_n 2, 1) := by decide +kernel
theorem dX11_drop_37 : decode cX11_drop 37 = .ok (.getfield 126, 3) := by decide +kernel
theorem dX11_drop_40 : decode cX11_drop 40 = .ok (.invokevirtual 98, 3) := by decide +kernel
theorem dX11_drop_43 : decode cX11_drop 43 = .ok (.ireturn, 1) := by decide +kernel
set_option maxRecDepth 20000 in
theorem ggX11_feed_X11_outside : GoodIn wsX11_feed wsX11_outside := goodIn_r _ [8] (by decide +kernel) (by decide +kernel)
set_option maxRecDepth 20000 in
theorem gX11_feed_X11_outside : GoodIn wsX11_feed (va_wsS RX11 85 yX11_outside wsX11_outside) := goodIn_app (goodIn_of _ (by decide +kernel)) ggX11_feed_X11_outside
set_option maxRecDepth 20000 in
theorem ggX11_feed_X9_add : GoodIn wsX11_feed wsX9_add := goodIn_r _ [13, 14, 15, 29, 30, 31, 32, 33] (by decide +kernel) (by decide +kernel)
set_option maxRecDepth 20000 in
theorem gX11_feed_X9_add : GoodIn wsX11_feed (wsV RX11 129 RX9 yX9_add wsX9_add) := goodIn_app (goodIn_of _ (by decide +kernel)) ggX11_feed_X9_add
theorem dX11_feed_0 : decode cX11_feed 0 = .ok (.iload_n 1, 1) := by decide +kernel
theorem dX11_feed_1 : decode cX11_feed 1 = .ok (.iconst 0, 1) := by decide +kernel
theorem dX11_feed_2 : decode cX11_feed 2 = .ok (.sipush 255, 3) := by decide +kernel
theorem dX11_feed_5 : decode cX11_feed 5 = .ok (.invokestatic 85, 3) := by decide +kernel
theorem dX11_feed_8 : decode cX11_feed 8 = .ok (.ifCond .eq 6, 3) := by decide +kernel
theorem dX11_feed_11 : decode cX11_feed 11 = .ok (.ldc 89, 2) := by decide +kernel
theorem dX11_feed_13 : decode cX11_feed 13 = .ok (.ireturn, 1) := by decide +kernel
theorem dX11_feed_14 : decode cX11_feed 14 = .ok (.aload_n 0, 1) := by decide +kernel
theorem dX11_feed_15 : decode cX11_feed 15 = .ok (.getfield 18, 3) := by decide +kernel
theorem dX11_feed_18 : decode cX11_feed 18 = .ok (.iload_n 1, 1) := by decide +kernel
theorem dX11_feed_19 : decode cX11_feed 19 = .ok (.invokevirtual 129, 3) := by decide +kernel
theorem dX11_feed_22 : decode cX11_feed 22 = .ok (.ifCond .eq 13, 3) := by decide +kernel
theorem dX11_feed_25 : decode cX11_feed 25 = .ok (.aload_n 0, 1) := by decide +kernel
theorem dX11_feed_26 : decode cX11_feed 26 = .ok (.getfield 18, 3) := by decide +kernel
theorem dX11_feed_29 : decode cX11_feed 29 = .ok (.getfield 132, 3) := by decide +kernel
theorem dX11_feed_32 : decode cX11_feed 32 = .ok (.goto 5, 3) := by decide +kernel
theorem dX11_feed_35 : decode cX11_feed 35 = .ok (.ldc 133, 2) := by decide +kernel
theorem dX11_feed_37 : decode cX11_feed 37 = .ok (.ireturn, 1) := by decide +kernel
set_option maxRecDepth 20000 in
theorem ggX11_field_X9_readInto : GoodIn wsX11_field wsX9_readInto := goodIn_r _ [16, 17, 18, 19, 20, 21, 22, 23, 24, 25, 26, 27, 28, 29, 30, 31, 15, 32, 33, 34, 35, 36, 37, 38, 39, 40, 41, 42, 43, 44, 45, 46, 47, 48, 49, 50, 51, 52, 53, 54, 55, 56, 57, 58, 59, 60, 61, 62, 63, 64, 65, 66, 67, 68, 69, 70, 71, 99, 100, 101, 102, 103, 104, 105, 106, 107, 108, 109, 110, 111, 112, 113, 114, 115, 116] (by decide +kernel) (by decide +kernel)
set_option maxRecDepth 20000 in
theorem gX11_field_X9_readInto : GoodIn wsX11_field (wsV RX11 134 RX9 yX9_readInto wsX9_readInto) := goodIn_app (goodIn_of _ (by decide +kernel)) ggX11_field_X9_readInto
set_option maxRecDepth 20000 in
theorem ggX11_field_X1_become : GoodIn wsX11_field wsX1_become := goodIn_r _ [75, 24, 25, 76, 77, 78, 79, 80, 81, 82, 83, 84, 85, 26, 27, 28, 104, 105, 106, 107, 108, 109, 110, 111, 112, 113, 114, 115, 116] (by decide +kernel) (by decide +kernel)
set_option maxRecDepth 20000 in
theorem gX11_field_X1_become : GoodIn wsX11_field (wsV RX11 148 RX1 yX1_become wsX1_become) := goodIn_app (goodIn_of _ (by decide +kernel)) ggX11_field_X1_become
theorem dX11_field_0 : decode cX11_field 0 = .ok (.aload_n 0, 1) := by decide +kernel
theorem dX11_field_1 : decode cX11_field 1 = .ok (.getfield 18, 3) := by decide +kernel
theorem dX11_field_4 : decode cX11_field 4 = .ok (.aload_n 0, 1) := by decide +kernel
theorem dX11_field_5 : decode cX11_field 5 = .ok (.getfield 69, 3) := by decide +kernel
theorem dX11_field_8 : decode cX11_field 8 = .ok (.aload_n 0, 1) := by decide +kernel
theorem dX11_field_9 : decode cX11_field 9 = .ok (.getfield 31, 3) := by decide +kernel
theorem dX11_field_12 : decode cX11_field 12 = .ok (.invokevirtual 134, 3) := by decide +kernel
theorem dX11_field_15 : decode cX11_field 15 = .ok (.istore_n 1, 1) := by decide +kernel
theorem dX11_field_16 : decode cX11_field 16 = .ok (.aload_n 0, 1) := by decide +kernel
theorem dX11_field_17 : decode cX11_field 17 = .ok (.getfield 18, 3) := by decide +kernel
theorem dX11_field_20 : decode cX11_field 20 = .ok (.iconst 0, 1) := by decide +kernel
theorem dX11_field_21 : decode cX11_field 21 = .ok (.putfield 132, 3) := by decide +kernel
theorem dX11_field_24 : decode cX11_field 24 = .ok (.iload_n 1, 1) := by decide +kernel
theorem dX11_field_25 : decode cX11_field 25 = .ok (.ifCond .ne 25, 3) := by decide +kernel
theorem dX11_field_28 : decode cX11_field 28 = .ok (.aload_n 0, 1) := by decide +kernel
theorem dX11_field_29 : decode cX11_field 29 = .ok (.aload_n 0, 1) := by decide +kernel
theorem dX11_field_30 : decode cX11_field 30 = .ok (.getfield 18, 3) := by decide +kernel
theorem dX11_field_33 : decode cX11_field 33 = .ok (.getfield 138, 3) := by decide +kernel
theorem dX11_field_36 : decode cX11_field 36 = .ok (.putfield 141, 3) := by decide +kernel
theorem dX11_field_39 : decode cX11_field 39 = .ok (.ldc 144, 2) := by decide +kernel
theorem dX11_field_41 : decode cX11_field 41 = .ok (.aload_n 0, 1) := by decide +kernel
theorem dX11_field_42 : decode cX11_field 42 = .ok (.getfield 18, 3) := by decide +kernel
theorem dX11_field_45 : decode cX11_field 45 = .ok (.getfield 145, 3) := by decide +kernel
theorem dX11_field_48 : decode cX11_field 48 = .ok (.isub, 1) := by decide +kernel
theorem dX11_field_49 : decode cX11_field 49 = .ok (.ireturn, 1) := by decide +kernel
theorem dX11_field_50 : decode cX11_field 50 = .ok (.aload_n 0, 1) := by decide +kernel
theorem dX11_field_51 : decode cX11_field 51 = .ok (.getfield 65, 3) := by decide +kernel
theorem dX11_field_54 : decode cX11_field 54 = .ok (.aload_n 0, 1) := by decide +kernel
theorem dX11_field_55 : decode cX11_field 55 = .ok (.getfield 69, 3) := by decide +kernel
theorem dX11_field_58 : decode cX11_field 58 = .ok (.invokevirtual 148, 3) := by decide +kernel
theorem dX11_field_61 : decode cX11_field 61 = .ok (.aload_n 0, 1) := by decide +kernel
theorem dX11_field_62 : decode cX11_field 62 = .ok (.iconst 0, 1) := by decide +kernel
theorem dX11_field_63 : decode cX11_field 63 = .ok (.putfield 152, 3) := by decide +kernel
theorem dX11_field_66 : decode cX11_field 66 = .ok (.aload_n 0, 1) := by decide +kernel
theorem dX11_field_67 : decode cX11_field 67 = .ok (.getfield 65, 3) := by decide +kernel
theorem dX11_field_70 : decode cX11_field 70 = .ok (.getfield 155, 3) := by decide +kernel
theorem dX11_field_73 : decode cX11_field 73 = .ok (.ireturn, 1) := by decide +kernel
theorem dX11_fault_0 : decode cX11_fault 0 = .ok (.aload_n 0, 1) := by decide +kernel
theorem dX11_fault_1 : decode cX11_fault 1 = .ok (.getfield 141, 3) := by decide +kernel
theorem dX11_fault_4 : decode cX11_fault 4 = .ok (.ireturn, 1) := by decide +kernel
set_option maxRecDepth 20000 in
theorem ggX11_years_X11_outside : GoodIn wsX11_years wsX11_outside := goodIn_r _ [10] (by decide +kernel) (by decide +kernel)
set_option maxRecDepth 20000 in
theorem gX11_years_X11_outside : GoodIn wsX11_years (va_wsS RX11 85 yX11_outside wsX11_outside) := goodIn_app (goodIn_of _ (by decide +kernel)) ggX11_years_X11_outside
set_option maxRecDepth 20000 in
theorem ggX11_years_X11_keepAct : GoodIn wsX11_years wsX11_keepAct := goodIn_r _ [14, 15, 16, 1, 17, 18, 19, 20, 21, 22, 23, 24, 25, 26, 27, 28, 29, 30, 31, 32, 33, 34, 35, 36, 37, 38, 39, 40, 41, 109, 110, 111, 112, 113, 114, 115, 116, 117, 118, 119, 120, 121, 122, 123, 124, 125, 126, 127, 128, 129, 130, 131, 132, 133, 134] (by decide +kernel) (by decide +kernel)
set_option maxRecDepth 20000 in
theorem gX11_years_X11_keepAct : GoodIn wsX11_years (wsV RX11 162 RX11 yX11_keepAct wsX11_keepAct) := goodIn_app (goodIn_of _ (by decide +kernel)) ggX11_years_X11_keepAct
set_option maxRecDepth 20000 in
theorem ggX11_years_X1_hasFrost : GoodIn wsX11_years wsX1_hasFrost := goodIn_r _ [45, 30, 28, 122, 123, 124, 125, 126, 127, 128, 129, 130, 131, 132, 133, 134] (by decide +kernel) (by decide +kernel)
set_option maxRecDepth 20000 in
theorem gX11_years_X1_hasFrost : GoodIn wsX11_years (wsV RX11 165 RX1 yX1_hasFrost wsX1_hasFrost) := goodIn_app (goodIn_of _ (by decide +kernel)) ggX11_years_X1_hasFrost
set_option maxRecDepth 20000 in
theorem ggX11_years_X1_pass : GoodIn wsX11_years wsX1_pass := goodIn_r _ [49, 27, 37, 50, 32, 51, 19, 20, 21, 28, 52, 53, 54, 25, 55, 31, 39, 56, 38, 57, 58, 59, 60, 41, 61, 62, 63, 64, 65, 66, 67, 68, 69, 70, 71, 72, 73, 74, 75, 76, 77, 78, 79, 80, 81, 82, 83, 84, 85, 86, 87, 88, 89, 90, 91, 92, 93, 94, 95, 96, 97, 98, 99, 100, 122, 123, 124, 125, 126, 127, 128, 129, 130, 131, 132, 133, 134] (by decide +kernel) (by decide +kernel)
set_option maxRecDepth 20000 in
theorem gX11_years_X1_pass : GoodIn wsX11_years (wsV RX11 169 RX1 yX1_pass wsX1_pass) := goodIn_app (goodIn_of _ (by decide +kernel)) ggX11_years_X1_pass
set_option maxRecDepth 20000 in
theorem ggX11_years_X1_allRanks : GoodIn wsX11_years wsX1_allRanks := goodIn_r _ [104, 27, 105, 106, 107, 25, 108, 32, 122, 123, 124, 125, 126, 127, 128, 129, 130, 131, 132, 133, 134] (by decide +kernel) (by decide +kernel)
set_option maxRecDepth 20000 in
theorem gX11_years_X1_allRanks : GoodIn wsX11_years (wsV RX11 173 RX1 yX1_allRanks wsX1_allRanks) := goodIn_app (goodIn_of _ (by decide +kernel)) ggX11_years_X1_allRanks
theorem dX11_years_0 : decode cX11_years 0 = .ok (.aload_n 0, 1) := by decide +kernel
theorem dX11_years_1 : decode cX11_years 1 = .ok (.getfield 65, 3) := by decide +kernel
theorem dX11_years_4 : decode cX11_years 4 = .ok (.getfield 155, 3) := by decide +kernel
theorem dX11_years_7 : decode cX11_years 7 = .ok (.ifCond .ne 6, 3) := by decide +kernel
theorem dX11_years_10 : decode cX11_years 10 = .ok (.ldc 158, 2) := by decide +kernel
theorem dX11_years_12 : decode cX11_years 12 = .ok (.ireturn, 1) := by decide +kernel
theorem dX11_years_13 : decode cX11_years 13 = .ok (.iload_n 1, 1) := by decide +kernel
theorem dX11_years_14 : decode cX11_years 14 = .ok (.iconst 1, 1) := by decide +kernel
theorem dX11_years_15 : decode cX11_years 15 = .ok (.bipush 24, 2) := by decide +kernel
theorem dX11_years_17 : decode cX11_years 17 = .ok (.invokestatic 85, 3) := by decide +kernel
theorem dX11_years_20 : decode cX11_years 20 = .ok (.ifCond .eq 6, 3) := by decide +kernel
theorem dX11_years_23 : decode cX11_years 23 = .ok (.ldc 89, 2) := by decide +kernel
theorem dX11_years_25 : decode cX11_years 25 = .ok (.ireturn, 1) := by decide +kernel
theorem dX11_years_26 : decode cX11_years 26 = .ok (.aload_n 0, 1) := by decide +kernel
theorem dX11_years_27 : decode cX11_years 27 = .ok (.getfield 65, 3) := by decide +kernel
theorem dX11_years_30 : decode cX11_years 30 = .ok (.getfield 159, 3) := by decide +kernel
theorem dX11_years_33 : decode cX11_years 33 = .ok (.iload_n 1, 1) := by decide +kernel
theorem dX11_years_34 : decode cX11_years 34 = .ok (.iadd, 1) := by decide +kernel
theorem dX11_years_35 : decode cX11_years 35 = .ok (.sipush 9999, 3) := by decide +kernel
theorem dX11_years_38 : decode cX11_years 38 = .ok (.if_icmp .le 6, 3) := by decide +kernel
theorem dX11_years_41 : decode cX11_years 41 = .ok (.ldc 133, 2) := by decide +kernel
theorem dX11_years_43 : decode cX11_years 43 = .ok (.ireturn, 1) := by decide +kernel
theorem dX11_years_44 : decode cX11_years 44 = .ok (.iconst 0, 1) := by decide +kernel
theorem dX11_years_45 : decode cX11_years 45 = .ok (.istore_n 2, 1) := by decide +kernel
theorem dX11_years_46 : decode cX11_years 46 = .ok (.iload_n 2, 1) := by decide +kernel
theorem dX11_years_47 : decode cX11_years 47 = .ok (.iload_n 1, 1) := by decide +kernel
theorem dX11_years_48 : decode cX11_years 48 = .ok (.if_icmp .ge 27, 3) := by decide +kernel
theorem dX11_years_51 : decode cX11_years 51 = .ok (.aload_n 0, 1) := by decide +kernel
theorem dX11_years_52 : decode cX11_years 52 = .ok (.invokevirtual 162, 3) := by decide +kernel
theorem dX11_years_55 : decode cX11_years 55 = .ok (.aload_n 0, 1) := by decide +kernel
theorem dX11_years_56 : decode cX11_years 56 = .ok (.getfield 65, 3) := by decide +kernel
theorem dX11_years_59 : decode cX11_years 59 = .ok (.aload_n 0, 1) := by decide +kernel
theorem dX11_years_60 : decode cX11_years 60 = .ok (.getfield 65, 3) := by decide +kernel
theorem dX11_years_63 : decode cX11_years 63 = .ok (.invokevirtual 165, 3) := by decide +kernel
theorem dX11_years_66 : decode cX11_years 66 = .ok (.invokevirtual 169, 3) := by decide +kernel
theorem dX11_years_69 : decode cX11_years 69 = .ok (.iinc 2 1, 3) := by decide +kernel
theorem dX11_years_72 : decode cX11_years 72 = .ok (.goto (-26), 3) := by decide +kernel
theorem dX11_years_75 : decode cX11_years 75 = .ok (.aload_n 0, 1) := by decide +kernel
theorem dX11_years_76 : decode cX11_years 76 = .ok (.getfield 65, 3) := by decide +kernel
theorem dX11_years_79 : decode cX11_years 79 = .ok (.invokevirtual 173, 3) := by decide +kernel
theorem dX11_years_82 : decode cX11_years 82 = .ok (.ireturn, 1) := by decide +kernel
set_option maxRecDepth 20000 in
theorem ggX11_marry_X11_isTurnip : GoodIn wsX11_marry wsX11_isTurnip := goodIn_r _ [9, 2, 10, 46, 47, 48, 49, 50, 51, 52, 53, 54, 55, 56, 57, 58, 59, 60, 61, 62, 63, 64, 65, 66, 67, 68, 69, 70, 71] (by decide +kernel) (by decide +kernel)
set_option maxRecDepth 20000 in
theorem gX11_marry_X11_isTurnip : GoodIn wsX11_marry (wsV RX11 177 RX11 yX11_isTurnip wsX11_isTurnip) := goodIn_app (goodIn_of _ (by decide +kernel)) ggX11_marry_X11_isTurnip
set_option maxRecDepth 20000 in
theorem ggX11_marry_X11_keepAct : GoodIn wsX11_marry wsX11_keepAct := goodIn_r _ [14, 15, 16, 2, 17, 18, 19, 20, 21, 22, 23, 24, 25, 26, 27, 28, 29, 30, 31, 32, 33, 34, 35, 36, 37, 38, 39, 40, 41, 46, 47, 48, 49, 50, 51, 52, 53, 54, 55, 56, 57, 58, 59, 60, 61, 62, 63, 64, 65, 66, 67, 68, 69, 70, 71] (by decide +kernel) (by decide +kernel)
set_option maxRecDepth 20000 in
theorem gX11_marry_X11_keepAct : GoodIn wsX11_marry (wsV RX11 162 RX11 yX11_keepAct wsX11_keepAct) := goodIn_app (goodIn_of _ (by decide +kernel)) ggX11_marry_X11_keepAct
set_option maxRecDepth 20000 in
theorem ggX11_marry_X1_allMarried : GoodIn wsX11_marry wsX1_allMarried := goodIn_r _ [45, 27, 39, 59, 60, 61, 62, 63, 64, 65, 66, 67, 68, 69, 70, 71] (by decide +kernel) (by decide +kernel)
set_option maxRecDepth 20000 in
theorem gX11_marry_X1_allMarried : GoodIn wsX11_marry (wsV RX11 183 RX1 yX1_allMarried wsX1_allMarried) := goodIn_app (goodIn_of _ (by decide +kernel)) ggX11_marry_X1_allMarried
theorem dX11_marry_0 : decode cX11_marry 0 = .ok (.aload_n 0, 1) := by decide +kernel
theorem dX11_marry_1 : decode cX11_marry 1 = .ok (.iload_n 1, 1) := by decide +kernel
theorem dX11_marry_2 : decode cX11_marry 2 = .ok (.invokevirtual 177, 3) := by decide +kernel
theorem dX11_marry_5 : decode cX11_marry 5 = .ok (.ifCond .eq 16, 3) := by decide +kernel
theorem dX11_marry_8 : decode cX11_marry 8 = .ok (.aload_n 0, 1) := by decide +kernel
theorem dX11_marry_9 : decode cX11_marry 9 = .ok (.iload_n 2, 1) := by decide +kernel
theorem dX11_marry_10 : decode cX11_marry 10 = .ok (.invokevirtual 177, 3) := by decide +kernel
theorem dX11_marry_13 : decode cX11_marry 13 = .ok (.ifCond .eq 8, 3) := by decide +kernel
theorem dX11_marry_16 : decode cX11_marry 16 = .ok (.iload_n 1, 1) := by decide +kernel
theorem dX11_marry_17 : decode cX11_marry 17 = .ok (.iload_n 2, 1) := by decide +kernel
theorem dX11_marry_18 : decode cX11_marry 18 = .ok (.if_icmp .ne 6, 3) := by decide +kernel
theorem dX11_marry_21 : decode cX11_marry 21 = .ok (.ldc 89, 2) := by decide +kernel
theorem dX11_marry_23 : decode cX11_marry 23 = .ok (.ireturn, 1) := by decide +kernel
theorem dX11_marry_24 : decode cX11_marry 24 = .ok (.aload_n 0, 1) := by decide +kernel
theorem dX11_marry_25 : decode cX11_marry 25 = .ok (.getfield 65, 3) := by decide +kernel
theorem dX11_marry_28 : decode cX11_marry 28 = .ok (.getfield 180, 3) := by decide +kernel
theorem dX11_marry_31 : decode cX11_marry 31 = .ok (.iload_n 1, 1) := by decide +kernel
theorem dX11_marry_32 : decode cX11_marry 32 = .ok (.iaload, 1) := by decide +kernel
theorem dX11_marry_33 : decode cX11_marry 33 = .ok (.iconst (-1), 1) := by decide +kernel
theorem dX11_marry_34 : decode cX11_marry 34 = .ok (.if_icmp .ne 16, 3) := by decide +kernel
theorem dX11_marry_37 : decode cX11_marry 37 = .ok (.aload_n 0, 1) := by decide +kernel
theorem dX11_marry_38 : decode cX11_marry 38 = .ok (.getfield 65, 3) := by decide +kernel
theorem dX11_marry_41 : decode cX11_marry 41 = .ok (.getfield 180, 3) := by decide +kernel
theorem dX11_marry_44 : decode cX11_marry 44 = .ok (.iload_n 2, 1) := by decide +kernel
theorem dX11_marry_45 : decode cX11_marry 45 = .ok (.iaload, 1) := by decide +kernel
theorem dX11_marry_46 : decode cX11_marry 46 = .ok (.iconst (-1), 1) := by decide +kernel
theorem dX11_marry_47 : decode cX11_marry 47 = .ok (.if_icmp .eq 6, 3) := by decide +kernel
theorem dX11_marry_50 : decode cX11_marry 50 = .ok (.ldc 158, 2) := by decide +kernel
theorem dX11_marry_52 : decode cX11_marry 52 = .ok (.ireturn, 1) := by decide +kernel
theorem dX11_marry_53 : decode cX11_marry 53 = .ok (.aload_n 0, 1) := by decide +kernel
theorem dX11_marry_54 : decode cX11_marry 54 = .ok (.invokevirtual 162, 3) := by decide +kernel
theorem dX11_marry_57 : decode cX11_marry 57 = .ok (.aload_n 0, 1) := by decide +kernel
theorem dX11_marry_58 : decode cX11_marry 58 = .ok (.getfield 65, 3) := by decide +kernel
theorem dX11_marry_61 : decode cX11_marry 61 = .ok (.getfield 180, 3) := by decide +kernel
theorem dX11_marry_64 : decode cX11_marry 64 = .ok (.iload_n 1, 1) := by decide +kernel
theorem dX11_marry_65 : decode cX11_marry 65 = .ok (.iload_n 2, 1) := by decide +kernel
theorem dX11_marry_66 : decode cX11_marry 66 = .ok (.iastore, 1) := by decide +kernel
theorem dX11_marry_67 : decode cX11_marry 67 = .ok (.aload_n 0, 1) := by decide +kernel
theorem dX11_marry_68 : decode cX11_marry 68 = .ok (.getfield 65, 3) := by decide +kernel
theorem dX11_marry_71 : decode cX11_marry 71 = .ok (.getfield 180, 3) := by decide +kernel
theorem dX11_marry_74 : decode cX11_marry 74 = .ok (.iload_n 2, 1) := by decide +kernel
theorem dX11_marry_75 : decode cX11_marry 75 = .ok (.iload_n 1, 1) := by decide +kernel
theorem dX11_marry_76 : decode cX11_marry 76 = .ok (.iastore, 1) := by decide +kernel
theorem dX11_marry_77 : decode cX11_marry 77 = .ok (.aload_n 0, 1) := by decide +kernel
theorem dX11_marry_78 : decode cX11_marry 78 = .ok (.getfield 65, 3) := by decide +kernel
theorem dX11_marry_81 : decode cX11_marry 81 = .ok (.invokevirtual 183, 3) := by decide +kernel
theorem dX11_marry_84 : decode cX11_marry 84 = .ok (.ireturn, 1) := by decide +kernel
set_option maxRecDepth 20000 in
theorem ggX11_part_X11_isTurnip : GoodIn wsX11_part wsX11_isTurnip := goodIn_r _ [9, 2, 10, 42, 43, 44, 45, 46, 47, 48, 49, 50, 51, 52, 53, 54, 55, 56, 57, 58, 59, 60, 61, 62, 63, 64, 65, 66, 67] (by decide +kernel) (by decide +kernel)
set_option maxRecDepth 20000 in
theorem gX11_part_X11_isTurnip : GoodIn wsX11_part (wsV RX11 177 RX11 yX11_isTurnip wsX11_isTurnip) := goodIn_app (goodIn_of _ (by decide +kernel)) ggX11_part_X11_isTurnip
set_option maxRecDepth 20000 in
theorem ggX11_part_X11_keepAct : GoodIn wsX11_part wsX11_keepAct := goodIn_r _ [14, 15, 16, 2, 17, 18, 19, 20, 21, 22, 23, 24, 25, 26, 27, 28, 29, 30, 31, 32, 33, 34, 35, 36, 37, 38, 39, 40, 41, 42, 43, 44, 45, 46, 47, 48, 49, 50, 51, 52, 53, 54, 55, 56, 57, 58, 59, 60, 61, 62, 63, 64, 65, 66, 67] (by decide +kernel) (by decide +kernel)
set_option maxRecDepth 20000 in
theorem gX11_part_X11_keepAct : GoodIn wsX11_part (wsV RX11 162 RX11 yX11_keepAct wsX11_keepAct) := goodIn_app (goodIn_of _ (by decide +kernel)) ggX11_part_X11_keepAct
theorem dX11_part_0 : decode cX11_part 0 = .ok (.aload_n 0, 1) := by decide +kernel
theorem dX11_part_1 : decode cX11_part 1 = .ok (.iload_n 1, 1) := by decide +kernel
theorem dX11_part_2 : decode cX11_part 2 = .ok (.invokevirtual 177, 3) := by decide +kernel
theorem dX11_part_5 : decode cX11_part 5 = .ok (.ifCond .ne 6, 3) := by decide +kernel
theorem dX11_part_8 : decode cX11_part 8 = .ok (.ldc 89, 2) := by decide +kernel
theorem dX11_part_10 : decode cX11_part 10 = .ok (.ireturn, 1) := by decide +kernel
theorem dX11_part_11 : decode cX11_part 11 = .ok (.aload_n 0, 1) := by decide +kernel
theorem dX11_part_12 : decode cX11_part 12 = .ok (.getfield 65, 3) := by decide +kernel
theorem dX11_part_15 : decode cX11_part 15 = .ok (.getfield 180, 3) := by decide +kernel
theorem dX11_part_18 : decode cX11_part 18 = .ok (.iload_n 1, 1) := by decide +kernel
theorem dX11_part_19 : decode cX11_part 19 = .ok (.iaload, 1) := by decide +kernel
theorem dX11_part_20 : decode cX11_part 20 = .ok (.istore_n 2, 1) := by decide +kernel
theorem dX11_part_21 : decode cX11_part 21 = .ok (.aload_n 0, 1) := by decide +kernel
theorem dX11_part_22 : decode cX11_part 22 = .ok (.iload_n 2, 1) := by decide +kernel
theorem dX11_part_23 : decode cX11_part 23 = .ok (.invokevirtual 177, 3) := by decide +kernel
theorem dX11_part_26 : decode cX11_part 26 = .ok (.ifCond .ne 6, 3) := by decide +kernel
theorem dX11_part_29 : decode cX11_part 29 = .ok (.ldc 158, 2) := by decide +kernel
theorem dX11_part_31 : decode cX11_part 31 = .ok (.ireturn, 1) := by decide +kernel
theorem dX11_part_32 : decode cX11_part 32 = .ok (.aload_n 0, 1) := by decide +kernel
theorem dX11_part_33 : decode cX11_part 33 = .ok (.invokevirtual 162, 3) := by decide +kernel
theorem dX11_part_36 : decode cX11_part 36 = .ok (.aload_n 0, 1) := by decide +kernel
theorem dX11_part_37 : decode cX11_part 37 = .ok (.getfield 65, 3) := by decide +kernel
theorem dX11_part_40 : decode cX11_part 40 = .ok (.getfield 180, 3) := by decide +kernel
theorem dX11_part_43 : decode cX11_part 43 = .ok (.iload_n 1, 1) := by decide +kernel
theorem dX11_part_44 : decode cX11_part 44 = .ok (.iconst (-1), 1) := by decide +kernel
theorem dX11_part_45 : decode cX11_part 45 = .ok (.iastore, 1) := by decide +kernel
theorem dX11_part_46 : decode cX11_part 46 = .ok (.aload_n 0, 1) := by decide +kernel
theorem dX11_part_47 : decode cX11_part 47 = .ok (.getfield 65, 3) := by decide +kernel
theorem dX11_part_50 : decode cX11_part 50 = .ok (.getfield 180, 3) := by decide +kernel
theorem dX11_part_53 : decode cX11_part 53 = .ok (.iload_n 2, 1) := by decide +kernel
