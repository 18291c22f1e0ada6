theorem dX0_init_0 : decode cX0_init 0 = .ok (.aload_n 0, 1) := by decide +kernel
theorem dX0_init_1 : decode cX0_init 1 = .ok (.invokespecial 3, 3) := by decide +kernel
theorem dX0_init_4 : decode cX0_init 4 = .ok (.aload_n 0, 1) := by decide +kernel
theorem dX0_init_5 : decode cX0_init 5 = .ok (.iconst 5, 1) := by decide +kernel
theorem dX0_init_6 : decode cX0_init 6 = .ok (.bipush 8, 2) := by decide +kernel
theorem dX0_init_8 : decode cX0_init 8 = .ok (.multianewarray 9 2, 4) := by decide +kernel
theorem dX0_init_12 : decode cX0_init 12 = .ok (.putfield 11, 3) := by decide +kernel
theorem dX0_init_15 : decode cX0_init 15 = .ok (.aload_n 0, 1) := by decide +kernel
theorem dX0_init_16 : decode cX0_init 16 = .ok (.iconst 5, 1) := by decide +kernel
theorem dX0_init_17 : decode cX0_init 17 = .ok (.newarray .int, 2) := by decide +kernel
theorem dX0_init_19 : decode cX0_init 19 = .ok (.putfield 16, 3) := by decide +kernel
theorem dX0_init_22 : decode cX0_init 22 = .ok (.aload_n 0, 1) := by decide +kernel
theorem dX0_init_23 : decode cX0_init 23 = .ok (.iconst 5, 1) := by decide +kernel
theorem dX0_init_24 : decode cX0_init 24 = .ok (.bipush 24, 2) := by decide +kernel
theorem dX0_init_26 : decode cX0_init 26 = .ok (.multianewarray 9 2, 4) := by decide +kernel
theorem dX0_init_30 : decode cX0_init 30 = .ok (.putfield 20, 3) := by decide +kernel
theorem dX0_init_33 : decode cX0_init 33 = .ok (.aload_n 0, 1) := by decide +kernel
theorem dX0_init_34 : decode cX0_init 34 = .ok (.iconst 5, 1) := by decide +kernel
theorem dX0_init_35 : decode cX0_init 35 = .ok (.iconst 5, 1) := by decide +kernel
theorem dX0_init_36 : decode cX0_init 36 = .ok (.multianewarray 9 2, 4) := by decide +kernel
theorem dX0_init_40 : decode cX0_init 40 = .ok (.putfield 23, 3) := by decide +kernel
theorem dX0_init_43 : decode cX0_init 43 = .ok (.aload_n 0, 1) := by decide +kernel
theorem dX0_init_44 : decode cX0_init 44 = .ok (.iconst 5, 1) := by decide +kernel
theorem dX0_init_45 : decode cX0_init 45 = .ok (.iconst 5, 1) := by decide +kernel
theorem dX0_init_46 : decode cX0_init 46 = .ok (.multianewarray 9 2, 4) := by decide +kernel
theorem dX0_init_50 : decode cX0_init 50 = .ok (.putfield 26, 3) := by decide +kernel
theorem dX0_init_53 : decode cX0_init 53 = .ok (.aload_n 0, 1) := by decide +kernel
theorem dX0_init_54 : decode cX0_init 54 = .ok (.iconst 5, 1) := by decide +kernel
theorem dX0_init_55 : decode cX0_init 55 = .ok (.newarray .int, 2) := by decide +kernel
theorem dX0_init_57 : decode cX0_init 57 = .ok (.putfield 29, 3) := by decide +kernel
theorem dX0_init_60 : decode cX0_init 60 = .ok (.aload_n 0, 1) := by decide +kernel
theorem dX0_init_61 : decode cX0_init 61 = .ok (.iconst 5, 1) := by decide +kernel
theorem dX0_init_62 : decode cX0_init 62 = .ok (.newarray .int, 2) := by decide +kernel
theorem dX0_init_64 : decode cX0_init 64 = .ok (.putfield 32, 3) := by decide +kernel
theorem dX0_init_67 : decode cX0_init 67 = .ok (.aload_n 0, 1) := by decide +kernel
theorem dX0_init_68 : decode cX0_init 68 = .ok (.aload_n 1, 1) := by decide +kernel
theorem dX0_init_69 : decode cX0_init 69 = .ok (.putfield 35, 3) := by decide +kernel
theorem dX0_init_72 : decode cX0_init 72 = .ok (.aload_n 0, 1) := by decide +kernel
theorem dX0_init_73 : decode cX0_init 73 = .ok (.aload_n 2, 1) := by decide +kernel
theorem dX0_init_74 : decode cX0_init 74 = .ok (.putfield 39, 3) := by decide +kernel
theorem dX0_init_77 : decode cX0_init 77 = .ok (.aload_n 0, 1) := by decide +kernel
theorem dX0_init_78 : decode cX0_init 78 = .ok (.aload_n 3, 1) := by decide +kernel
theorem dX0_init_79 : decode cX0_init 79 = .ok (.putfield 43, 3) := by decide +kernel
theorem dX0_init_82 : decode cX0_init 82 = .ok (.return_, 1) := by decide +kernel
theorem dX0_rememberHeaps_0 : decode cX0_rememberHeaps 0 = .ok (.iconst 0, 1) := by decide +kernel
theorem dX0_rememberHeaps_1 : decode cX0_rememberHeaps 1 = .ok (.istore_n 1, 1) := by decide +kernel
theorem dX0_rememberHeaps_2 : decode cX0_rememberHeaps 2 = .ok (.iload_n 1, 1) := by decide +kernel
theorem dX0_rememberHeaps_3 : decode cX0_rememberHeaps 3 = .ok (.aload_n 0, 1) := by decide +kernel
theorem dX0_rememberHeaps_4 : decode cX0_rememberHeaps 4 = .ok (.getfield 35, 3) := by decide +kernel
theorem dX0_rememberHeaps_7 : decode cX0_rememberHeaps 7 = .ok (.getfield 47, 3) := by decide +kernel
theorem dX0_rememberHeaps_10 : decode cX0_rememberHeaps 10 = .ok (.if_icmp .ge 31, 3) := by decide +kernel
theorem dX0_rememberHeaps_13 : decode cX0_rememberHeaps 13 = .ok (.aload_n 0, 1) := by decide +kernel
theorem dX0_rememberHeaps_14 : decode cX0_rememberHeaps 14 = .ok (.getfield 35, 3) := by decide +kernel
theorem dX0_rememberHeaps_17 : decode cX0_rememberHeaps 17 = .ok (.getfield 53, 3) := by decide +kernel
theorem dX0_rememberHeaps_20 : decode cX0_rememberHeaps 20 = .ok (.iload_n 1, 1) := by decide +kernel
theorem dX0_rememberHeaps_21 : decode cX0_rememberHeaps 21 = .ok (.aaload, 1) := by decide +kernel
theorem dX0_rememberHeaps_22 : decode cX0_rememberHeaps 22 = .ok (.iconst 0, 1) := by decide +kernel
theorem dX0_rememberHeaps_23 : decode cX0_rememberHeaps 23 = .ok (.aload_n 0, 1) := by decide +kernel
theorem dX0_rememberHeaps_24 : decode cX0_rememberHeaps 24 = .ok (.getfield 11, 3) := by decide +kernel
theorem dX0_rememberHeaps_27 : decode cX0_rememberHeaps 27 = .ok (.iload_n 1, 1) := by decide +kernel
theorem dX0_rememberHeaps_28 : decode cX0_rememberHeaps 28 = .ok (.aaload, 1) := by decide +kernel
theorem dX0_rememberHeaps_29 : decode cX0_rememberHeaps 29 = .ok (.iconst 0, 1) := by decide +kernel
theorem dX0_rememberHeaps_30 : decode cX0_rememberHeaps 30 = .ok (.bipush 8, 2) := by decide +kernel
theorem dX0_rememberHeaps_32 : decode cX0_rememberHeaps 32 = .ok (.invokestatic 56, 3) := by decide +kernel
theorem dX0_rememberHeaps_35 : decode cX0_rememberHeaps 35 = .ok (.iinc 1 1, 3) := by decide +kernel
theorem dX0_rememberHeaps_38 : decode cX0_rememberHeaps 38 = .ok (.goto (-36), 3) := by decide +kernel
theorem dX0_rememberHeaps_41 : decode cX0_rememberHeaps 41 = .ok (.return_, 1) := by decide +kernel
set_option maxRecDepth 20000 in
theorem ggX0_carryAll_X0_nearestWith : GoodIn wsX0_carryAll wsX0_nearestWith := goodIn_r _ [12, 6, 13, 7, 14, 15, 16, 11, 17, 18, 19, 20, 21, 22, 23, 24, 25, 26, 33, 34, 35, 36, 37, 38, 39, 40, 41, 42, 55, 56, 57, 58, 59, 60, 61, 62, 63, 64, 65, 66, 67, 68, 69, 70] (by decide +kernel) (by decide +kernel)
set_option maxRecDepth 20000 in
theorem gX0_carryAll_X0_nearestWith : GoodIn wsX0_carryAll (wsV RX0 73 RX0 yX0_nearestWith wsX0_nearestWith) := goodIn_app (goodIn_of _ (by decide +kernel)) ggX0_carryAll_X0_nearestWith
set_option maxRecDepth 20000 in
theorem ggX0_carryAll_X0_weight : GoodIn wsX0_carryAll wsX0_weight := goodIn_r _ [30, 6, 31, 32, 33, 34, 35, 36, 37, 38, 39, 40, 41, 42, 55, 56, 57, 58, 59, 60, 61] (by decide +kernel) (by decide +kernel)
set_option maxRecDepth 20000 in
theorem gX0_carryAll_X0_weight : GoodIn wsX0_carryAll (wsV RX0 80 RX0 yX0_weight wsX0_weight) := goodIn_app (goodIn_of _ (by decide +kernel)) ggX0_carryAll_X0_weight
set_option maxRecDepth 20000 in
theorem ggX0_carryAll_X0_way : GoodIn wsX0_carryAll wsX0_way := goodIn_r _ [17, 6, 18, 19, 20, 21, 22, 23, 24, 25, 26, 33, 34, 35, 36, 37, 38, 39, 40, 41, 42, 55, 56, 57, 58, 59, 60, 61, 62, 63, 64, 65, 66, 67, 68, 69, 70] (by decide +kernel) (by decide +kernel)
set_option maxRecDepth 20000 in
theorem gX0_carryAll_X0_way : GoodIn wsX0_carryAll (wsV RX0 84 RX0 yX0_way wsX0_way) := goodIn_app (goodIn_of _ (by decide +kernel)) ggX0_carryAll_X0_way
theorem dX0_carryAll_0 : decode cX0_carryAll 0 = .ok (.lconst 0, 1) := by decide +kernel
theorem dX0_carryAll_1 : decode cX0_carryAll 1 = .ok (.lstore_n 1, 1) := by decide +kernel
theorem dX0_carryAll_2 : decode cX0_carryAll 2 = .ok (.iconst 0, 1) := by decide +kernel
theorem dX0_carryAll_3 : decode cX0_carryAll 3 = .ok (.istore_n 3, 1) := by decide +kernel
theorem dX0_carryAll_4 : decode cX0_carryAll 4 = .ok (.iload_n 3, 1) := by decide +kernel
theorem dX0_carryAll_5 : decode cX0_carryAll 5 = .ok (.aload_n 0, 1) := by decide +kernel
theorem dX0_carryAll_6 : decode cX0_carryAll 6 = .ok (.getfield 43, 3) := by decide +kernel
theorem dX0_carryAll_9 : decode cX0_carryAll 9 = .ok (.getfield 62, 3) := by decide +kernel
theorem dX0_carryAll_12 : decode cX0_carryAll 12 = .ok (.if_icmp .ge 97, 3) := by decide +kernel
theorem dX0_carryAll_15 : decode cX0_carryAll 15 = .ok (.aload_n 0, 1) := by decide +kernel
theorem dX0_carryAll_16 : decode cX0_carryAll 16 = .ok (.getfield 43, 3) := by decide +kernel
theorem dX0_carryAll_19 : decode cX0_carryAll 19 = .ok (.getfield 67, 3) := by decide +kernel
theorem dX0_carryAll_22 : decode cX0_carryAll 22 = .ok (.iload_n 3, 1) := by decide +kernel
theorem dX0_carryAll_23 : decode cX0_carryAll 23 = .ok (.iaload, 1) := by decide +kernel
theorem dX0_carryAll_24 : decode cX0_carryAll 24 = .ok (.istore 4, 2) := by decide +kernel
theorem dX0_carryAll_26 : decode cX0_carryAll 26 = .ok (.aload_n 0, 1) := by decide +kernel
theorem dX0_carryAll_27 : decode cX0_carryAll 27 = .ok (.iload 4, 2) := by decide +kernel
theorem dX0_carryAll_29 : decode cX0_carryAll 29 = .ok (.aload_n 0, 1) := by decide +kernel
theorem dX0_carryAll_30 : decode cX0_carryAll 30 = .ok (.getfield 43, 3) := by decide +kernel
theorem dX0_carryAll_33 : decode cX0_carryAll 33 = .ok (.getfield 70, 3) := by decide +kernel
theorem dX0_carryAll_36 : decode cX0_carryAll 36 = .ok (.iload_n 3, 1) := by decide +kernel
theorem dX0_carryAll_37 : decode cX0_carryAll 37 = .ok (.iaload, 1) := by decide +kernel
theorem dX0_carryAll_38 : decode cX0_carryAll 38 = .ok (.invokevirtual 73, 3) := by decide +kernel
theorem dX0_carryAll_41 : decode cX0_carryAll 41 = .ok (.istore 5, 2) := by decide +kernel
theorem dX0_carryAll_43 : decode cX0_carryAll 43 = .ok (.aload_n 0, 1) := by decide +kernel
theorem dX0_carryAll_44 : decode cX0_carryAll 44 = .ok (.getfield 43, 3) := by decide +kernel
theorem dX0_carryAll_47 : decode cX0_carryAll 47 = .ok (.getfield 77, 3) := by decide +kernel
theorem dX0_carryAll_50 : decode cX0_carryAll 50 = .ok (.iload_n 3, 1) := by decide +kernel
theorem dX0_carryAll_51 : decode cX0_carryAll 51 = .ok (.iload 5, 2) := by decide +kernel
theorem dX0_carryAll_53 : decode cX0_carryAll 53 = .ok (.iastore, 1) := by decide +kernel
theorem dX0_carryAll_54 : decode cX0_carryAll 54 = .ok (.iload 5, 2) := by decide +kernel
theorem dX0_carryAll_56 : decode cX0_carryAll 56 = .ok (.iconst (-1), 1) := by decide +kernel
theorem dX0_carryAll_57 : decode cX0_carryAll 57 = .ok (.if_icmp .eq 46, 3) := by decide +kernel
theorem dX0_carryAll_60 : decode cX0_carryAll 60 = .ok (.aload_n 0, 1) := by decide +kernel
theorem dX0_carryAll_61 : decode cX0_carryAll 61 = .ok (.getfield 35, 3) := by decide +kernel
theorem dX0_carryAll_64 : decode cX0_carryAll 64 = .ok (.getfield 53, 3) := by decide +kernel
theorem dX0_carryAll_67 : decode cX0_carryAll 67 = .ok (.iload 5, 2) := by decide +kernel
theorem dX0_carryAll_69 : decode cX0_carryAll 69 = .ok (.aaload, 1) := by decide +kernel
theorem dX0_carryAll_70 : decode cX0_carryAll 70 = .ok (.iload 4, 2) := by decide +kernel
theorem dX0_carryAll_72 : decode cX0_carryAll 72 = .ok (.dup2, 1) := by decide +kernel
theorem dX0_carryAll_73 : decode cX0_carryAll 73 = .ok (.iaload, 1) := by decide +kernel
theorem dX0_carryAll_74 : decode cX0_carryAll 74 = .ok (.iconst 1, 1) := by decide +kernel
theorem dX0_carryAll_75 : decode cX0_carryAll 75 = .ok (.isub, 1) := by decide +kernel
theorem dX0_carryAll_76 : decode cX0_carryAll 76 = .ok (.iastore, 1) := by decide +kernel
theorem dX0_carryAll_77 : decode cX0_carryAll 77 = .ok (.lload_n 1, 1) := by decide +kernel
theorem dX0_carryAll_78 : decode cX0_carryAll 78 = .ok (.aload_n 0, 1) := by decide +kernel
theorem dX0_carryAll_79 : decode cX0_carryAll 79 = .ok (.iload 4, 2) := by decide +kernel
theorem dX0_carryAll_81 : decode cX0_carryAll 81 = .ok (.invokevirtual 80, 3) := by decide +kernel
theorem dX0_carryAll_84 : decode cX0_carryAll 84 = .ok (.aload_n 0, 1) := by decide +kernel
theorem dX0_carryAll_85 : decode cX0_carryAll 85 = .ok (.iload 5, 2) := by decide +kernel
theorem dX0_carryAll_87 : decode cX0_carryAll 87 = .ok (.aload_n 0, 1) := by decide +kernel
theorem dX0_carryAll_88 : decode cX0_carryAll 88 = .ok (.getfield 43, 3) := by decide +kernel
theorem dX0_carryAll_91 : decode cX0_carryAll 91 = .ok (.getfield 70, 3) := by decide +kernel
theorem dX0_carryAll_94 : decode cX0_carryAll 94 = .ok (.iload_n 3, 1) := by decide +kernel
theorem dX0_carryAll_95 : decode cX0_carryAll 95 = .ok (.iaload, 1) := by decide +kernel
theorem dX0_carryAll_96 : decode cX0_carryAll 96 = .ok (.invokevirtual 84, 3) := by decide +kernel
theorem dX0_carryAll_99 : decode cX0_carryAll 99 = .ok (.i2l, 1) := by decide +kernel
theorem dX0_carryAll_100 : decode cX0_carryAll 100 = .ok (.lmul, 1) := by decide +kernel
theorem dX0_carryAll_101 : decode cX0_carryAll 101 = .ok (.ladd, 1) := by decide +kernel
theorem dX0_carryAll_102 : decode cX0_carryAll 102 = .ok (.lstore_n 1, 1) := by decide +kernel
theorem dX0_carryAll_103 : decode cX0_carryAll 103 = .ok (.iinc 3 1, 3) := by decide +kernel
theorem dX0_carryAll_106 : decode cX0_carryAll 106 = .ok (.goto (-102), 3) := by decide +kernel
theorem dX0_carryAll_109 : decode cX0_carryAll 109 = .ok (.lload_n 1, 1) := by decide +kernel
theorem dX0_carryAll_110 : decode cX0_carryAll 110 = .ok (.lreturn, 1) := by decide +kernel
set_option maxRecDepth 20000 in
theorem ggX0_nearestWith_X0_way : GoodIn wsX0_nearestWith wsX0_way := goodIn_r _ [8, 1, 9, 10, 11, 12, 13, 14, 15, 16, 17, 18, 19, 20, 21, 22, 23, 24, 25, 26, 27, 28, 29, 30, 31, 32, 33, 34, 35, 36, 37, 38, 39, 40, 41, 42, 43] (by decide +kernel) (by decide +kernel)
set_option maxRecDepth 20000 in
theorem gX0_nearestWith_X0_way : GoodIn wsX0_nearestWith (wsV RX0 84 RX0 yX0_way wsX0_way) := goodIn_app (goodIn_of _ (by decide +kernel)) ggX0_nearestWith_X0_way
theorem dX0_nearestWith_0 : decode cX0_nearestWith 0 = .ok (.iconst (-1), 1) := by decide +kernel
theorem dX0_nearestWith_1 : decode cX0_nearestWith 1 = .ok (.istore_n 3, 1) := by decide +kernel
theorem dX0_nearestWith_2 : decode cX0_nearestWith 2 = .ok (.iconst 0, 1) := by decide +kernel
theorem dX0_nearestWith_3 : decode cX0_nearestWith 3 = .ok (.istore 4, 2) := by decide +kernel
theorem dX0_nearestWith_5 : decode cX0_nearestWith 5 = .ok (.iload 4, 2) := by decide +kernel
theorem dX0_nearestWith_7 : decode cX0_nearestWith 7 = .ok (.aload_n 0, 1) := by decide +kernel
theorem dX0_nearestWith_8 : decode cX0_nearestWith 8 = .ok (.getfield 35, 3) := by decide +kernel
theorem dX0_nearestWith_11 : decode cX0_nearestWith 11 = .ok (.getfield 47, 3) := by decide +kernel
theorem dX0_nearestWith_14 : decode cX0_nearestWith 14 = .ok (.if_icmp .ge 60, 3) := by decide +kernel
theorem dX0_nearestWith_17 : decode cX0_nearestWith 17 = .ok (.iload_n 3, 1) := by decide +kernel
theorem dX0_nearestWith_18 : decode cX0_nearestWith 18 = .ok (.iconst (-1), 1) := by decide +kernel
theorem dX0_nearestWith_19 : decode cX0_nearestWith 19 = .ok (.if_icmp .eq 19, 3) := by decide +kernel
theorem dX0_nearestWith_22 : decode cX0_nearestWith 22 = .ok (.aload_n 0, 1) := by decide +kernel
theorem dX0_nearestWith_23 : decode cX0_nearestWith 23 = .ok (.iload 4, 2) := by decide +kernel
theorem dX0_nearestWith_25 : decode cX0_nearestWith 25 = .ok (.iload_n 2, 1) := by decide +kernel
theorem dX0_nearestWith_26 : decode cX0_nearestWith 26 = .ok (.invokevirtual 84, 3) := by decide +kernel
theorem dX0_nearestWith_29 : decode cX0_nearestWith 29 = .ok (.aload_n 0, 1) := by decide +kernel
theorem dX0_nearestWith_30 : decode cX0_nearestWith 30 = .ok (.iload_n 3, 1) := by decide +kernel
theorem dX0_nearestWith_31 : decode cX0_nearestWith 31 = .ok (.iload_n 2, 1) := by decide +kernel
theorem dX0_nearestWith_32 : decode cX0_nearestWith 32 = .ok (.invokevirtual 84, 3) := by decide +kernel
theorem dX0_nearestWith_35 : decode cX0_nearestWith 35 = .ok (.if_icmp .ge 7, 3) := by decide +kernel
theorem dX0_nearestWith_38 : decode cX0_nearestWith 38 = .ok (.iconst 1, 1) := by decide +kernel
theorem dX0_nearestWith_39 : decode cX0_nearestWith 39 = .ok (.goto 4, 3) := by decide +kernel
theorem dX0_nearestWith_42 : decode cX0_nearestWith 42 = .ok (.iconst 0, 1) := by decide +kernel
theorem dX0_nearestWith_43 : decode cX0_nearestWith 43 = .ok (.istore 5, 2) := by decide +kernel
theorem dX0_nearestWith_45 : decode cX0_nearestWith 45 = .ok (.aload_n 0, 1) := by decide +kernel
theorem dX0_nearestWith_46 : decode cX0_nearestWith 46 = .ok (.getfield 35, 3) := by decide +kernel
theorem dX0_nearestWith_49 : decode cX0_nearestWith 49 = .ok (.getfield 53, 3) := by decide +kernel
theorem dX0_nearestWith_52 : decode cX0_nearestWith 52 = .ok (.iload 4, 2) := by decide +kernel
theorem dX0_nearestWith_54 : decode cX0_nearestWith 54 = .ok (.aaload, 1) := by decide +kernel
theorem dX0_nearestWith_55 : decode cX0_nearestWith 55 = .ok (.iload_n 1, 1) := by decide +kernel
theorem dX0_nearestWith_56 : decode cX0_nearestWith 56 = .ok (.iaload, 1) := by decide +kernel
theorem dX0_nearestWith_57 : decode cX0_nearestWith 57 = .ok (.ifCond .le 11, 3) := by decide +kernel
theorem dX0_nearestWith_60 : decode cX0_nearestWith 60 = .ok (.iload 5, 2) := by decide +kernel
theorem dX0_nearestWith_62 : decode cX0_nearestWith 62 = .ok (.ifCond .eq 6, 3) := by decide +kernel
theorem dX0_nearestWith_65 : decode cX0_nearestWith 65 = .ok (.iload 4, 2) := by decide +kernel
theorem dX0_nearestWith_67 : decode cX0_nearestWith 67 = .ok (.istore_n 3, 1) := by decide +kernel
theorem dX0_nearestWith_68 : decode cX0_nearestWith 68 = .ok (.iinc 4 1, 3) := by decide +kernel
theorem dX0_nearestWith_71 : decode cX0_nearestWith 71 = .ok (.goto (-66), 3) := by decide +kernel
theorem dX0_nearestWith_74 : decode cX0_nearestWith 74 = .ok (.iload_n 3, 1) := by decide +kernel
theorem dX0_nearestWith_75 : decode cX0_nearestWith 75 = .ok (.ireturn, 1) := by decide +kernel
theorem dX0_weight_0 : decode cX0_weight 0 = .ok (.aload_n 0, 1) := by decide +kernel
theorem dX0_weight_1 : decode cX0_weight 1 = .ok (.getfield 35, 3) := by decide +kernel
theorem dX0_weight_4 : decode cX0_weight 4 = .ok (.getfield 87, 3) := by decide +kernel
theorem dX0_weight_7 : decode cX0_weight 7 = .ok (.iload_n 1, 1) := by decide +kernel
theorem dX0_weight_8 : decode cX0_weight 8 = .ok (.iaload, 1) := by decide +kernel
theorem dX0_weight_9 : decode cX0_weight 9 = .ok (.i2l, 1) := by decide +kernel
theorem dX0_weight_10 : decode cX0_weight 10 = .ok (.aload_n 0, 1) := by decide +kernel
theorem dX0_weight_11 : decode cX0_weight 11 = .ok (.getfield 35, 3) := by decide +kernel
theorem dX0_weight_14 : decode cX0_weight 14 = .ok (.getfield 90, 3) := by decide +kernel
theorem dX0_weight_17 : decode cX0_weight 17 = .ok (.iload_n 1, 1) := by decide +kernel
theorem dX0_weight_18 : decode cX0_weight 18 = .ok (.iaload, 1) := by decide +kernel
theorem dX0_weight_19 : decode cX0_weight 19 = .ok (.i2l, 1) := by decide +kernel
theorem dX0_weight_20 : decode cX0_weight 20 = .ok (.lmul, 1) := by decide +kernel
theorem dX0_weight_21 : decode cX0_weight 21 = .ok (.lreturn, 1) := by decide +kernel
theorem dX0_way_0 : decode cX0_way 0 = .ok (.aload_n 0, 1) := by decide +kernel
theorem dX0_way_1 : decode cX0_way 1 = .ok (.getfield 35, 3) := by decide +kernel
theorem dX0_way_4 : decode cX0_way 4 = .ok (.getfield 93, 3) := by decide +kernel
theorem dX0_way_7 : decode cX0_way 7 = .ok (.iload_n 1, 1) := by decide +kernel
theorem dX0_way_8 : decode cX0_way 8 = .ok (.iaload, 1) := by decide +kernel
theorem dX0_way_9 : decode cX0_way 9 = .ok (.aload_n 0, 1) := by decide +kernel
theorem dX0_way_10 : decode cX0_way 10 = .ok (.getfield 39, 3) := by decide +kernel
theorem dX0_way_13 : decode cX0_way 13 = .ok (.getfield 96, 3) := by decide +kernel
theorem dX0_way_16 : decode cX0_way 16 = .ok (.iload_n 2, 1) := by decide +kernel
theorem dX0_way_17 : decode cX0_way 17 = .ok (.iadd, 1) := by decide +kernel
theorem dX0_way_18 : decode cX0_way 18 = .ok (.isub, 1) := by decide +kernel
theorem dX0_way_19 : decode cX0_way 19 = .ok (.invokestatic 101, 3) := by decide +kernel
theorem dX0_way_22 : decode cX0_way 22 = .ok (.aload_n 0, 1) := by decide +kernel
theorem dX0_way_23 : decode cX0_way 23 = .ok (.getfield 35, 3) := by decide +kernel
theorem dX0_way_26 : decode cX0_way 26 = .ok (.getfield 107, 3) := by decide +kernel
theorem dX0_way_29 : decode cX0_way 29 = .ok (.iload_n 1, 1) := by decide +kernel
theorem dX0_way_30 : decode cX0_way 30 = .ok (.iaload, 1) := by decide +kernel
theorem dX0_way_31 : decode cX0_way 31 = .ok (.aload_n 0, 1) := by decide +kernel
theorem dX0_way_32 : decode cX0_way 32 = .ok (.getfield 39, 3) := by decide +kernel
theorem dX0_way_35 : decode cX0_way 35 = .ok (.getfield 110, 3) := by decide +kernel
theorem dX0_way_38 : decode cX0_way 38 = .ok (.isub, 1) := by decide +kernel
theorem dX0_way_39 : decode cX0_way 39 = .ok (.invokestatic 101, 3) := by decide +kernel
theorem dX0_way_42 : decode cX0_way 42 = .ok (.iadd, 1) := by decide +kernel
theorem dX0_way_43 : decode cX0_way 43 = .ok (.ireturn, 1) := by decide +kernel
set_option maxRecDepth 20000 in
theorem ggX0_leastToil_X0_weight : GoodIn wsX0_leastToil wsX0_weight := goodIn_r _ [7, 1, 8, 9, 72, 73, 74, 75, 76, 77, 78, 79, 80, 81, 82, 83, 84, 85, 86, 87, 88] (by decide +kernel) (by decide +kernel)
set_option maxRecDepth 20000 in
theorem gX0_leastToil_X0_weight : GoodIn wsX0_leastToil (wsV RX0 80 RX0 yX0_weight wsX0_weight) := goodIn_app (goodIn_of _ (by decide +kernel)) ggX0_leastToil_X0_weight
set_option maxRecDepth 20000 in
theorem ggX0_leastToil_X0_leastWays : GoodIn wsX0_leastToil wsX0_leastWays := goodIn_r _ [13, 1, 14, 15, 16, 17, 18, 19, 20, 21, 22, 23, 24, 25, 26, 27, 28, 6, 29, 30, 31, 32, 33, 34, 35, 36, 37, 38, 39, 40, 41, 42, 43, 44, 45, 46, 47, 48, 49, 50, 51, 52, 53, 54, 55, 56, 57, 58, 59, 60, 61, 62, 63, 64, 65, 66, 67, 68, 69, 70, 71, 72, 73, 74, 75, 76, 77, 78, 79, 80, 81, 82, 83, 84, 85, 86, 87, 88, 89, 90, 91, 92, 93, 94, 95, 96, 97, 98, 99, 100, 101, 102, 103, 104, 105, 106, 107, 108, 109] (by decide +kernel) (by decide +kernel)
set_option maxRecDepth 20000 in
theorem gX0_leastToil_X0_leastWays : GoodIn wsX0_leastToil (wsV RX0 115 RX0 yX0_leastWays wsX0_leastWays) := goodIn_app (goodIn_of _ (by decide +kernel)) ggX0_leastToil_X0_leastWays
theorem dX0_leastToil_0 : decode cX0_leastToil 0 = .ok (.lconst 0, 1) := by decide +kernel
theorem dX0_leastToil_1 : decode cX0_leastToil 1 = .ok (.lstore_n 1, 1) := by decide +kernel
theorem dX0_leastToil_2 : decode cX0_leastToil 2 = .ok (.iconst 0, 1) := by decide +kernel
theorem dX0_leastToil_3 : decode cX0_leastToil 3 = .ok (.istore_n 3, 1) := by decide +kernel
theorem dX0_leastToil_4 : decode cX0_leastToil 4 = .ok (.iload_n 3, 1) := by decide +kernel
theorem dX0_leastToil_5 : decode cX0_leastToil 5 = .ok (.aload_n 0, 1) := by decide +kernel
theorem dX0_leastToil_6 : decode cX0_leastToil 6 = .ok (.getfield 35, 3) := by decide +kernel
theorem dX0_leastToil_9 : decode cX0_leastToil 9 = .ok (.getfield 113, 3) := by decide +kernel
theorem dX0_leastToil_12 : decode cX0_leastToil 12 = .ok (.if_icmp .ge 24, 3) := by decide +kernel
theorem dX0_leastToil_15 : decode cX0_leastToil 15 = .ok (.lload_n 1, 1) := by decide +kernel
theorem dX0_leastToil_16 : decode cX0_leastToil 16 = .ok (.aload_n 0, 1) := by decide +kernel
theorem dX0_leastToil_17 : decode cX0_leastToil 17 = .ok (.iload_n 3, 1) := by decide +kernel
theorem dX0_leastToil_18 : decode cX0_leastToil 18 = .ok (.invokevirtual 80, 3) := by decide +kernel
theorem dX0_leastToil_21 : decode cX0_leastToil 21 = .ok (.aload_n 0, 1) := by decide +kernel
theorem dX0_leastToil_22 : decode cX0_leastToil 22 = .ok (.iload_n 3, 1) := by decide +kernel
theorem dX0_leastToil_23 : decode cX0_leastToil 23 = .ok (.iconst (-1), 1) := by decide +kernel
theorem dX0_leastToil_24 : decode cX0_leastToil 24 = .ok (.invokevirtual 115, 3) := by decide +kernel
theorem dX0_leastToil_27 : decode cX0_leastToil 27 = .ok (.lmul, 1) := by decide +kernel
theorem dX0_leastToil_28 : decode cX0_leastToil 28 = .ok (.ladd, 1) := by decide +kernel
theorem dX0_leastToil_29 : decode cX0_leastToil 29 = .ok (.lstore_n 1, 1) := by decide +kernel
theorem dX0_leastToil_30 : decode cX0_leastToil 30 = .ok (.iinc 3 1, 3) := by decide +kernel
theorem dX0_leastToil_33 : decode cX0_leastToil 33 = .ok (.goto (-29), 3) := by decide +kernel
theorem dX0_leastToil_36 : decode cX0_leastToil 36 = .ok (.lload_n 1, 1) := by decide +kernel
theorem dX0_leastToil_37 : decode cX0_leastToil 37 = .ok (.lreturn, 1) := by decide +kernel
set_option maxRecDepth 20000 in
theorem ggX0_toilSaved_X0_weight : GoodIn wsX0_toilSaved wsX0_weight := goodIn_r _ [5, 6, 7, 8, 71, 72, 73, 74, 75, 76, 77, 78, 79, 80, 81, 82, 83, 84, 85, 86, 87] (by decide +kernel) (by decide +kernel)
set_option maxRecDepth 20000 in
theorem gX0_toilSaved_X0_weight : GoodIn wsX0_toilSaved (wsV RX0 80 RX0 yX0_weight wsX0_weight) := goodIn_app (goodIn_of _ (by decide +kernel)) ggX0_toilSaved_X0_weight
set_option maxRecDepth 20000 in
theorem ggX0_toilSaved_X0_leastWays : GoodIn wsX0_toilSaved wsX0_leastWays := goodIn_r _ [12, 6, 13, 14, 15, 16, 17, 18, 19, 20, 21, 22, 23, 24, 25, 26, 27, 4, 28, 29, 30, 31, 32, 33, 34, 35, 36, 37, 38, 39, 40, 41, 42, 43, 44, 45, 46, 47, 48, 49, 50, 51, 52, 53, 54, 55, 56, 57, 58, 59, 60, 61, 62, 63, 64, 65, 66, 67, 68, 69, 70, 71, 72, 73, 74, 75, 76, 77, 78, 79, 80, 81, 82, 83, 84, 85, 86, 87, 88, 89, 90, 91, 92, 93, 94, 95, 96, 97, 98, 99, 100, 101, 102, 103, 104, 105, 106, 107, 108] (by decide +kernel) (by decide +kernel)
set_option maxRecDepth 20000 in
theorem gX0_toilSaved_X0_leastWays : GoodIn wsX0_toilSaved (wsV RX0 115 RX0 yX0_leastWays wsX0_leastWays) := goodIn_app (goodIn_of _ (by decide +kernel)) ggX0_toilSaved_X0_leastWays
theorem dX0_toilSaved_0 : decode cX0_toilSaved 0 = .ok (.aload_n 0, 1) := by decide +kernel
theorem dX0_toilSaved_1 : decode cX0_toilSaved 1 = .ok (.iload_n 2, 1) := by decide +kernel
theorem dX0_toilSaved_2 : decode cX0_toilSaved 2 = .ok (.invokevirtual 80, 3) := by decide +kernel
theorem dX0_toilSaved_5 : decode cX0_toilSaved 5 = .ok (.aload_n 0, 1) := by decide +kernel
theorem dX0_toilSaved_6 : decode cX0_toilSaved 6 = .ok (.iload_n 2, 1) := by decide +kernel
theorem dX0_toilSaved_7 : decode cX0_toilSaved 7 = .ok (.iconst (-1), 1) := by decide +kernel
theorem dX0_toilSaved_8 : decode cX0_toilSaved 8 = .ok (.invokevirtual 115, 3) := by decide +kernel
theorem dX0_toilSaved_11 : decode cX0_toilSaved 11 = .ok (.aload_n 0, 1) := by decide +kernel
theorem dX0_toilSaved_12 : decode cX0_toilSaved 12 = .ok (.iload_n 2, 1) := by decide +kernel
theorem dX0_toilSaved_13 : decode cX0_toilSaved 13 = .ok (.iload_n 1, 1) := by decide +kernel
theorem dX0_toilSaved_14 : decode cX0_toilSaved 14 = .ok (.invokevirtual 115, 3) := by decide +kernel
theorem dX0_toilSaved_17 : decode cX0_toilSaved 17 = .ok (.lsub, 1) := by decide +kernel
theorem dX0_toilSaved_18 : decode cX0_toilSaved 18 = .ok (.lmul, 1) := by decide +kernel
theorem dX0_toilSaved_19 : decode cX0_toilSaved 19 = .ok (.lreturn, 1) := by decide +kernel
set_option maxRecDepth 20000 in
theorem ggX0_leastWays_J7_fill_53178 : GoodIn wsX0_leastWays wsJ7_fill_53178 := goodIn_r _ [13] (by decide +kernel) (by decide +kernel)
set_option maxRecDepth 20000 in
theorem gX0_leastWays_J7_fill_53178 : GoodIn wsX0_leastWays (va_wsS RX0 119 yJ7_fill_53178 wsJ7_fill_53178) := goodIn_app (goodIn_of _ (by decide +kernel)) ggX0_leastWays_J7_fill_53178
set_option maxRecDepth 20000 in
theorem ggX0_leastWays_X0_supply : GoodIn wsX0_leastWays wsX0_supply := goodIn_r _ [18, 3, 19, 20, 21, 22, 17, 23, 1, 2, 24, 25, 26, 5, 10, 11, 12, 13, 27, 28, 29, 30, 31, 32, 33, 34, 35, 36, 37, 38, 39, 40, 41, 42, 43, 44, 45, 46, 47, 48, 49, 50, 51, 52, 53, 54, 55, 56, 57, 58, 59, 60, 61, 62, 63, 64, 65, 66, 67, 68, 69, 70, 71, 72, 73, 74, 75, 76, 77, 90, 91, 92, 93, 94, 95, 96, 97, 98] (by decide +kernel) (by decide +kernel)
set_option maxRecDepth 20000 in
theorem gX0_leastWays_X0_supply : GoodIn wsX0_leastWays (wsV RX0 125 RX0 yX0_supply wsX0_supply) := goodIn_app (goodIn_of _ (by decide +kernel)) ggX0_leastWays_X0_supply
theorem dX0_leastWays_0 : decode cX0_leastWays 0 = .ok (.iconst 0, 1) := by decide +kernel
theorem dX0_leastWays_1 : decode cX0_leastWays 1 = .ok (.istore_n 3, 1) := by decide +kernel
theorem dX0_leastWays_2 : decode cX0_leastWays 2 = .ok (.iload_n 3, 1) := by decide +kernel
theorem dX0_leastWays_3 : decode cX0_leastWays 3 = .ok (.aload_n 0, 1) := by decide +kernel
theorem dX0_leastWays_4 : decode cX0_leastWays 4 = .ok (.getfield 35, 3) := by decide +kernel
theorem dX0_leastWays_7 : decode cX0_leastWays 7 = .ok (.getfield 47, 3) := by decide +kernel
theorem dX0_leastWays_10 : decode cX0_leastWays 10 = .ok (.if_icmp .ge 44, 3) := by decide +kernel
theorem dX0_leastWays_13 : decode cX0_leastWays 13 = .ok (.aload_n 0, 1) := by decide +kernel
theorem dX0_leastWays_14 : decode cX0_leastWays 14 = .ok (.getfield 16, 3) := by decide +kernel
theorem dX0_leastWays_17 : decode cX0_leastWays 17 = .ok (.iload_n 3, 1) := by decide +kernel
theorem dX0_leastWays_18 : decode cX0_leastWays 18 = .ok (.aload_n 0, 1) := by decide +kernel
theorem dX0_leastWays_19 : decode cX0_leastWays 19 = .ok (.getfield 11, 3) := by decide +kernel
theorem dX0_leastWays_22 : decode cX0_leastWays 22 = .ok (.iload_n 3, 1) := by decide +kernel
theorem dX0_leastWays_23 : decode cX0_leastWays 23 = .ok (.aaload, 1) := by decide +kernel
theorem dX0_leastWays_24 : decode cX0_leastWays 24 = .ok (.iload_n 1, 1) := by decide +kernel
theorem dX0_leastWays_25 : decode cX0_leastWays 25 = .ok (.iaload, 1) := by decide +kernel
theorem dX0_leastWays_26 : decode cX0_leastWays 26 = .ok (.iload_n 3, 1) := by decide +kernel
theorem dX0_leastWays_27 : decode cX0_leastWays 27 = .ok (.iload_n 2, 1) := by decide +kernel
theorem dX0_leastWays_28 : decode cX0_leastWays 28 = .ok (.if_icmp .ne 7, 3) := by decide +kernel
theorem dX0_leastWays_31 : decode cX0_leastWays 31 = .ok (.iconst 1, 1) := by decide +kernel
theorem dX0_leastWays_32 : decode cX0_leastWays 32 = .ok (.goto 4, 3) := by decide +kernel
theorem dX0_leastWays_35 : decode cX0_leastWays 35 = .ok (.iconst 0, 1) := by decide +kernel
theorem dX0_leastWays_36 : decode cX0_leastWays 36 = .ok (.iadd, 1) := by decide +kernel
theorem dX0_leastWays_37 : decode cX0_leastWays 37 = .ok (.iastore, 1) := by decide +kernel
theorem dX0_leastWays_38 : decode cX0_leastWays 38 = .ok (.aload_n 0, 1) := by decide +kernel
theorem dX0_leastWays_39 : decode cX0_leastWays 39 = .ok (.getfield 20, 3) := by decide +kernel
theorem dX0_leastWays_42 : decode cX0_leastWays 42 = .ok (.iload_n 3, 1) := by decide +kernel
theorem dX0_leastWays_43 : decode cX0_leastWays 43 = .ok (.aaload, 1) := by decide +kernel
theorem dX0_leastWays_44 : decode cX0_leastWays 44 = .ok (.iconst 0, 1) := by decide +kernel
theorem dX0_leastWays_45 : decode cX0_leastWays 45 = .ok (.invokestatic 119, 3) := by decide +kernel
theorem dX0_leastWays_48 : decode cX0_leastWays 48 = .ok (.iinc 3 1, 3) := by decide +kernel
theorem dX0_leastWays_51 : decode cX0_leastWays 51 = .ok (.goto (-49), 3) := by decide +kernel
theorem dX0_leastWays_54 : decode cX0_leastWays 54 = .ok (.lconst 0, 1) := by decide +kernel
theorem dX0_leastWays_55 : decode cX0_leastWays 55 = .ok (.lstore_n 3, 1) := by decide +kernel
theorem dX0_leastWays_56 : decode cX0_leastWays 56 = .ok (.iconst 0, 1) := by decide +kernel
theorem dX0_leastWays_57 : decode cX0_leastWays 57 = .ok (.istore 5, 2) := by decide +kernel
theorem dX0_leastWays_59 : decode cX0_leastWays 59 = .ok (.iload 5, 2) := by decide +kernel
theorem dX0_leastWays_61 : decode cX0_leastWays 61 = .ok (.aload_n 0, 1) := by decide +kernel
theorem dX0_leastWays_62 : decode cX0_leastWays 62 = .ok (.getfield 43, 3) := by decide +kernel
theorem dX0_leastWays_65 : decode cX0_leastWays 65 = .ok (.getfield 62, 3) := by decide +kernel
theorem dX0_leastWays_68 : decode cX0_leastWays 68 = .ok (.if_icmp .ge 41, 3) := by decide +kernel
theorem dX0_leastWays_71 : decode cX0_leastWays 71 = .ok (.aload_n 0, 1) := by decide +kernel
theorem dX0_leastWays_72 : decode cX0_leastWays 72 = .ok (.getfield 43, 3) := by decide +kernel
theorem dX0_leastWays_75 : decode cX0_leastWays 75 = .ok (.getfield 67, 3) := by decide +kernel
theorem dX0_leastWays_78 : decode cX0_leastWays 78 = .ok (.iload 5, 2) := by decide +kernel
theorem dX0_leastWays_80 : decode cX0_leastWays 80 = .ok (.iaload, 1) := by decide +kernel
theorem dX0_leastWays_81 : decode cX0_leastWays 81 = .ok (.iload_n 1, 1) := by decide +kernel
theorem dX0_leastWays_82 : decode cX0_leastWays 82 = .ok (.if_icmp .ne 21, 3) := by decide +kernel
theorem dX0_leastWays_85 : decode cX0_leastWays 85 = .ok (.lload_n 3, 1) := by decide +kernel
theorem dX0_leastWays_86 : decode cX0_leastWays 86 = .ok (.aload_n 0, 1) := by decide +kernel
theorem dX0_leastWays_87 : decode cX0_leastWays 87 = .ok (.aload_n 0, 1) := by decide +kernel
theorem dX0_leastWays_88 : decode cX0_leastWays 88 = .ok (.getfield 43, 3) := by decide +kernel
theorem dX0_leastWays_91 : decode cX0_leastWays 91 = .ok (.getfield 70, 3) := by decide +kernel
theorem dX0_leastWays_94 : decode cX0_leastWays 94 = .ok (.iload 5, 2) := by decide +kernel
theorem dX0_leastWays_96 : decode cX0_leastWays 96 = .ok (.iaload, 1) := by decide +kernel
theorem dX0_leastWays_97 : decode cX0_leastWays 97 = .ok (.invokevirtual 125, 3) := by decide +kernel
theorem dX0_leastWays_100 : decode cX0_leastWays 100 = .ok (.i2l, 1) := by decide +kernel
theorem dX0_leastWays_101 : decode cX0_leastWays 101 = .ok (.ladd, 1) := by decide +kernel
theorem dX0_leastWays_102 : decode cX0_leastWays 102 = .ok (.lstore_n 3, 1) := by decide +kernel
theorem dX0_leastWays_103 : decode cX0_leastWays 103 = .ok (.iinc 5 1, 3) := by decide +kernel
theorem dX0_leastWays_106 : decode cX0_leastWays 106 = .ok (.goto (-47), 3) := by decide +kernel
theorem dX0_leastWays_109 : decode cX0_leastWays 109 = .ok (.lload_n 3, 1) := by decide +kernel
theorem dX0_leastWays_110 : decode cX0_leastWays 110 = .ok (.lreturn, 1) := by decide +kernel
set_option maxRecDepth 20000 in
theorem ggX0_supply_X0_findSwaps : GoodIn wsX0_supply wsX0_findSwaps := goodIn_r _ [7, 8, 9, 10, 11, 12, 13, 14, 15, 16, 17, 18, 19, 20, 6, 21, 22, 23, 24, 25, 26, 27, 28, 29, 30, 31, 32, 33, 34, 52, 53, 54, 55, 56, 57, 58, 59, 60, 61, 62, 63, 64, 65, 66, 67, 68, 69, 70, 71, 72, 73, 74, 75, 76, 77] (by decide +kernel) (by decide +kernel)
set_option maxRecDepth 20000 in
theorem gX0_supply_X0_findSwaps : GoodIn wsX0_supply (wsV RX0 128 RX0 yX0_findSwaps wsX0_findSwaps) := goodIn_app (goodIn_of _ (by decide +kernel)) ggX0_supply_X0_findSwaps
set_option maxRecDepth 20000 in
theorem ggX0_supply_X0_findChains : GoodIn wsX0_supply wsX0_findChains := goodIn_r _ [38, 8, 9, 2, 39, 23, 24, 25, 6, 26, 27, 11, 28, 29, 30, 31, 32, 33, 34, 40, 41, 42, 43, 22, 10, 52, 53, 54, 55, 56, 57, 58, 59, 60, 61, 62, 63, 64, 65, 66, 67, 68, 69, 70, 71, 72, 73, 74, 75, 76, 77] (by decide +kernel) (by decide +kernel)
set_option maxRecDepth 20000 in
theorem gX0_supply_X0_findChains : GoodIn wsX0_supply (wsV RX0 131 RX0 yX0_findChains wsX0_findChains) := goodIn_app (goodIn_of _ (by decide +kernel)) ggX0_supply_X0_findChains
set_option maxRecDepth 20000 in
theorem ggX0_supply_X0_cheapestGiver : GoodIn wsX0_supply wsX0_cheapestGiver := goodIn_r _ [47, 8, 9, 1, 2, 52, 53, 54, 55, 56, 57, 58, 59, 60, 61, 62, 63, 64, 65, 66, 67, 68] (by decide +kernel) (by decide +kernel)
set_option maxRecDepth 20000 in
theorem gX0_supply_X0_cheapestGiver : GoodIn wsX0_supply (wsV RX0 135 RX0 yX0_cheapestGiver wsX0_cheapestGiver) := goodIn_app (goodIn_of _ (by decide +kernel)) ggX0_supply_X0_cheapestGiver
set_option maxRecDepth 20000 in
theorem ggX0_supply_X0_followChain : GoodIn wsX0_supply wsX0_followChain := goodIn_r _ [51, 8, 9, 39, 10, 13, 52, 53, 54, 55, 56, 57, 58, 59, 60, 61, 62, 63, 64, 65, 66, 67, 68] (by decide +kernel) (by decide +kernel)
set_option maxRecDepth 20000 in
theorem gX0_supply_X0_followChain : GoodIn wsX0_supply (wsV RX0 139 RX0 yX0_followChain wsX0_followChain) := goodIn_app (goodIn_of _ (by decide +kernel)) ggX0_supply_X0_followChain
theorem dX0_supply_0 : decode cX0_supply 0 = .ok (.aload_n 0, 1) := by decide +kernel
theorem dX0_supply_1 : decode cX0_supply 1 = .ok (.invokevirtual 128, 3) := by decide +kernel
theorem dX0_supply_4 : decode cX0_supply 4 = .ok (.aload_n 0, 1) := by decide +kernel
theorem dX0_supply_5 : decode cX0_supply 5 = .ok (.iload_n 1, 1) := by decide +kernel
theorem dX0_supply_6 : decode cX0_supply 6 = .ok (.invokevirtual 131, 3) := by decide +kernel
theorem dX0_supply_9 : decode cX0_supply 9 = .ok (.aload_n 0, 1) := by decide +kernel
theorem dX0_supply_10 : decode cX0_supply 10 = .ok (.invokevirtual 135, 3) := by decide +kernel
theorem dX0_supply_13 : decode cX0_supply 13 = .ok (.istore_n 2, 1) := by decide +kernel
theorem dX0_supply_14 : decode cX0_supply 14 = .ok (.iload_n 2, 1) := by decide +kernel
theorem dX0_supply_15 : decode cX0_supply 15 = .ok (.iconst (-1), 1) := by decide +kernel
theorem dX0_supply_16 : decode cX0_supply 16 = .ok (.if_icmp .ne 5, 3) := by decide +kernel
theorem dX0_supply_19 : decode cX0_supply 19 = .ok (.iconst 0, 1) := by decide +kernel
theorem dX0_supply_20 : decode cX0_supply 20 = .ok (.ireturn, 1) := by decide +kernel
theorem dX0_supply_21 : decode cX0_supply 21 = .ok (.aload_n 0, 1) := by decide +kernel
theorem dX0_supply_22 : decode cX0_supply 22 = .ok (.getfield 16, 3) := by decide +kernel
theorem dX0_supply_25 : decode cX0_supply 25 = .ok (.iload_n 2, 1) := by decide +kernel
theorem dX0_supply_26 : decode cX0_supply 26 = .ok (.dup2, 1) := by decide +kernel
theorem dX0_supply_27 : decode cX0_supply 27 = .ok (.iaload, 1) := by decide +kernel
theorem dX0_supply_28 : decode cX0_supply 28 = .ok (.iconst 1, 1) := by decide +kernel
theorem dX0_supply_29 : decode cX0_supply 29 = .ok (.isub, 1) := by decide +kernel
theorem dX0_supply_30 : decode cX0_supply 30 = .ok (.iastore, 1) := by decide +kernel
theorem dX0_supply_31 : decode cX0_supply 31 = .ok (.aload_n 0, 1) := by decide +kernel
theorem dX0_supply_32 : decode cX0_supply 32 = .ok (.iload_n 2, 1) := by decide +kernel
theorem dX0_supply_33 : decode cX0_supply 33 = .ok (.iload_n 1, 1) := by decide +kernel
theorem dX0_supply_34 : decode cX0_supply 34 = .ok (.invokevirtual 139, 3) := by decide +kernel
theorem dX0_supply_37 : decode cX0_supply 37 = .ok (.aload_n 0, 1) := by decide +kernel
theorem dX0_supply_38 : decode cX0_supply 38 = .ok (.getfield 29, 3) := by decide +kernel
theorem dX0_supply_41 : decode cX0_supply 41 = .ok (.iload_n 2, 1) := by decide +kernel
theorem dX0_supply_42 : decode cX0_supply 42 = .ok (.iaload, 1) := by decide +kernel
theorem dX0_supply_43 : decode cX0_supply 43 = .ok (.ireturn, 1) := by decide +kernel
set_option maxRecDepth 20000 in
theorem ggX0_findSwaps_J7_fill_53178 : GoodIn wsX0_findSwaps wsJ7_fill_53178 := goodIn_r _ [10] (by decide +kernel) (by decide +kernel)
set_option maxRecDepth 20000 in
theorem gX0_findSwaps_J7_fill_53178 : GoodIn wsX0_findSwaps (va_wsS RX0 119 yJ7_fill_53178 wsJ7_fill_53178) := goodIn_app (goodIn_of _ (by decide +kernel)) ggX0_findSwaps_J7_fill_53178
set_option maxRecDepth 20000 in
theorem ggX0_findSwaps_X0_weighSwaps : GoodIn wsX0_findSwaps wsX0_weighSwaps := goodIn_r _ [15, 1, 2, 3, 16, 17, 18, 19, 14, 20, 21, 4, 22, 23, 24, 25, 26, 27, 28, 29, 30, 31, 32, 33, 34, 35, 36, 37, 38, 39, 40, 41, 42, 43, 44, 45, 46, 47, 48, 49, 50, 51, 52, 53, 54] (by decide +kernel) (by decide +kernel)
set_option maxRecDepth 20000 in
theorem gX0_findSwaps_X0_weighSwaps : GoodIn wsX0_findSwaps (wsV RX0 146 RX0 yX0_weighSwaps wsX0_weighSwaps) := goodIn_app (goodIn_of _ (by decide +kernel)) ggX0_findSwaps_X0_weighSwaps
theorem dX0_findSwaps_0 : decode cX0_findSwaps 0 = .ok (.iconst 0, 1) := by decide +kernel
theorem dX0_findSwaps_1 : decode cX0_findSwaps 1 = .ok (.istore_n 1, 1) := by decide +kernel
theorem dX0_findSwaps_2 : decode cX0_findSwaps 2 = .ok (.iload_n 1, 1) := by decide +kernel
theorem dX0_findSwaps_3 : decode cX0_findSwaps 3 = .ok (.aload_n 0, 1) := by decide +kernel
theorem dX0_findSwaps_4 : decode cX0_findSwaps 4 = .ok (.getfield 35, 3) := by decide +kernel
theorem dX0_findSwaps_7 : decode cX0_findSwaps 7 = .ok (.getfield 47, 3) := by decide +kernel
theorem dX0_findSwaps_10 : decode cX0_findSwaps 10 = .ok (.if_icmp .ge 55, 3) := by decide +kernel
theorem dX0_findSwaps_13 : decode cX0_findSwaps 13 = .ok (.aload_n 0, 1) := by decide +kernel
theorem dX0_findSwaps_14 : decode cX0_findSwaps 14 = .ok (.getfield 26, 3) := by decide +kernel
theorem dX0_findSwaps_17 : decode cX0_findSwaps 17 = .ok (.iload_n 1, 1) := by decide +kernel
theorem dX0_findSwaps_18 : decode cX0_findSwaps 18 = .ok (.aaload, 1) := by decide +kernel
theorem dX0_findSwaps_19 : decode cX0_findSwaps 19 = .ok (.iconst (-1), 1) := by decide +kernel
theorem dX0_findSwaps_20 : decode cX0_findSwaps 20 = .ok (.invokestatic 119, 3) := by decide +kernel
theorem dX0_findSwaps_23 : decode cX0_findSwaps 23 = .ok (.iconst 0, 1) := by decide +kernel
theorem dX0_findSwaps_24 : decode cX0_findSwaps 24 = .ok (.istore_n 2, 1) := by decide +kernel
theorem dX0_findSwaps_25 : decode cX0_findSwaps 25 = .ok (.iload_n 2, 1) := by decide +kernel
theorem dX0_findSwaps_26 : decode cX0_findSwaps 26 = .ok (.aload_n 0, 1) := by decide +kernel
theorem dX0_findSwaps_27 : decode cX0_findSwaps 27 = .ok (.getfield 39, 3) := by decide +kernel
theorem dX0_findSwaps_30 : decode cX0_findSwaps 30 = .ok (.getfield 143, 3) := by decide +kernel
theorem dX0_findSwaps_33 : decode cX0_findSwaps 33 = .ok (.if_icmp .ge 26, 3) := by decide +kernel
theorem dX0_findSwaps_36 : decode cX0_findSwaps 36 = .ok (.aload_n 0, 1) := by decide +kernel
theorem dX0_findSwaps_37 : decode cX0_findSwaps 37 = .ok (.getfield 20, 3) := by decide +kernel
theorem dX0_findSwaps_40 : decode cX0_findSwaps 40 = .ok (.iload_n 1, 1) := by decide +kernel
theorem dX0_findSwaps_41 : decode cX0_findSwaps 41 = .ok (.aaload, 1) := by decide +kernel
theorem dX0_findSwaps_42 : decode cX0_findSwaps 42 = .ok (.iload_n 2, 1) := by decide +kernel
theorem dX0_findSwaps_43 : decode cX0_findSwaps 43 = .ok (.iaload, 1) := by decide +kernel
theorem dX0_findSwaps_44 : decode cX0_findSwaps 44 = .ok (.ifCond .le 9, 3) := by decide +kernel
theorem dX0_findSwaps_47 : decode cX0_findSwaps 47 = .ok (.aload_n 0, 1) := by decide +kernel
theorem dX0_findSwaps_48 : decode cX0_findSwaps 48 = .ok (.iload_n 1, 1) := by decide +kernel
theorem dX0_findSwaps_49 : decode cX0_findSwaps 49 = .ok (.iload_n 2, 1) := by decide +kernel
theorem dX0_findSwaps_50 : decode cX0_findSwaps 50 = .ok (.invokevirtual 146, 3) := by decide +kernel
theorem dX0_findSwaps_53 : decode cX0_findSwaps 53 = .ok (.iinc 2 1, 3) := by decide +kernel
theorem dX0_findSwaps_56 : decode cX0_findSwaps 56 = .ok (.goto (-31), 3) := by decide +kernel
theorem dX0_findSwaps_59 : decode cX0_findSwaps 59 = .ok (.iinc 1 1, 3) := by decide +kernel
theorem dX0_findSwaps_62 : decode cX0_findSwaps 62 = .ok (.goto (-60), 3) := by decide +kernel
theorem dX0_findSwaps_65 : decode cX0_findSwaps 65 = .ok (.return_, 1) := by decide +kernel
set_option maxRecDepth 20000 in
theorem ggX0_weighSwaps_X0_way : GoodIn wsX0_weighSwaps wsX0_way := goodIn_r _ [9, 1, 10, 11, 12, 13, 14, 15, 16, 17, 18, 19, 20, 21, 22, 23, 24, 25, 26, 27, 28, 29, 30, 31, 32, 33, 34, 35, 36, 37, 38, 39, 40, 41, 42, 43, 44] (by decide +kernel) (by decide +kernel)
set_option maxRecDepth 20000 in
theorem gX0_weighSwaps_X0_way : GoodIn wsX0_weighSwaps (wsV RX0 84 RX0 yX0_way wsX0_way) := goodIn_app (goodIn_of _ (by decide +kernel)) ggX0_weighSwaps_X0_way
theorem dX0_weighSwaps_0 : decode cX0_weighSwaps 0 = .ok (.aload_n 0, 1) := by decide +kernel
theorem dX0_weighSwaps_1 : decode cX0_weighSwaps 1 = .ok (.iload_n 1, 1) := by decide +kernel
theorem dX0_weighSwaps_2 : decode cX0_weighSwaps 2 = .ok (.iload_n 2, 1) := by decide +kernel
theorem dX0_weighSwaps_3 : decode cX0_weighSwaps 3 = .ok (.invokevirtual 84, 3) := by decide +kernel
theorem dX0_weighSwaps_6 : decode cX0_weighSwaps 6 = .ok (.istore_n 3, 1) := by decide +kernel
theorem dX0_weighSwaps_7 : decode cX0_weighSwaps 7 = .ok (.iconst 0, 1) := by decide +kernel
theorem dX0_weighSwaps_8 : decode cX0_weighSwaps 8 = .ok (.istore 4, 2) := by decide +kernel
theorem dX0_weighSwaps_10 : decode cX0_weighSwaps 10 = .ok (.iload 4, 2) := by decide +kernel
theorem dX0_weighSwaps_12 : decode cX0_weighSwaps 12 = .ok (.aload_n 0, 1) := by decide +kernel
theorem dX0_weighSwaps_13 : decode cX0_weighSwaps 13 = .ok (.getfield 35, 3) := by decide +kernel
theorem dX0_weighSwaps_16 : decode cX0_weighSwaps 16 = .ok (.getfield 47, 3) := by decide +kernel
theorem dX0_weighSwaps_19 : decode cX0_weighSwaps 19 = .ok (.if_icmp .ge 68, 3) := by decide +kernel
theorem dX0_weighSwaps_22 : decode cX0_weighSwaps 22 = .ok (.aload_n 0, 1) := by decide +kernel
theorem dX0_weighSwaps_23 : decode cX0_weighSwaps 23 = .ok (.iload 4, 2) := by decide +kernel
theorem dX0_weighSwaps_25 : decode cX0_weighSwaps 25 = .ok (.iload_n 2, 1) := by decide +kernel
theorem dX0_weighSwaps_26 : decode cX0_weighSwaps 26 = .ok (.invokevirtual 84, 3) := by decide +kernel
theorem dX0_weighSwaps_29 : decode cX0_weighSwaps 29 = .ok (.iload_n 3, 1) := by decide +kernel
theorem dX0_weighSwaps_30 : decode cX0_weighSwaps 30 = .ok (.isub, 1) := by decide +kernel
theorem dX0_weighSwaps_31 : decode cX0_weighSwaps 31 = .ok (.istore 5, 2) := by decide +kernel
theorem dX0_weighSwaps_33 : decode cX0_weighSwaps 33 = .ok (.aload_n 0, 1) := by decide +kernel
theorem dX0_weighSwaps_34 : decode cX0_weighSwaps 34 = .ok (.getfield 26, 3) := by decide +kernel
theorem dX0_weighSwaps_37 : decode cX0_weighSwaps 37 = .ok (.iload_n 1, 1) := by decide +kernel
theorem dX0_weighSwaps_38 : decode cX0_weighSwaps 38 = .ok (.aaload, 1) := by decide +kernel
theorem dX0_weighSwaps_39 : decode cX0_weighSwaps 39 = .ok (.iload 4, 2) := by decide +kernel
theorem dX0_weighSwaps_41 : decode cX0_weighSwaps 41 = .ok (.iaload, 1) := by decide +kernel
theorem dX0_weighSwaps_42 : decode cX0_weighSwaps 42 = .ok (.iconst (-1), 1) := by decide +kernel
theorem dX0_weighSwaps_43 : decode cX0_weighSwaps 43 = .ok (.if_icmp .eq 17, 3) := by decide +kernel
theorem dX0_weighSwaps_46 : decode cX0_weighSwaps 46 = .ok (.iload 5, 2) := by decide +kernel
theorem dX0_weighSwaps_48 : decode cX0_weighSwaps 48 = .ok (.aload_n 0, 1) := by decide +kernel
theorem dX0_weighSwaps_49 : decode cX0_weighSwaps 49 = .ok (.getfield 23, 3) := by decide +kernel
theorem dX0_weighSwaps_52 : decode cX0_weighSwaps 52 = .ok (.iload_n 1, 1) := by decide +kernel
theorem dX0_weighSwaps_53 : decode cX0_weighSwaps 53 = .ok (.aaload, 1) := by decide +kernel
theorem dX0_weighSwaps_54 : decode cX0_weighSwaps 54 = .ok (.iload 4, 2) := by decide +kernel
theorem dX0_weighSwaps_56 : decode cX0_weighSwaps 56 = .ok (.iaload, 1) := by decide +kernel
theorem dX0_weighSwaps_57 : decode cX0_weighSwaps 57 = .ok (.if_icmp .ge 24, 3) := by decide +kernel
theorem dX0_weighSwaps_60 : decode cX0_weighSwaps 60 = .ok (.aload_n 0, 1) := by decide +kernel
theorem dX0_weighSwaps_61 : decode cX0_weighSwaps 61 = .ok (.getfield 26, 3) := by decide +kernel
theorem dX0_weighSwaps_64 : decode cX0_weighSwaps 64 = .ok (.iload_n 1, 1) := by decide +kernel
theorem dX0_weighSwaps_65 : decode cX0_weighSwaps 65 = .ok (.aaload, 1) := by decide +kernel
theorem dX0_weighSwaps_66 : decode cX0_weighSwaps 66 = .ok (.iload 4, 2) := by decide +kernel
theorem dX0_weighSwaps_68 : decode cX0_weighSwaps 68 = .ok (.iload_n 2, 1) := by decide +kernel
theorem dX0_weighSwaps_69 : decode cX0_weighSwaps 69 = .ok (.iastore, 1) := by decide +kernel
theorem dX0_weighSwaps_70 : decode cX0_weighSwaps 70 = .ok (.aload_n 0, 1) := by decide +kernel
theorem dX0_weighSwaps_71 : decode cX0_weighSwaps 71 = .ok (.getfield 23, 3) := by decide +kernel
theorem dX0_weighSwaps_74 : decode cX0_weighSwaps 74 = .ok (.iload_n 1, 1) := by decide +kernel
theorem dX0_weighSwaps_75 : decode cX0_weighSwaps 75 = .ok (.aaload, 1) := by decide +kernel
theorem dX0_weighSwaps_76 : decode cX0_weighSwaps 76 = .ok (.iload 4, 2) := by decide +kernel
theorem dX0_weighSwaps_78 : decode cX0_weighSwaps 78 = .ok (.iload 5, 2) := by decide +kernel
theorem dX0_weighSwaps_80 : decode cX0_weighSwaps 80 = .ok (.iastore, 1) := by decide +kernel
theorem dX0_weighSwaps_81 : decode cX0_weighSwaps 81 = .ok (.iinc 4 1, 3) := by decide +kernel
theorem dX0_weighSwaps_84 : decode cX0_weighSwaps 84 = .ok (.goto (-74), 3) := by decide +kernel
theorem dX0_weighSwaps_87 : decode cX0_weighSwaps 87 = .ok (.return_, 1) := by decide +kernel
set_option maxRecDepth 20000 in
theorem ggX0_findChains_X0_way : GoodIn wsX0_findChains wsX0_way := goodIn_r _ [9, 1, 10, 11, 12, 13, 14, 15, 16, 17, 18, 25, 26, 27, 28, 29, 30, 31, 32, 33, 34, 35, 36, 37, 38, 39, 40, 41, 42, 43, 44, 45, 46, 47, 48, 49, 50] (by decide +kernel) (by decide +kernel)
set_option maxRecDepth 20000 in
theorem gX0_findChains_X0_way : GoodIn wsX0_findChains (wsV RX0 84 RX0 yX0_way wsX0_way) := goodIn_app (goodIn_of _ (by decide +kernel)) ggX0_findChains_X0_way
set_option maxRecDepth 20000 in
theorem ggX0_findChains_X0_lengthenChains : GoodIn wsX0_findChains wsX0_lengthenChains := goodIn_r _ [22, 1, 2, 3, 23, 24, 4, 25, 26, 27, 28, 29, 30, 31, 32, 33, 34, 35, 36, 37, 38, 39, 40, 41] (by decide +kernel) (by decide +kernel)
set_option maxRecDepth 20000 in
theorem gX0_findChains_X0_lengthenChains : GoodIn wsX0_findChains (wsV RX0 149 RX0 yX0_lengthenChains wsX0_lengthenChains) := goodIn_app (goodIn_of _ (by decide +kernel)) ggX0_findChains_X0_lengthenChains
theorem dX0_findChains_0 : decode cX0_findChains 0 = .ok (.iconst 0, 1) := by decide +kernel
theorem dX0_findChains_1 : decode cX0_findChains 1 = .ok (.istore_n 2, 1) := by decide +kernel
theorem dX0_findChains_2 : decode cX0_findChains 2 = .ok (.iload_n 2, 1) := by decide +kernel
theorem dX0_findChains_3 : decode cX0_findChains 3 = .ok (.aload_n 0, 1) := by decide +kernel
theorem dX0_findChains_4 : decode cX0_findChains 4 = .ok (.getfield 35, 3) := by decide +kernel
theorem dX0_findChains_7 : decode cX0_findChains 7 = .ok (.getfield 47, 3) := by decide +kernel
theorem dX0_findChains_10 : decode cX0_findChains 10 = .ok (.if_icmp .ge 28, 3) := by decide +kernel
theorem dX0_findChains_13 : decode cX0_findChains 13 = .ok (.aload_n 0, 1) := by decide +kernel
theorem dX0_findChains_14 : decode cX0_findChains 14 = .ok (.getfield 29, 3) := by decide +kernel
theorem dX0_findChains_17 : decode cX0_findChains 17 = .ok (.iload_n 2, 1) := by decide +kernel
theorem dX0_findChains_18 : decode cX0_findChains 18 = .ok (.aload_n 0, 1) := by decide +kernel
theorem dX0_findChains_19 : decode cX0_findChains 19 = .ok (.iload_n 2, 1) := by decide +kernel
theorem dX0_findChains_20 : decode cX0_findChains 20 = .ok (.iload_n 1, 1) := by decide +kernel
theorem dX0_findChains_21 : decode cX0_findChains 21 = .ok (.invokevirtual 84, 3) := by decide +kernel
theorem dX0_findChains_24 : decode cX0_findChains 24 = .ok (.iastore, 1) := by decide +kernel
theorem dX0_findChains_25 : decode cX0_findChains 25 = .ok (.aload_n 0, 1) := by decide +kernel
theorem dX0_findChains_26 : decode cX0_findChains 26 = .ok (.getfield 32, 3) := by decide +kernel
theorem dX0_findChains_29 : decode cX0_findChains 29 = .ok (.iload_n 2, 1) := by decide +kernel
theorem dX0_findChains_30 : decode cX0_findChains 30 = .ok (.iconst (-1), 1) := by decide +kernel
theorem dX0_findChains_31 : decode cX0_findChains 31 = .ok (.iastore, 1) := by decide +kernel
theorem dX0_findChains_32 : decode cX0_findChains 32 = .ok (.iinc 2 1, 3) := by decide +kernel
theorem dX0_findChains_35 : decode cX0_findChains 35 = .ok (.goto (-33), 3) := by decide +kernel
theorem dX0_findChains_38 : decode cX0_findChains 38 = .ok (.iconst 0, 1) := by decide +kernel
theorem dX0_findChains_39 : decode cX0_findChains 39 = .ok (.istore_n 2, 1) := by decide +kernel
theorem dX0_findChains_40 : decode cX0_findChains 40 = .ok (.iload_n 2, 1) := by decide +kernel
theorem dX0_findChains_41 : decode cX0_findChains 41 = .ok (.aload_n 0, 1) := by decide +kernel
theorem dX0_findChains_42 : decode cX0_findChains 42 = .ok (.getfield 35, 3) := by decide +kernel
theorem dX0_findChains_45 : decode cX0_findChains 45 = .ok (.getfield 47, 3) := by decide +kernel
theorem dX0_findChains_48 : decode cX0_findChains 48 = .ok (.if_icmp .ge 33, 3) := by decide +kernel
theorem dX0_findChains_51 : decode cX0_findChains 51 = .ok (.iconst 0, 1) := by decide +kernel
theorem dX0_findChains_52 : decode cX0_findChains 52 = .ok (.istore_n 3, 1) := by decide +kernel
theorem dX0_findChains_53 : decode cX0_findChains 53 = .ok (.iload_n 3, 1) := by decide +kernel
theorem dX0_findChains_54 : decode cX0_findChains 54 = .ok (.aload_n 0, 1) := by decide +kernel
theorem dX0_findChains_55 : decode cX0_findChains 55 = .ok (.getfield 35, 3) := by decide +kernel
theorem dX0_findChains_58 : decode cX0_findChains 58 = .ok (.getfield 47, 3) := by decide +kernel
theorem dX0_findChains_61 : decode cX0_findChains 61 = .ok (.if_icmp .ge 14, 3) := by decide +kernel
theorem dX0_findChains_64 : decode cX0_findChains 64 = .ok (.aload_n 0, 1) := by decide +kernel
theorem dX0_findChains_65 : decode cX0_findChains 65 = .ok (.iload_n 3, 1) := by decide +kernel
theorem dX0_findChains_66 : decode cX0_findChains 66 = .ok (.invokevirtual 149, 3) := by decide +kernel
theorem dX0_findChains_69 : decode cX0_findChains 69 = .ok (.iinc 3 1, 3) := by decide +kernel
theorem dX0_findChains_72 : decode cX0_findChains 72 = .ok (.goto (-19), 3) := by decide +kernel
theorem dX0_findChains_75 : decode cX0_findChains 75 = .ok (.iinc 2 1, 3) := by decide +kernel
theorem dX0_findChains_78 : decode cX0_findChains 78 = .ok (.goto (-38), 3) := by decide +kernel
theorem dX0_findChains_81 : decode cX0_findChains 81 = .ok (.return_, 1) := by decide +kernel
theorem dX0_lengthenChains_0 : decode cX0_lengthenChains 0 = .ok (.iconst 0, 1) := by decide +kernel
theorem dX0_lengthenChains_1 : decode cX0_lengthenChains 1 = .ok (.istore_n 2, 1) := by decide +kernel
theorem dX0_lengthenChains_2 : decode cX0_lengthenChains 2 = .ok (.iload_n 2, 1) := by decide +kernel
theorem dX0_lengthenChains_3 : decode cX0_lengthenChains 3 = .ok (.aload_n 0, 1) := by decide +kernel
theorem dX0_lengthenChains_4 : decode cX0_lengthenChains 4 = .ok (.getfield 35, 3) := by decide +kernel
theorem dX0_lengthenChains_7 : decode cX0_lengthenChains 7 = .ok (.getfield 47, 3) := by decide +kernel
theorem dX0_lengthenChains_10 : decode cX0_lengthenChains 10 = .ok (.if_icmp .ge 61, 3) := by decide +kernel
theorem dX0_lengthenChains_13 : decode cX0_lengthenChains 13 = .ok (.aload_n 0, 1) := by decide +kernel
theorem dX0_lengthenChains_14 : decode cX0_lengthenChains 14 = .ok (.getfield 29, 3) := by decide +kernel
theorem dX0_lengthenChains_17 : decode cX0_lengthenChains 17 = .ok (.iload_n 1, 1) := by decide +kernel
theorem dX0_lengthenChains_18 : decode cX0_lengthenChains 18 = .ok (.iaload, 1) := by decide +kernel
theorem dX0_lengthenChains_19 : decode cX0_lengthenChains 19 = .ok (.aload_n 0, 1) := by decide +kernel
theorem dX0_lengthenChains_20 : decode cX0_lengthenChains 20 = .ok (.getfield 23, 3) := by decide +kernel
theorem dX0_lengthenChains_23 : decode cX0_lengthenChains 23 = .ok (.iload_n 1, 1) := by decide +kernel
theorem dX0_lengthenChains_24 : decode cX0_lengthenChains 24 = .ok (.aaload, 1) := by decide +kernel
theorem dX0_lengthenChains_25 : decode cX0_lengthenChains 25 = .ok (.iload_n 2, 1) := by decide +kernel
theorem dX0_lengthenChains_26 : decode cX0_lengthenChains 26 = .ok (.iaload, 1) := by decide +kernel
theorem dX0_lengthenChains_27 : decode cX0_lengthenChains 27 = .ok (.iadd, 1) := by decide +kernel
theorem dX0_lengthenChains_28 : decode cX0_lengthenChains 28 = .ok (.istore_n 3, 1) := by decide +kernel
theorem dX0_lengthenChains_29 : decode cX0_lengthenChains 29 = .ok (.aload_n 0, 1) := by decide +kernel
theorem dX0_lengthenChains_30 : decode cX0_lengthenChains 30 = .ok (.getfield 26, 3) := by decide +kernel
theorem dX0_lengthenChains_33 : decode cX0_lengthenChains 33 = .ok (.iload_n 1, 1) := by decide +kernel
theorem dX0_lengthenChains_34 : decode cX0_lengthenChains 34 = .ok (.aaload, 1) := by decide +kernel
theorem dX0_lengthenChains_35 : decode cX0_lengthenChains 35 = .ok (.iload_n 2, 1) := by decide +kernel
theorem dX0_lengthenChains_36 : decode cX0_lengthenChains 36 = .ok (.iaload, 1) := by decide +kernel
theorem dX0_lengthenChains_37 : decode cX0_lengthenChains 37 = .ok (.iconst (-1), 1) := by decide +kernel
theorem dX0_lengthenChains_38 : decode cX0_lengthenChains 38 = .ok (.if_icmp .eq 27, 3) := by decide +kernel
theorem dX0_lengthenChains_41 : decode cX0_lengthenChains 41 = .ok (.iload_n 3, 1) := by decide +kernel
theorem dX0_lengthenChains_42 : decode cX0_lengthenChains 42 = .ok (.aload_n 0, 1) := by decide +kernel
theorem dX0_lengthenChains_43 : decode cX0_lengthenChains 43 = .ok (.getfield 29, 3) := by decide +kernel
theorem dX0_lengthenChains_46 : decode cX0_lengthenChains 46 = .ok (.iload_n 2, 1) := by decide +kernel
theorem dX0_lengthenChains_47 : decode cX0_lengthenChains 47 = .ok (.iaload, 1) := by decide +kernel
theorem dX0_lengthenChains_48 : decode cX0_lengthenChains 48 = .ok (.if_icmp .ge 17, 3) := by decide +kernel
theorem dX0_lengthenChains_51 : decode cX0_lengthenChains 51 = .ok (.aload_n 0, 1) := by decide +kernel
theorem dX0_lengthenChains_52 : decode cX0_lengthenChains 52 = .ok (.getfield 29, 3) := by decide +kernel
theorem dX0_lengthenChains_55 : decode cX0_lengthenChains 55 = .ok (.iload_n 2, 1) := by decide +kernel
theorem dX0_lengthenChains_56 : decode cX0_lengthenChains 56 = .ok (.iload_n 3, 1) := by decide +kernel
theorem dX0_lengthenChains_57 : decode cX0_lengthenChains 57 = .ok (.iastore, 1) := by decide +kernel
theorem dX0_lengthenChains_58 : decode cX0_lengthenChains 58 = .ok (.aload_n 0, 1) := by decide +kernel
theorem dX0_lengthenChains_59 : decode cX0_lengthenChains 59 = .ok (.getfield 32, 3) := by decide +kernel
theorem dX0_lengthenChains_62 : decode cX0_lengthenChains 62 = .ok (.iload_n 2, 1) := by decide +kernel
theorem dX0_lengthenChains_63 : decode cX0_lengthenChains 63 = .ok (.iload_n 1, 1) := by decide +kernel
theorem dX0_lengthenChains_64 : decode cX0_lengthenChains 64 = .ok (.iastore, 1) := by decide +kernel
theorem dX0_lengthenChains_65 : decode cX0_lengthenChains 65 = .ok (.iinc 2 1, 3) := by decide +kernel
theorem dX0_lengthenChains_68 : decode cX0_lengthenChains 68 = .ok (.goto (-66), 3) := by decide +kernel
theorem dX0_lengthenChains_71 : decode cX0_lengthenChains 71 = .ok (.return_, 1) := by decide +kernel
theorem dX0_cheapestGiver_0 : decode cX0_cheapestGiver 0 = .ok (.iconst (-1), 1) := by decide +kernel
theorem dX0_cheapestGiver_1 : decode cX0_cheapestGiver 1 = .ok (.istore_n 1, 1) := by decide +kernel
theorem dX0_cheapestGiver_2 : decode cX0_cheapestGiver 2 = .ok (.iconst 0, 1) := by decide +kernel
theorem dX0_cheapestGiver_3 : decode cX0_cheapestGiver 3 = .ok (.istore_n 2, 1) := by decide +kernel
theorem dX0_cheapestGiver_4 : decode cX0_cheapestGiver 4 = .ok (.iload_n 2, 1) := by decide +kernel
theorem dX0_cheapestGiver_5 : decode cX0_cheapestGiver 5 = .ok (.aload_n 0, 1) := by decide +kernel
theorem dX0_cheapestGiver_6 : decode cX0_cheapestGiver 6 = .ok (.getfield 35, 3) := by decide +kernel
theorem dX0_cheapestGiver_9 : decode cX0_cheapestGiver 9 = .ok (.getfield 47, 3) := by decide +kernel
theorem dX0_cheapestGiver_12 : decode cX0_cheapestGiver 12 = .ok (.if_icmp .ge 40, 3) := by decide +kernel
theorem dX0_cheapestGiver_15 : decode cX0_cheapestGiver 15 = .ok (.aload_n 0, 1) := by decide +kernel
theorem dX0_cheapestGiver_16 : decode cX0_cheapestGiver 16 = .ok (.getfield 16, 3) := by decide +kernel
theorem dX0_cheapestGiver_19 : decode cX0_cheapestGiver 19 = .ok (.iload_n 2, 1) := by decide +kernel
theorem dX0_cheapestGiver_20 : decode cX0_cheapestGiver 20 = .ok (.iaload, 1) := by decide +kernel
theorem dX0_cheapestGiver_21 : decode cX0_cheapestGiver 21 = .ok (.ifCond .le 25, 3) := by decide +kernel
theorem dX0_cheapestGiver_24 : decode cX0_cheapestGiver 24 = .ok (.iload_n 1, 1) := by decide +kernel
theorem dX0_cheapestGiver_25 : decode cX0_cheapestGiver 25 = .ok (.iconst (-1), 1) := by decide +kernel
theorem dX0_cheapestGiver_26 : decode cX0_cheapestGiver 26 = .ok (.if_icmp .eq 18, 3) := by decide +kernel
theorem dX0_cheapestGiver_29 : decode cX0_cheapestGiver 29 = .ok (.aload_n 0, 1) := by decide +kernel
theorem dX0_cheapestGiver_30 : decode cX0_cheapestGiver 30 = .ok (.getfield 29, 3) := by decide +kernel
theorem dX0_cheapestGiver_33 : decode cX0_cheapestGiver 33 = .ok (.iload_n 2, 1) := by decide +kernel
theorem dX0_cheapestGiver_34 : decode cX0_cheapestGiver 34 = .ok (.iaload, 1) := by decide +kernel
theorem dX0_cheapestGiver_35 : decode cX0_cheapestGiver 35 = .ok (.aload_n 0, 1) := by decide +kernel
theorem dX0_cheapestGiver_36 : decode cX0_cheapestGiver 36 = .ok (.getfield 29, 3) := by decide +kernel
theorem dX0_cheapestGiver_39 : decode cX0_cheapestGiver 39 = .ok (.iload_n 1, 1) := by decide +kernel
theorem dX0_cheapestGiver_40 : decode cX0_cheapestGiver 40 = .ok (.iaload, 1) := by decide +kernel
theorem dX0_cheapestGiver_41 : decode cX0_cheapestGiver 41 = .ok (.if_icmp .ge 5, 3) := by decide +kernel
theorem dX0_cheapestGiver_44 : decode cX0_cheapestGiver 44 = .ok (.iload_n 2, 1) := by decide +kernel
theorem dX0_cheapestGiver_45 : decode cX0_cheapestGiver 45 = .ok (.istore_n 1, 1) := by decide +kernel
theorem dX0_cheapestGiver_46 : decode cX0_cheapestGiver 46 = .ok (.iinc 2 1, 3) := by decide +kernel
theorem dX0_cheapestGiver_49 : decode cX0_cheapestGiver 49 = .ok (.goto (-45), 3) := by decide +kernel
theorem dX0_cheapestGiver_52 : decode cX0_cheapestGiver 52 = .ok (.iload_n 1, 1) := by decide +kernel
theorem dX0_cheapestGiver_53 : decode cX0_cheapestGiver 53 = .ok (.ireturn, 1) := by decide +kernel
theorem dX0_followChain_0 : decode cX0_followChain 0 = .ok (.iload_n 1, 1) := by decide +kernel
theorem dX0_followChain_1 : decode cX0_followChain 1 = .ok (.istore_n 3, 1) := by decide +kernel
theorem dX0_followChain_2 : decode cX0_followChain 2 = .ok (.iconst 0, 1) := by decide +kernel
theorem dX0_followChain_3 : decode cX0_followChain 3 = .ok (.istore 4, 2) := by decide +kernel
theorem dX0_followChain_5 : decode cX0_followChain 5 = .ok (.iload 4, 2) := by decide +kernel
theorem dX0_followChain_7 : decode cX0_followChain 7 = .ok (.aload_n 0, 1) := by decide +kernel
theorem dX0_followChain_8 : decode cX0_followChain 8 = .ok (.getfield 35, 3) := by decide +kernel
theorem dX0_followChain_11 : decode cX0_followChain 11 = .ok (.getfield 47, 3) := by decide +kernel
theorem dX0_followChain_14 : decode cX0_followChain 14 = .ok (.if_icmp .ge 68, 3) := by decide +kernel
theorem dX0_followChain_17 : decode cX0_followChain 17 = .ok (.aload_n 0, 1) := by decide +kernel
theorem dX0_followChain_18 : decode cX0_followChain 18 = .ok (.getfield 32, 3) := by decide +kernel
theorem dX0_followChain_21 : decode cX0_followChain 21 = .ok (.iload_n 3, 1) := by decide +kernel
theorem dX0_followChain_22 : decode cX0_followChain 22 = .ok (.iaload, 1) := by decide +kernel
theorem dX0_followChain_23 : decode cX0_followChain 23 = .ok (.iconst (-1), 1) := by decide +kernel
theorem dX0_followChain_24 : decode cX0_followChain 24 = .ok (.if_icmp .eq 58, 3) := by decide +kernel
theorem dX0_followChain_27 : decode cX0_followChain 27 = .ok (.aload_n 0, 1) := by decide +kernel
theorem dX0_followChain_28 : decode cX0_followChain 28 = .ok (.getfield 32, 3) := by decide +kernel
theorem dX0_followChain_31 : decode cX0_followChain 31 = .ok (.iload_n 3, 1) := by decide +kernel
theorem dX0_followChain_32 : decode cX0_followChain 32 = .ok (.iaload, 1) := by decide +kernel
theorem dX0_followChain_33 : decode cX0_followChain 33 = .ok (.istore 5, 2) := by decide +kernel
theorem dX0_followChain_35 : decode cX0_followChain 35 = .ok (.aload_n 0, 1) := by decide +kernel
theorem dX0_followChain_36 : decode cX0_followChain 36 = .ok (.getfield 26, 3) := by decide +kernel
theorem dX0_followChain_39 : decode cX0_followChain 39 = .ok (.iload 5, 2) := by decide +kernel
theorem dX0_followChain_41 : decode cX0_followChain 41 = .ok (.aaload, 1) := by decide +kernel
theorem dX0_followChain_42 : decode cX0_followChain 42 = .ok (.iload_n 3, 1) := by decide +kernel
theorem dX0_followChain_43 : decode cX0_followChain 43 = .ok (.iaload, 1) := by decide +kernel
theorem dX0_followChain_44 : decode cX0_followChain 44 = .ok (.istore 6, 2) := by decide +kernel
theorem dX0_followChain_46 : decode cX0_followChain 46 = .ok (.aload_n 0, 1) := by decide +kernel
theorem dX0_followChain_47 : decode cX0_followChain 47 = .ok (.getfield 20, 3) := by decide +kernel
theorem dX0_followChain_50 : decode cX0_followChain 50 = .ok (.iload 5, 2) := by decide +kernel
theorem dX0_followChain_52 : decode cX0_followChain 52 = .ok (.aaload, 1) := by decide +kernel
theorem dX0_followChain_53 : decode cX0_followChain 53 = .ok (.iload 6, 2) := by decide +kernel
theorem dX0_followChain_55 : decode cX0_followChain 55 = .ok (.dup2, 1) := by decide +kernel
theorem dX0_followChain_56 : decode cX0_followChain 56 = .ok (.iaload, 1) := by decide +kernel
theorem dX0_followChain_57 : decode cX0_followChain 57 = .ok (.iconst 1, 1) := by decide +kernel
theorem dX0_followChain_58 : decode cX0_followChain 58 = .ok (.isub, 1) := by decide +kernel
theorem dX0_followChain_59 : decode cX0_followChain 59 = .ok (.iastore, 1) := by decide +kernel
theorem dX0_followChain_60 : decode cX0_followChain 60 = .ok (.aload_n 0, 1) := by decide +kernel
theorem dX0_followChain_61 : decode cX0_followChain 61 = .ok (.getfield 20, 3) := by decide +kernel
theorem dX0_followChain_64 : decode cX0_followChain 64 = .ok (.iload_n 3, 1) := by decide +kernel
theorem dX0_followChain_65 : decode cX0_followChain 65 = .ok (.aaload, 1) := by decide +kernel
theorem dX0_followChain_66 : decode cX0_followChain 66 = .ok (.iload 6, 2) := by decide +kernel
theorem dX0_followChain_68 : decode cX0_followChain 68 = .ok (.dup2, 1) := by decide +kernel
theorem dX0_followChain_69 : decode cX0_followChain 69 = .ok (.iaload, 1) := by decide +kernel
theorem dX0_followChain_70 : decode cX0_followChain 70 = .ok (.iconst 1, 1) := by decide +kernel
theorem dX0_followChain_71 : decode cX0_followChain 71 = .ok (.iadd, 1) := by decide +kernel
theorem dX0_followChain_72 : decode cX0_followChain 72 = .ok (.iastore, 1) := by decide +kernel
theorem dX0_followChain_73 : decode cX0_followChain 73 = .ok (.iload 5, 2) := by decide +kernel
theorem dX0_followChain_75 : decode cX0_followChain 75 = .ok (.istore_n 3, 1) := by decide +kernel
theorem dX0_followChain_76 : decode cX0_followChain 76 = .ok (.iinc 4 1, 3) := by decide +kernel
theorem dX0_followChain_79 : decode cX0_followChain 79 = .ok (.goto (-74), 3) := by decide +kernel
theorem dX0_followChain_82 : decode cX0_followChain 82 = .ok (.aload_n 0, 1) := by decide +kernel
theorem dX0_followChain_83 : decode cX0_followChain 83 = .ok (.getfield 20, 3) := by decide +kernel
theorem dX0_followChain_86 : decode cX0_followChain 86 = .ok (.iload_n 3, 1) := by decide +kernel
theorem dX0_followChain_87 : decode cX0_followChain 87 = .ok (.aaload, 1) := by decide +kernel
theorem dX0_followChain_88 : decode cX0_followChain 88 = .ok (.iload_n 2, 1) := by decide +kernel
theorem dX0_followChain_89 : decode cX0_followChain 89 = .ok (.dup2, 1) := by decide +kernel
theorem dX0_followChain_90 : decode cX0_followChain 90 = .ok (.iaload, 1) := by decide +kernel
theorem dX0_followChain_91 : decode cX0_followChain 91 = .ok (.iconst 1, 1) := by decide +kernel
theorem dX0_followChain_92 : decode cX0_followChain 92 = .ok (.iadd, 1) := by decide +kernel
theorem dX0_followChain_93 : decode cX0_followChain 93 = .ok (.iastore, 1) := by decide +kernel
theorem dX0_followChain_94 : decode cX0_followChain 94 = .ok (.return_, 1) := by decide +kernel
