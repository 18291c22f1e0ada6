set_option maxRecDepth 20000 in
theorem ggX5_init_X4_init : GoodIn wsX5_init wsX4_init := goodIn_r _ [25, 26, 2, 3, 27, 28, 29, 30, 31, 32, 33, 75, 76, 77, 78, 79, 80, 81] (by decide +kernel) (by decide +kernel)
set_option maxRecDepth 20000 in
theorem gX5_init_X4_init_n11 : GoodIn wsX5_init (wsX4_init) := ggX5_init_X4_init
set_option maxRecDepth 20000 in
theorem ggX5_init_X3_init : GoodIn wsX5_init wsX3_init := goodIn_r _ [35, 36, 2, 3] (by decide +kernel) (by decide +kernel)
set_option maxRecDepth 20000 in
theorem gX5_init_X3_init_n18 : GoodIn wsX5_init (wsX3_init) := ggX5_init_X3_init
set_option maxRecDepth 20000 in
theorem ggX5_init_X1_init : GoodIn wsX5_init wsX1_init := goodIn_r _ [39, 40, 2, 3, 27, 41, 42, 43, 44, 45, 46, 47, 48, 49, 50, 96, 97, 98, 99, 100, 101, 102, 103, 104, 105, 106, 107] (by decide +kernel) (by decide +kernel)
set_option maxRecDepth 20000 in
theorem gX5_init_X1_init : GoodIn wsX5_init (wsX1_init) := ggX5_init_X1_init
set_option maxRecDepth 20000 in
theorem ggX5_init_X2_init : GoodIn wsX5_init wsX2_init := goodIn_r _ [53, 54, 2, 3, 27, 55, 56, 57, 58, 59, 108, 109, 110, 111, 112, 113, 114, 115] (by decide +kernel) (by decide +kernel)
set_option maxRecDepth 20000 in
theorem gX5_init_X2_init : GoodIn wsX5_init (wsX2_init) := ggX5_init_X2_init
set_option maxRecDepth 20000 in
theorem ggX5_init_X0_init : GoodIn wsX5_init wsX0_init := goodIn_r _ [62, 63, 2, 3, 64, 27, 65, 66, 67, 68, 69, 70, 71, 72, 73, 74, 116, 117, 118, 119, 120, 121, 122, 123, 124, 125] (by decide +kernel) (by decide +kernel)
set_option maxRecDepth 20000 in
theorem gX5_init_X0_init : GoodIn wsX5_init (wsX0_init) := ggX5_init_X0_init
theorem dX5_init_0 : decode cX5_init 0 = .ok (.aload_n 0, 1) := by decide +kernel
theorem dX5_init_1 : decode cX5_init 1 = .ok (.invokespecial 3, 3) := by decide +kernel
theorem dX5_init_4 : decode cX5_init 4 = .ok (.aload_n 0, 1) := by decide +kernel
theorem dX5_init_5 : decode cX5_init 5 = .ok (.new 9, 3) := by decide +kernel
theorem dX5_init_8 : decode cX5_init 8 = .ok (.dup, 1) := by decide +kernel
theorem dX5_init_9 : decode cX5_init 9 = .ok (.invokespecial 11, 3) := by decide +kernel
theorem dX5_init_12 : decode cX5_init 12 = .ok (.putfield 12, 3) := by decide +kernel
theorem dX5_init_15 : decode cX5_init 15 = .ok (.aload_n 0, 1) := by decide +kernel
theorem dX5_init_16 : decode cX5_init 16 = .ok (.new 16, 3) := by decide +kernel
theorem dX5_init_19 : decode cX5_init 19 = .ok (.dup, 1) := by decide +kernel
theorem dX5_init_20 : decode cX5_init 20 = .ok (.invokespecial 18, 3) := by decide +kernel
theorem dX5_init_23 : decode cX5_init 23 = .ok (.putfield 19, 3) := by decide +kernel
theorem dX5_init_26 : decode cX5_init 26 = .ok (.aload_n 0, 1) := by decide +kernel
theorem dX5_init_27 : decode cX5_init 27 = .ok (.new 23, 3) := by decide +kernel
theorem dX5_init_30 : decode cX5_init 30 = .ok (.dup, 1) := by decide +kernel
theorem dX5_init_31 : decode cX5_init 31 = .ok (.aload_n 0, 1) := by decide +kernel
theorem dX5_init_32 : decode cX5_init 32 = .ok (.getfield 12, 3) := by decide +kernel
theorem dX5_init_35 : decode cX5_init 35 = .ok (.aload_n 0, 1) := by decide +kernel
theorem dX5_init_36 : decode cX5_init 36 = .ok (.getfield 19, 3) := by decide +kernel
theorem dX5_init_39 : decode cX5_init 39 = .ok (.invokespecial 25, 3) := by decide +kernel
theorem dX5_init_42 : decode cX5_init 42 = .ok (.putfield 28, 3) := by decide +kernel
theorem dX5_init_45 : decode cX5_init 45 = .ok (.aload_n 0, 1) := by decide +kernel
theorem dX5_init_46 : decode cX5_init 46 = .ok (.new 32, 3) := by decide +kernel
theorem dX5_init_49 : decode cX5_init 49 = .ok (.dup, 1) := by decide +kernel
theorem dX5_init_50 : decode cX5_init 50 = .ok (.aload_n 0, 1) := by decide +kernel
theorem dX5_init_51 : decode cX5_init 51 = .ok (.getfield 12, 3) := by decide +kernel
theorem dX5_init_54 : decode cX5_init 54 = .ok (.aload_n 0, 1) := by decide +kernel
theorem dX5_init_55 : decode cX5_init 55 = .ok (.getfield 19, 3) := by decide +kernel
theorem dX5_init_58 : decode cX5_init 58 = .ok (.aload_n 0, 1) := by decide +kernel
theorem dX5_init_59 : decode cX5_init 59 = .ok (.getfield 28, 3) := by decide +kernel
theorem dX5_init_62 : decode cX5_init 62 = .ok (.invokespecial 34, 3) := by decide +kernel
theorem dX5_init_65 : decode cX5_init 65 = .ok (.putfield 37, 3) := by decide +kernel
theorem dX5_init_68 : decode cX5_init 68 = .ok (.aload_n 0, 1) := by decide +kernel
theorem dX5_init_69 : decode cX5_init 69 = .ok (.new 41, 3) := by decide +kernel
theorem dX5_init_72 : decode cX5_init 72 = .ok (.dup, 1) := by decide +kernel
theorem dX5_init_73 : decode cX5_init 73 = .ok (.aload_n 0, 1) := by decide +kernel
theorem dX5_init_74 : decode cX5_init 74 = .ok (.getfield 12, 3) := by decide +kernel
theorem dX5_init_77 : decode cX5_init 77 = .ok (.aload_n 0, 1) := by decide +kernel
theorem dX5_init_78 : decode cX5_init 78 = .ok (.getfield 19, 3) := by decide +kernel
theorem dX5_init_81 : decode cX5_init 81 = .ok (.aload_n 0, 1) := by decide +kernel
theorem dX5_init_82 : decode cX5_init 82 = .ok (.getfield 28, 3) := by decide +kernel
theorem dX5_init_85 : decode cX5_init 85 = .ok (.invokespecial 43, 3) := by decide +kernel
theorem dX5_init_88 : decode cX5_init 88 = .ok (.putfield 44, 3) := by decide +kernel
theorem dX5_init_91 : decode cX5_init 91 = .ok (.return_, 1) := by decide +kernel
set_option maxRecDepth 20000 in
theorem ggX5_kind_X5_within : GoodIn wsX5_kind wsX5_within := goodIn_r _ [8] (by decide +kernel) (by decide +kernel)
set_option maxRecDepth 20000 in
theorem gX5_kind_X5_within : GoodIn wsX5_kind (va_wsS RX5 56 yX5_within wsX5_within) := goodIn_app (goodIn_of _ (by decide +kernel)) ggX5_kind_X5_within
set_option maxRecDepth 20000 in
theorem ggX5_kind_X1_forget : GoodIn wsX5_kind wsX1_forget := goodIn_r _ [13, 14, 15, 16, 30, 31, 32, 33, 34, 35, 36, 37, 38, 39, 40, 41] (by decide +kernel) (by decide +kernel)
set_option maxRecDepth 20000 in
theorem gX5_kind_X1_forget : GoodIn wsX5_kind (wsV RX5 60 RX1 yX1_forget wsX1_forget) := goodIn_app (goodIn_of _ (by decide +kernel)) ggX5_kind_X1_forget
set_option maxRecDepth 20000 in
theorem ggX5_kind_X4_addKind : GoodIn wsX5_kind wsX4_addKind := goodIn_r _ [21, 22, 23, 24, 42, 43, 44, 45, 46, 47, 48] (by decide +kernel) (by decide +kernel)
set_option maxRecDepth 20000 in
theorem gX5_kind_X4_addKind : GoodIn wsX5_kind (wsV RX5 63 RX4 yX4_addKind wsX4_addKind) := goodIn_app (goodIn_of _ (by decide +kernel)) ggX5_kind_X4_addKind
theorem dX5_kind_0 : decode cX5_kind 0 = .ok (.aload_n 0, 1) := by decide +kernel
theorem dX5_kind_1 : decode cX5_kind 1 = .ok (.getfield 28, 3) := by decide +kernel
theorem dX5_kind_4 : decode cX5_kind 4 = .ok (.getfield 48, 3) := by decide +kernel
theorem dX5_kind_7 : decode cX5_kind 7 = .ok (.ifCond .ne 15, 3) := by decide +kernel
theorem dX5_kind_10 : decode cX5_kind 10 = .ok (.aload_n 0, 1) := by decide +kernel
theorem dX5_kind_11 : decode cX5_kind 11 = .ok (.getfield 12, 3) := by decide +kernel
theorem dX5_kind_14 : decode cX5_kind 14 = .ok (.getfield 52, 3) := by decide +kernel
theorem dX5_kind_17 : decode cX5_kind 17 = .ok (.bipush 8, 2) := by decide +kernel
theorem dX5_kind_19 : decode cX5_kind 19 = .ok (.if_icmp .lt 5, 3) := by decide +kernel
theorem dX5_kind_22 : decode cX5_kind 22 = .ok (.iconst (-1), 1) := by decide +kernel
theorem dX5_kind_23 : decode cX5_kind 23 = .ok (.ireturn, 1) := by decide +kernel
theorem dX5_kind_24 : decode cX5_kind 24 = .ok (.iload_n 1, 1) := by decide +kernel
theorem dX5_kind_25 : decode cX5_kind 25 = .ok (.iconst 1, 1) := by decide +kernel
theorem dX5_kind_26 : decode cX5_kind 26 = .ok (.bipush 6, 2) := by decide +kernel
theorem dX5_kind_28 : decode cX5_kind 28 = .ok (.invokestatic 56, 3) := by decide +kernel
theorem dX5_kind_31 : decode cX5_kind 31 = .ok (.ifCond .eq 12, 3) := by decide +kernel
theorem dX5_kind_34 : decode cX5_kind 34 = .ok (.iload_n 2, 1) := by decide +kernel
theorem dX5_kind_35 : decode cX5_kind 35 = .ok (.iconst 1, 1) := by decide +kernel
theorem dX5_kind_36 : decode cX5_kind 36 = .ok (.iconst 4, 1) := by decide +kernel
theorem dX5_kind_37 : decode cX5_kind 37 = .ok (.invokestatic 56, 3) := by decide +kernel
theorem dX5_kind_40 : decode cX5_kind 40 = .ok (.ifCond .ne 5, 3) := by decide +kernel
theorem dX5_kind_43 : decode cX5_kind 43 = .ok (.iconst (-1), 1) := by decide +kernel
theorem dX5_kind_44 : decode cX5_kind 44 = .ok (.ireturn, 1) := by decide +kernel
theorem dX5_kind_45 : decode cX5_kind 45 = .ok (.aload_n 0, 1) := by decide +kernel
theorem dX5_kind_46 : decode cX5_kind 46 = .ok (.getfield 28, 3) := by decide +kernel
theorem dX5_kind_49 : decode cX5_kind 49 = .ok (.invokevirtual 60, 3) := by decide +kernel
theorem dX5_kind_52 : decode cX5_kind 52 = .ok (.aload_n 0, 1) := by decide +kernel
theorem dX5_kind_53 : decode cX5_kind 53 = .ok (.getfield 12, 3) := by decide +kernel
theorem dX5_kind_56 : decode cX5_kind 56 = .ok (.iload_n 1, 1) := by decide +kernel
theorem dX5_kind_57 : decode cX5_kind 57 = .ok (.iload_n 2, 1) := by decide +kernel
theorem dX5_kind_58 : decode cX5_kind 58 = .ok (.invokevirtual 63, 3) := by decide +kernel
theorem dX5_kind_61 : decode cX5_kind 61 = .ok (.ireturn, 1) := by decide +kernel
set_option maxRecDepth 20000 in
theorem ggX5_heap_X5_onTheMap : GoodIn wsX5_heap wsX5_onTheMap := goodIn_r _ [8, 9, 10, 7, 11] (by decide +kernel) (by decide +kernel)
set_option maxRecDepth 20000 in
theorem gX5_heap_X5_onTheMap : GoodIn wsX5_heap (va_wsS RX5 70 yX5_onTheMap wsX5_onTheMap) := goodIn_app (goodIn_of _ (by decide +kernel)) ggX5_heap_X5_onTheMap
set_option maxRecDepth 20000 in
theorem ggX5_heap_X1_forget : GoodIn wsX5_heap wsX1_forget := goodIn_r _ [16, 17, 18, 19, 33, 34, 35, 36, 37, 38, 39, 40, 41, 42, 43, 44] (by decide +kernel) (by decide +kernel)
set_option maxRecDepth 20000 in
theorem gX5_heap_X1_forget : GoodIn wsX5_heap (wsV RX5 60 RX1 yX1_forget wsX1_forget) := goodIn_app (goodIn_of _ (by decide +kernel)) ggX5_heap_X1_forget
set_option maxRecDepth 20000 in
theorem ggX5_heap_X4_addHeap : GoodIn wsX5_heap wsX4_addHeap := goodIn_r _ [24, 25, 26, 27, 45, 46, 47, 48, 49, 50, 51] (by decide +kernel) (by decide +kernel)
set_option maxRecDepth 20000 in
theorem gX5_heap_X4_addHeap : GoodIn wsX5_heap (wsV RX5 74 RX4 yX4_addHeap wsX4_addHeap) := goodIn_app (goodIn_of _ (by decide +kernel)) ggX5_heap_X4_addHeap
theorem dX5_heap_0 : decode cX5_heap 0 = .ok (.aload_n 0, 1) := by decide +kernel
theorem dX5_heap_1 : decode cX5_heap 1 = .ok (.getfield 28, 3) := by decide +kernel
theorem dX5_heap_4 : decode cX5_heap 4 = .ok (.getfield 48, 3) := by decide +kernel
theorem dX5_heap_7 : decode cX5_heap 7 = .ok (.ifCond .ne 22, 3) := by decide +kernel
theorem dX5_heap_10 : decode cX5_heap 10 = .ok (.aload_n 0, 1) := by decide +kernel
theorem dX5_heap_11 : decode cX5_heap 11 = .ok (.getfield 12, 3) := by decide +kernel
theorem dX5_heap_14 : decode cX5_heap 14 = .ok (.getfield 67, 3) := by decide +kernel
theorem dX5_heap_17 : decode cX5_heap 17 = .ok (.iconst 5, 1) := by decide +kernel
theorem dX5_heap_18 : decode cX5_heap 18 = .ok (.if_icmp .ge 11, 3) := by decide +kernel
theorem dX5_heap_21 : decode cX5_heap 21 = .ok (.iload_n 1, 1) := by decide +kernel
theorem dX5_heap_22 : decode cX5_heap 22 = .ok (.iload_n 2, 1) := by decide +kernel
theorem dX5_heap_23 : decode cX5_heap 23 = .ok (.invokestatic 70, 3) := by decide +kernel
theorem dX5_heap_26 : decode cX5_heap 26 = .ok (.ifCond .ne 5, 3) := by decide +kernel
theorem dX5_heap_29 : decode cX5_heap 29 = .ok (.iconst (-1), 1) := by decide +kernel
theorem dX5_heap_30 : decode cX5_heap 30 = .ok (.ireturn, 1) := by decide +kernel
theorem dX5_heap_31 : decode cX5_heap 31 = .ok (.aload_n 0, 1) := by decide +kernel
theorem dX5_heap_32 : decode cX5_heap 32 = .ok (.getfield 28, 3) := by decide +kernel
theorem dX5_heap_35 : decode cX5_heap 35 = .ok (.invokevirtual 60, 3) := by decide +kernel
theorem dX5_heap_38 : decode cX5_heap 38 = .ok (.aload_n 0, 1) := by decide +kernel
theorem dX5_heap_39 : decode cX5_heap 39 = .ok (.getfield 12, 3) := by decide +kernel
theorem dX5_heap_42 : decode cX5_heap 42 = .ok (.iload_n 1, 1) := by decide +kernel
theorem dX5_heap_43 : decode cX5_heap 43 = .ok (.iload_n 2, 1) := by decide +kernel
theorem dX5_heap_44 : decode cX5_heap 44 = .ok (.invokevirtual 74, 3) := by decide +kernel
theorem dX5_heap_47 : decode cX5_heap 47 = .ok (.ireturn, 1) := by decide +kernel
set_option maxRecDepth 20000 in
theorem ggX5_stones_X4_hasHeap : GoodIn wsX5_stones wsX4_hasHeap := goodIn_r _ [9, 10, 45, 46, 47, 48, 49, 50, 51] (by decide +kernel) (by decide +kernel)
set_option maxRecDepth 20000 in
theorem gX5_stones_X4_hasHeap : GoodIn wsX5_stones (wsV RX5 77 RX4 yX4_hasHeap wsX4_hasHeap) := goodIn_app (goodIn_of _ (by decide +kernel)) ggX5_stones_X4_hasHeap
set_option maxRecDepth 20000 in
theorem ggX5_stones_X4_hasKind : GoodIn wsX5_stones wsX4_hasKind := goodIn_r _ [14, 15, 45, 46, 47, 48, 49, 50, 51] (by decide +kernel) (by decide +kernel)
set_option maxRecDepth 20000 in
theorem gX5_stones_X4_hasKind : GoodIn wsX5_stones (wsV RX5 81 RX4 yX4_hasKind wsX4_hasKind) := goodIn_app (goodIn_of _ (by decide +kernel)) ggX5_stones_X4_hasKind
set_option maxRecDepth 20000 in
theorem ggX5_stones_X5_within : GoodIn wsX5_stones wsX5_within := goodIn_r _ [19] (by decide +kernel) (by decide +kernel)
set_option maxRecDepth 20000 in
theorem gX5_stones_X5_within : GoodIn wsX5_stones (va_wsS RX5 56 yX5_within wsX5_within) := goodIn_app (goodIn_of _ (by decide +kernel)) ggX5_stones_X5_within
set_option maxRecDepth 20000 in
theorem ggX5_stones_X1_forget : GoodIn wsX5_stones wsX1_forget := goodIn_r _ [24, 25, 26, 27, 33, 34, 35, 36, 37, 38, 39, 40, 41, 42, 43, 44] (by decide +kernel) (by decide +kernel)
set_option maxRecDepth 20000 in
theorem gX5_stones_X1_forget : GoodIn wsX5_stones (wsV RX5 60 RX1 yX1_forget wsX1_forget) := goodIn_app (goodIn_of _ (by decide +kernel)) ggX5_stones_X1_forget
theorem dX5_stones_0 : decode cX5_stones 0 = .ok (.aload_n 0, 1) := by decide +kernel
theorem dX5_stones_1 : decode cX5_stones 1 = .ok (.getfield 28, 3) := by decide +kernel
theorem dX5_stones_4 : decode cX5_stones 4 = .ok (.getfield 48, 3) := by decide +kernel
theorem dX5_stones_7 : decode cX5_stones 7 = .ok (.ifCond .ne 35, 3) := by decide +kernel
theorem dX5_stones_10 : decode cX5_stones 10 = .ok (.aload_n 0, 1) := by decide +kernel
theorem dX5_stones_11 : decode cX5_stones 11 = .ok (.getfield 12, 3) := by decide +kernel
theorem dX5_stones_14 : decode cX5_stones 14 = .ok (.iload_n 1, 1) := by decide +kernel
theorem dX5_stones_15 : decode cX5_stones 15 = .ok (.invokevirtual 77, 3) := by decide +kernel
theorem dX5_stones_18 : decode cX5_stones 18 = .ok (.ifCond .eq 24, 3) := by decide +kernel
theorem dX5_stones_21 : decode cX5_stones 21 = .ok (.aload_n 0, 1) := by decide +kernel
theorem dX5_stones_22 : decode cX5_stones 22 = .ok (.getfield 12, 3) := by decide +kernel
theorem dX5_stones_25 : decode cX5_stones 25 = .ok (.iload_n 2, 1) := by decide +kernel
theorem dX5_stones_26 : decode cX5_stones 26 = .ok (.invokevirtual 81, 3) := by decide +kernel
theorem dX5_stones_29 : decode cX5_stones 29 = .ok (.ifCond .eq 13, 3) := by decide +kernel
theorem dX5_stones_32 : decode cX5_stones 32 = .ok (.iload_n 3, 1) := by decide +kernel
theorem dX5_stones_33 : decode cX5_stones 33 = .ok (.iconst 0, 1) := by decide +kernel
theorem dX5_stones_34 : decode cX5_stones 34 = .ok (.bipush 60, 2) := by decide +kernel
theorem dX5_stones_36 : decode cX5_stones 36 = .ok (.invokestatic 56, 3) := by decide +kernel
theorem dX5_stones_39 : decode cX5_stones 39 = .ok (.ifCond .ne 5, 3) := by decide +kernel
theorem dX5_stones_42 : decode cX5_stones 42 = .ok (.iconst 0, 1) := by decide +kernel
theorem dX5_stones_43 : decode cX5_stones 43 = .ok (.ireturn, 1) := by decide +kernel
theorem dX5_stones_44 : decode cX5_stones 44 = .ok (.aload_n 0, 1) := by decide +kernel
theorem dX5_stones_45 : decode cX5_stones 45 = .ok (.getfield 28, 3) := by decide +kernel
theorem dX5_stones_48 : decode cX5_stones 48 = .ok (.invokevirtual 60, 3) := by decide +kernel
theorem dX5_stones_51 : decode cX5_stones 51 = .ok (.aload_n 0, 1) := by decide +kernel
theorem dX5_stones_52 : decode cX5_stones 52 = .ok (.getfield 12, 3) := by decide +kernel
theorem dX5_stones_55 : decode cX5_stones 55 = .ok (.getfield 84, 3) := by decide +kernel
theorem dX5_stones_58 : decode cX5_stones 58 = .ok (.iload_n 1, 1) := by decide +kernel
theorem dX5_stones_59 : decode cX5_stones 59 = .ok (.aaload, 1) := by decide +kernel
theorem dX5_stones_60 : decode cX5_stones 60 = .ok (.iload_n 2, 1) := by decide +kernel
theorem dX5_stones_61 : decode cX5_stones 61 = .ok (.iload_n 3, 1) := by decide +kernel
theorem dX5_stones_62 : decode cX5_stones 62 = .ok (.iastore, 1) := by decide +kernel
theorem dX5_stones_63 : decode cX5_stones 63 = .ok (.iconst 1, 1) := by decide +kernel
theorem dX5_stones_64 : decode cX5_stones 64 = .ok (.ireturn, 1) := by decide +kernel
set_option maxRecDepth 20000 in
theorem ggX5_wall_X5_onTheMap : GoodIn wsX5_wall wsX5_onTheMap := goodIn_r _ [7, 8, 9, 6, 10] (by decide +kernel) (by decide +kernel)
set_option maxRecDepth 20000 in
theorem gX5_wall_X5_onTheMap : GoodIn wsX5_wall (va_wsS RX5 70 yX5_onTheMap wsX5_onTheMap) := goodIn_app (goodIn_of _ (by decide +kernel)) ggX5_wall_X5_onTheMap
set_option maxRecDepth 20000 in
theorem ggX5_wall_X5_within : GoodIn wsX5_wall wsX5_within := goodIn_r _ [10] (by decide +kernel) (by decide +kernel)
set_option maxRecDepth 20000 in
theorem gX5_wall_X5_within : GoodIn wsX5_wall (va_wsS RX5 56 yX5_within wsX5_within) := goodIn_app (goodIn_of _ (by decide +kernel)) ggX5_wall_X5_within
set_option maxRecDepth 20000 in
theorem ggX5_wall_X1_forget : GoodIn wsX5_wall wsX1_forget := goodIn_r _ [15, 16, 17, 18, 38, 39, 40, 41, 42, 43, 44, 45, 46, 47, 48, 49] (by decide +kernel) (by decide +kernel)
set_option maxRecDepth 20000 in
theorem gX5_wall_X1_forget : GoodIn wsX5_wall (wsV RX5 60 RX1 yX1_forget wsX1_forget) := goodIn_app (goodIn_of _ (by decide +kernel)) ggX5_wall_X1_forget
set_option maxRecDepth 20000 in
theorem ggX5_wall_X3_tell : GoodIn wsX5_wall wsX3_tell := goodIn_r _ [23, 24, 25, 26, 27, 28, 29, 30, 31, 32, 50, 51, 52, 53, 54, 55, 56, 57, 58] (by decide +kernel) (by decide +kernel)
set_option maxRecDepth 20000 in
theorem gX5_wall_X3_tell : GoodIn wsX5_wall (wsV RX5 88 RX3 yX3_tell wsX3_tell) := goodIn_app (goodIn_of _ (by decide +kernel)) ggX5_wall_X3_tell
theorem dX5_wall_0 : decode cX5_wall 0 = .ok (.aload_n 0, 1) := by decide +kernel
theorem dX5_wall_1 : decode cX5_wall 1 = .ok (.getfield 28, 3) := by decide +kernel
theorem dX5_wall_4 : decode cX5_wall 4 = .ok (.getfield 48, 3) := by decide +kernel
theorem dX5_wall_7 : decode cX5_wall 7 = .ok (.ifCond .ne 21, 3) := by decide +kernel
theorem dX5_wall_10 : decode cX5_wall 10 = .ok (.iload_n 1, 1) := by decide +kernel
theorem dX5_wall_11 : decode cX5_wall 11 = .ok (.iload_n 2, 1) := by decide +kernel
theorem dX5_wall_12 : decode cX5_wall 12 = .ok (.invokestatic 70, 3) := by decide +kernel
theorem dX5_wall_15 : decode cX5_wall 15 = .ok (.ifCond .eq 13, 3) := by decide +kernel
theorem dX5_wall_18 : decode cX5_wall 18 = .ok (.iload_n 3, 1) := by decide +kernel
theorem dX5_wall_19 : decode cX5_wall 19 = .ok (.iconst 2, 1) := by decide +kernel
theorem dX5_wall_20 : decode cX5_wall 20 = .ok (.bipush 24, 2) := by decide +kernel
theorem dX5_wall_22 : decode cX5_wall 22 = .ok (.invokestatic 56, 3) := by decide +kernel
theorem dX5_wall_25 : decode cX5_wall 25 = .ok (.ifCond .ne 5, 3) := by decide +kernel
theorem dX5_wall_28 : decode cX5_wall 28 = .ok (.iconst 0, 1) := by decide +kernel
theorem dX5_wall_29 : decode cX5_wall 29 = .ok (.ireturn, 1) := by decide +kernel
theorem dX5_wall_30 : decode cX5_wall 30 = .ok (.iload 4, 2) := by decide +kernel
theorem dX5_wall_32 : decode cX5_wall 32 = .ok (.iconst 1, 1) := by decide +kernel
theorem dX5_wall_33 : decode cX5_wall 33 = .ok (.bipush 6, 2) := by decide +kernel
theorem dX5_wall_35 : decode cX5_wall 35 = .ok (.invokestatic 56, 3) := by decide +kernel
theorem dX5_wall_38 : decode cX5_wall 38 = .ok (.ifCond .eq 23, 3) := by decide +kernel
theorem dX5_wall_41 : decode cX5_wall 41 = .ok (.iload 5, 2) := by decide +kernel
theorem dX5_wall_43 : decode cX5_wall 43 = .ok (.iconst 1, 1) := by decide +kernel
theorem dX5_wall_44 : decode cX5_wall 44 = .ok (.iconst 4, 1) := by decide +kernel
theorem dX5_wall_45 : decode cX5_wall 45 = .ok (.invokestatic 56, 3) := by decide +kernel
theorem dX5_wall_48 : decode cX5_wall 48 = .ok (.ifCond .eq 13, 3) := by decide +kernel
theorem dX5_wall_51 : decode cX5_wall 51 = .ok (.iload 6, 2) := by decide +kernel
theorem dX5_wall_53 : decode cX5_wall 53 = .ok (.iconst 0, 1) := by decide +kernel
theorem dX5_wall_54 : decode cX5_wall 54 = .ok (.iconst 1, 1) := by decide +kernel
theorem dX5_wall_55 : decode cX5_wall 55 = .ok (.invokestatic 56, 3) := by decide +kernel
theorem dX5_wall_58 : decode cX5_wall 58 = .ok (.ifCond .ne 5, 3) := by decide +kernel
theorem dX5_wall_61 : decode cX5_wall 61 = .ok (.iconst 0, 1) := by decide +kernel
theorem dX5_wall_62 : decode cX5_wall 62 = .ok (.ireturn, 1) := by decide +kernel
theorem dX5_wall_63 : decode cX5_wall 63 = .ok (.aload_n 0, 1) := by decide +kernel
theorem dX5_wall_64 : decode cX5_wall 64 = .ok (.getfield 28, 3) := by decide +kernel
theorem dX5_wall_67 : decode cX5_wall 67 = .ok (.invokevirtual 60, 3) := by decide +kernel
theorem dX5_wall_70 : decode cX5_wall 70 = .ok (.aload_n 0, 1) := by decide +kernel
theorem dX5_wall_71 : decode cX5_wall 71 = .ok (.getfield 19, 3) := by decide +kernel
theorem dX5_wall_74 : decode cX5_wall 74 = .ok (.iload_n 1, 1) := by decide +kernel
theorem dX5_wall_75 : decode cX5_wall 75 = .ok (.iload_n 2, 1) := by decide +kernel
theorem dX5_wall_76 : decode cX5_wall 76 = .ok (.iload_n 3, 1) := by decide +kernel
theorem dX5_wall_77 : decode cX5_wall 77 = .ok (.iload 4, 2) := by decide +kernel
theorem dX5_wall_79 : decode cX5_wall 79 = .ok (.iload 5, 2) := by decide +kernel
theorem dX5_wall_81 : decode cX5_wall 81 = .ok (.iload 6, 2) := by decide +kernel
theorem dX5_wall_83 : decode cX5_wall 83 = .ok (.invokevirtual 88, 3) := by decide +kernel
theorem dX5_wall_86 : decode cX5_wall 86 = .ok (.iconst 1, 1) := by decide +kernel
theorem dX5_wall_87 : decode cX5_wall 87 = .ok (.ireturn, 1) := by decide +kernel
set_option maxRecDepth 20000 in
theorem ggX5_through_X5_within : GoodIn wsX5_through wsX5_within := goodIn_r _ [11] (by decide +kernel) (by decide +kernel)
set_option maxRecDepth 20000 in
theorem gX5_through_X5_within : GoodIn wsX5_through (va_wsS RX5 56 yX5_within wsX5_within) := goodIn_app (goodIn_of _ (by decide +kernel)) ggX5_through_X5_within
set_option maxRecDepth 20000 in
theorem ggX5_through_X1_forget : GoodIn wsX5_through wsX1_forget := goodIn_r _ [16, 17, 18, 19, 34, 35, 36, 37, 38, 39, 40, 41, 42, 43, 44, 45] (by decide +kernel) (by decide +kernel)
set_option maxRecDepth 20000 in
theorem gX5_through_X1_forget : GoodIn wsX5_through (wsV RX5 60 RX1 yX1_forget wsX1_forget) := goodIn_app (goodIn_of _ (by decide +kernel)) ggX5_through_X1_forget
theorem dX5_through_0 : decode cX5_through 0 = .ok (.aload_n 0, 1) := by decide +kernel
theorem dX5_through_1 : decode cX5_through 1 = .ok (.getfield 19, 3) := by decide +kernel
theorem dX5_through_4 : decode cX5_through 4 = .ok (.getfield 92, 3) := by decide +kernel
theorem dX5_through_7 : decode cX5_through 7 = .ok (.ifCond .eq 13, 3) := by decide +kernel
theorem dX5_through_10 : decode cX5_through 10 = .ok (.aload_n 0, 1) := by decide +kernel
theorem dX5_through_11 : decode cX5_through 11 = .ok (.getfield 28, 3) := by decide +kernel
theorem dX5_through_14 : decode cX5_through 14 = .ok (.getfield 48, 3) := by decide +kernel
theorem dX5_through_17 : decode cX5_through 17 = .ok (.ifCond .eq 5, 3) := by decide +kernel
theorem dX5_through_20 : decode cX5_through 20 = .ok (.iconst 0, 1) := by decide +kernel
theorem dX5_through_21 : decode cX5_through 21 = .ok (.ireturn, 1) := by decide +kernel
theorem dX5_through_22 : decode cX5_through 22 = .ok (.iload_n 1, 1) := by decide +kernel
theorem dX5_through_23 : decode cX5_through 23 = .ok (.iconst 0, 1) := by decide +kernel
theorem dX5_through_24 : decode cX5_through 24 = .ok (.iconst 1, 1) := by decide +kernel
theorem dX5_through_25 : decode cX5_through 25 = .ok (.aload_n 0, 1) := by decide +kernel
theorem dX5_through_26 : decode cX5_through 26 = .ok (.getfield 19, 3) := by decide +kernel
theorem dX5_through_29 : decode cX5_through 29 = .ok (.getfield 95, 3) := by decide +kernel
theorem dX5_through_32 : decode cX5_through 32 = .ok (.ishl, 1) := by decide +kernel
theorem dX5_through_33 : decode cX5_through 33 = .ok (.iconst 1, 1) := by decide +kernel
theorem dX5_through_34 : decode cX5_through 34 = .ok (.isub, 1) := by decide +kernel
theorem dX5_through_35 : decode cX5_through 35 = .ok (.invokestatic 56, 3) := by decide +kernel
theorem dX5_through_38 : decode cX5_through 38 = .ok (.ifCond .eq 12, 3) := by decide +kernel
theorem dX5_through_41 : decode cX5_through 41 = .ok (.iload_n 2, 1) := by decide +kernel
theorem dX5_through_42 : decode cX5_through 42 = .ok (.iconst 0, 1) := by decide +kernel
theorem dX5_through_43 : decode cX5_through 43 = .ok (.iconst 3, 1) := by decide +kernel
theorem dX5_through_44 : decode cX5_through 44 = .ok (.invokestatic 56, 3) := by decide +kernel
theorem dX5_through_47 : decode cX5_through 47 = .ok (.ifCond .ne 5, 3) := by decide +kernel
theorem dX5_through_50 : decode cX5_through 50 = .ok (.iconst 0, 1) := by decide +kernel
theorem dX5_through_51 : decode cX5_through 51 = .ok (.ireturn, 1) := by decide +kernel
theorem dX5_through_52 : decode cX5_through 52 = .ok (.aload_n 0, 1) := by decide +kernel
theorem dX5_through_53 : decode cX5_through 53 = .ok (.getfield 28, 3) := by decide +kernel
theorem dX5_through_56 : decode cX5_through 56 = .ok (.invokevirtual 60, 3) := by decide +kernel
theorem dX5_through_59 : decode cX5_through 59 = .ok (.aload_n 0, 1) := by decide +kernel
theorem dX5_through_60 : decode cX5_through 60 = .ok (.getfield 19, 3) := by decide +kernel
theorem dX5_through_63 : decode cX5_through 63 = .ok (.iload_n 1, 1) := by decide +kernel
theorem dX5_through_64 : decode cX5_through 64 = .ok (.putfield 98, 3) := by decide +kernel
theorem dX5_through_67 : decode cX5_through 67 = .ok (.aload_n 0, 1) := by decide +kernel
theorem dX5_through_68 : decode cX5_through 68 = .ok (.getfield 19, 3) := by decide +kernel
theorem dX5_through_71 : decode cX5_through 71 = .ok (.iload_n 2, 1) := by decide +kernel
theorem dX5_through_72 : decode cX5_through 72 = .ok (.putfield 101, 3) := by decide +kernel
theorem dX5_through_75 : decode cX5_through 75 = .ok (.iconst 1, 1) := by decide +kernel
theorem dX5_through_76 : decode cX5_through 76 = .ok (.ireturn, 1) := by decide +kernel
set_option maxRecDepth 20000 in
theorem ggX5_plan_X2_firstWhole : GoodIn wsX5_plan wsX2_firstWhole := goodIn_r _ [11, 12, 13, 14, 15, 16, 17, 18, 19, 20, 21, 22, 23, 10, 24, 25, 26, 27, 28, 29, 30, 31, 32, 33, 34, 35, 36, 37, 38, 39, 40, 41, 42, 43, 44, 45, 46, 47, 48, 49, 50, 51, 52, 53, 54, 55, 56, 57, 58, 59, 60, 61, 62, 63, 64, 65, 66, 67, 68, 69, 70, 71, 72, 73, 74, 75, 76, 77, 78, 79, 80, 81, 82, 83, 84, 85, 86, 87, 88, 89, 90, 91, 92, 93, 94, 95, 96, 97, 98, 99, 100, 101, 102, 103, 104, 105, 106, 107, 108, 109, 110, 111, 112, 113, 154, 155, 156, 157, 158, 159, 160, 161, 142, 143, 144, 145, 146, 147, 148, 149, 150, 151, 152, 153, 133, 134, 135, 136, 137, 138, 139, 140, 141, 162, 163, 164, 165, 166, 167, 168] (by decide +kernel) (by decide +kernel)
set_option maxRecDepth 20000 in
theorem gX5_plan_X2_firstWhole : GoodIn wsX5_plan (wsV RX5 104 RX2 yX2_firstWhole wsX2_firstWhole) := goodIn_app (goodIn_of _ (by decide +kernel)) ggX5_plan_X2_firstWhole
set_option maxRecDepth 20000 in
theorem ggX5_plan_X1_forget : GoodIn wsX5_plan wsX1_forget := goodIn_r _ [33, 34, 35, 36, 142, 143, 144, 145, 146, 147, 148, 149, 150, 151, 152, 153] (by decide +kernel) (by decide +kernel)
set_option maxRecDepth 20000 in
theorem gX5_plan_X1_forget : GoodIn wsX5_plan (wsV RX5 60 RX1 yX1_forget wsX1_forget) := goodIn_app (goodIn_of _ (by decide +kernel)) ggX5_plan_X1_forget
set_option maxRecDepth 20000 in
theorem ggX5_plan_X0_rememberHeaps : GoodIn wsX5_plan wsX0_rememberHeaps := goodIn_r _ [119, 120, 121, 122, 123, 124, 125, 126, 127, 169, 170, 171, 172, 173, 174, 175, 176, 177, 178, 162, 163, 164, 165, 166, 167, 168] (by decide +kernel) (by decide +kernel)
set_option maxRecDepth 20000 in
theorem gX5_plan_X0_rememberHeaps : GoodIn wsX5_plan (wsV RX5 108 RX0 yX0_rememberHeaps wsX0_rememberHeaps) := goodIn_app (goodIn_of _ (by decide +kernel)) ggX5_plan_X0_rememberHeaps
theorem dX5_plan_0 : decode cX5_plan 0 = .ok (.aload_n 0, 1) := by decide +kernel
theorem dX5_plan_1 : decode cX5_plan 1 = .ok (.getfield 19, 3) := by decide +kernel
theorem dX5_plan_4 : decode cX5_plan 4 = .ok (.getfield 92, 3) := by decide +kernel
theorem dX5_plan_7 : decode cX5_plan 7 = .ok (.ifCond .eq 13, 3) := by decide +kernel
theorem dX5_plan_10 : decode cX5_plan 10 = .ok (.aload_n 0, 1) := by decide +kernel
theorem dX5_plan_11 : decode cX5_plan 11 = .ok (.getfield 28, 3) := by decide +kernel
theorem dX5_plan_14 : decode cX5_plan 14 = .ok (.getfield 48, 3) := by decide +kernel
theorem dX5_plan_17 : decode cX5_plan 17 = .ok (.ifCond .eq 5, 3) := by decide +kernel
theorem dX5_plan_20 : decode cX5_plan 20 = .ok (.iconst (-1), 1) := by decide +kernel
theorem dX5_plan_21 : decode cX5_plan 21 = .ok (.ireturn, 1) := by decide +kernel
theorem dX5_plan_22 : decode cX5_plan 22 = .ok (.aload_n 0, 1) := by decide +kernel
theorem dX5_plan_23 : decode cX5_plan 23 = .ok (.getfield 37, 3) := by decide +kernel
theorem dX5_plan_26 : decode cX5_plan 26 = .ok (.invokevirtual 104, 3) := by decide +kernel
theorem dX5_plan_29 : decode cX5_plan 29 = .ok (.istore_n 1, 1) := by decide +kernel
theorem dX5_plan_30 : decode cX5_plan 30 = .ok (.iload_n 1, 1) := by decide +kernel
theorem dX5_plan_31 : decode cX5_plan 31 = .ok (.ifCond .gt 13, 3) := by decide +kernel
theorem dX5_plan_34 : decode cX5_plan 34 = .ok (.aload_n 0, 1) := by decide +kernel
theorem dX5_plan_35 : decode cX5_plan 35 = .ok (.getfield 28, 3) := by decide +kernel
theorem dX5_plan_38 : decode cX5_plan 38 = .ok (.invokevirtual 60, 3) := by decide +kernel
theorem dX5_plan_41 : decode cX5_plan 41 = .ok (.goto 10, 3) := by decide +kernel
theorem dX5_plan_44 : decode cX5_plan 44 = .ok (.aload_n 0, 1) := by decide +kernel
theorem dX5_plan_45 : decode cX5_plan 45 = .ok (.getfield 44, 3) := by decide +kernel
theorem dX5_plan_48 : decode cX5_plan 48 = .ok (.invokevirtual 108, 3) := by decide +kernel
theorem dX5_plan_51 : decode cX5_plan 51 = .ok (.iload_n 1, 1) := by decide +kernel
theorem dX5_plan_52 : decode cX5_plan 52 = .ok (.ireturn, 1) := by decide +kernel
set_option maxRecDepth 20000 in
theorem ggX5_stone_X1_hearting : GoodIn wsX5_stone wsX1_hearting := goodIn_r _ [17, 18, 19, 20, 21, 22, 23, 24, 25, 26, 27, 28, 29, 30, 31, 32, 33, 34, 35, 51, 52, 53, 54, 55, 56, 57, 58, 59, 60, 61, 62, 63, 64, 65, 66, 67, 68, 69, 70, 71, 72, 73, 74, 75, 76, 77, 78] (by decide +kernel) (by decide +kernel)
set_option maxRecDepth 20000 in
theorem gX5_stone_X1_hearting : GoodIn wsX5_stone (wsV RX5 129 RX1 yX1_hearting wsX1_hearting) := goodIn_app (goodIn_of _ (by decide +kernel)) ggX5_stone_X1_hearting
set_option maxRecDepth 20000 in
theorem ggX5_stone_X1_isThroughStone : GoodIn wsX5_stone wsX1_isThroughStone := goodIn_r _ [39, 19, 23, 18, 21, 22, 28, 29, 30, 31, 32, 33, 34, 35, 25, 26, 27, 51, 52, 53, 54, 55, 56, 57, 58, 59, 60, 61, 62, 63, 64, 65, 66, 67, 68, 69, 70, 71, 72, 73, 74, 75, 76, 77, 78] (by decide +kernel) (by decide +kernel)
set_option maxRecDepth 20000 in
theorem gX5_stone_X1_isThroughStone : GoodIn wsX5_stone (wsV RX5 133 RX1 yX1_isThroughStone wsX1_isThroughStone) := goodIn_app (goodIn_of _ (by decide +kernel)) ggX5_stone_X1_isThroughStone
set_option maxRecDepth 20000 in
theorem ggX5_stone_X1_isStanding : GoodIn wsX5_stone wsX1_isStanding := goodIn_r _ [43, 44, 45, 51, 52, 53, 54, 55, 56, 57, 58, 59, 60, 61, 62] (by decide +kernel) (by decide +kernel)
set_option maxRecDepth 20000 in
theorem gX5_stone_X1_isStanding : GoodIn wsX5_stone (wsV RX5 139 RX1 yX1_isStanding wsX1_isStanding) := goodIn_app (goodIn_of _ (by decide +kernel)) ggX5_stone_X1_isStanding
theorem dX5_stone_0 : decode cX5_stone 0 = .ok (.iload_n 1, 1) := by decide +kernel
theorem dX5_stone_1 : decode cX5_stone 1 = .ok (.ifCond .lt 14, 3) := by decide +kernel
theorem dX5_stone_4 : decode cX5_stone 4 = .ok (.iload_n 1, 1) := by decide +kernel
theorem dX5_stone_5 : decode cX5_stone 5 = .ok (.aload_n 0, 1) := by decide +kernel
theorem dX5_stone_6 : decode cX5_stone 6 = .ok (.getfield 28, 3) := by decide +kernel
theorem dX5_stone_9 : decode cX5_stone 9 = .ok (.getfield 111, 3) := by decide +kernel
theorem dX5_stone_12 : decode cX5_stone 12 = .ok (.if_icmp .lt 13, 3) := by decide +kernel
theorem dX5_stone_15 : decode cX5_stone 15 = .ok (.new 114, 3) := by decide +kernel
theorem dX5_stone_18 : decode cX5_stone 18 = .ok (.dup, 1) := by decide +kernel
theorem dX5_stone_19 : decode cX5_stone 19 = .ok (.ldc 116, 2) := by decide +kernel
theorem dX5_stone_21 : decode cX5_stone 21 = .ok (.invokespecial 118, 3) := by decide +kernel
theorem dX5_stone_24 : decode cX5_stone 24 = .ok (.athrow, 1) := by decide +kernel
theorem dX5_stone_25 : decode cX5_stone 25 = .ok (.iload_n 2, 1) := by decide +kernel
theorem dX5_stone_26 : decode cX5_stone 26 = .ok (.tableswitch 167 0 7 #[46, 56, 66, 76, 85, 102, 126, 143], 46) := by decide +kernel
theorem dX5_stone_72 : decode cX5_stone 72 = .ok (.aload_n 0, 1) := by decide +kernel
theorem dX5_stone_73 : decode cX5_stone 73 = .ok (.getfield 28, 3) := by decide +kernel
theorem dX5_stone_76 : decode cX5_stone 76 = .ok (.getfield 121, 3) := by decide +kernel
theorem dX5_stone_79 : decode cX5_stone 79 = .ok (.iload_n 1, 1) := by decide +kernel
theorem dX5_stone_80 : decode cX5_stone 80 = .ok (.iaload, 1) := by decide +kernel
theorem dX5_stone_81 : decode cX5_stone 81 = .ok (.ireturn, 1) := by decide +kernel
theorem dX5_stone_82 : decode cX5_stone 82 = .ok (.aload_n 0, 1) := by decide +kernel
theorem dX5_stone_83 : decode cX5_stone 83 = .ok (.getfield 28, 3) := by decide +kernel
theorem dX5_stone_86 : decode cX5_stone 86 = .ok (.getfield 124, 3) := by decide +kernel
theorem dX5_stone_89 : decode cX5_stone 89 = .ok (.iload_n 1, 1) := by decide +kernel
theorem dX5_stone_90 : decode cX5_stone 90 = .ok (.iaload, 1) := by decide +kernel
theorem dX5_stone_91 : decode cX5_stone 91 = .ok (.ireturn, 1) := by decide +kernel
theorem dX5_stone_92 : decode cX5_stone 92 = .ok (.aload_n 0, 1) := by decide +kernel
theorem dX5_stone_93 : decode cX5_stone 93 = .ok (.getfield 28, 3) := by decide +kernel
theorem dX5_stone_96 : decode cX5_stone 96 = .ok (.getfield 126, 3) := by decide +kernel
theorem dX5_stone_99 : decode cX5_stone 99 = .ok (.iload_n 1, 1) := by decide +kernel
theorem dX5_stone_100 : decode cX5_stone 100 = .ok (.iaload, 1) := by decide +kernel
theorem dX5_stone_101 : decode cX5_stone 101 = .ok (.ireturn, 1) := by decide +kernel
theorem dX5_stone_102 : decode cX5_stone 102 = .ok (.aload_n 0, 1) := by decide +kernel
theorem dX5_stone_103 : decode cX5_stone 103 = .ok (.getfield 28, 3) := by decide +kernel
theorem dX5_stone_106 : decode cX5_stone 106 = .ok (.iload_n 1, 1) := by decide +kernel
theorem dX5_stone_107 : decode cX5_stone 107 = .ok (.invokevirtual 129, 3) := by decide +kernel
theorem dX5_stone_110 : decode cX5_stone 110 = .ok (.ireturn, 1) := by decide +kernel
theorem dX5_stone_111 : decode cX5_stone 111 = .ok (.aload_n 0, 1) := by decide +kernel
theorem dX5_stone_112 : decode cX5_stone 112 = .ok (.getfield 28, 3) := by decide +kernel
theorem dX5_stone_115 : decode cX5_stone 115 = .ok (.iload_n 1, 1) := by decide +kernel
theorem dX5_stone_116 : decode cX5_stone 116 = .ok (.invokevirtual 133, 3) := by decide +kernel
theorem dX5_stone_119 : decode cX5_stone 119 = .ok (.ifCond .eq 7, 3) := by decide +kernel
theorem dX5_stone_122 : decode cX5_stone 122 = .ok (.iconst 1, 1) := by decide +kernel
theorem dX5_stone_123 : decode cX5_stone 123 = .ok (.goto 4, 3) := by decide +kernel
theorem dX5_stone_126 : decode cX5_stone 126 = .ok (.iconst 0, 1) := by decide +kernel
theorem dX5_stone_127 : decode cX5_stone 127 = .ok (.ireturn, 1) := by decide +kernel
theorem dX5_stone_128 : decode cX5_stone 128 = .ok (.aload_n 0, 1) := by decide +kernel
theorem dX5_stone_129 : decode cX5_stone 129 = .ok (.getfield 28, 3) := by decide +kernel
theorem dX5_stone_132 : decode cX5_stone 132 = .ok (.getfield 48, 3) := by decide +kernel
theorem dX5_stone_135 : decode cX5_stone 135 = .ok (.ifCond .eq 15, 3) := by decide +kernel
theorem dX5_stone_138 : decode cX5_stone 138 = .ok (.aload_n 0, 1) := by decide +kernel
theorem dX5_stone_139 : decode cX5_stone 139 = .ok (.getfield 28, 3) := by decide +kernel
theorem dX5_stone_142 : decode cX5_stone 142 = .ok (.getfield 136, 3) := by decide +kernel
theorem dX5_stone_145 : decode cX5_stone 145 = .ok (.iload_n 1, 1) := by decide +kernel
theorem dX5_stone_146 : decode cX5_stone 146 = .ok (.iaload, 1) := by decide +kernel
theorem dX5_stone_147 : decode cX5_stone 147 = .ok (.goto 4, 3) := by decide +kernel
theorem dX5_stone_150 : decode cX5_stone 150 = .ok (.iconst 0, 1) := by decide +kernel
theorem dX5_stone_151 : decode cX5_stone 151 = .ok (.ireturn, 1) := by decide +kernel
theorem dX5_stone_152 : decode cX5_stone 152 = .ok (.aload_n 0, 1) := by decide +kernel
theorem dX5_stone_153 : decode cX5_stone 153 = .ok (.getfield 28, 3) := by decide +kernel
theorem dX5_stone_156 : decode cX5_stone 156 = .ok (.iload_n 1, 1) := by decide +kernel
theorem dX5_stone_157 : decode cX5_stone 157 = .ok (.invokevirtual 139, 3) := by decide +kernel
theorem dX5_stone_160 : decode cX5_stone 160 = .ok (.ifCond .eq 7, 3) := by decide +kernel
theorem dX5_stone_163 : decode cX5_stone 163 = .ok (.iconst 1, 1) := by decide +kernel
theorem dX5_stone_164 : decode cX5_stone 164 = .ok (.goto 4, 3) := by decide +kernel
theorem dX5_stone_167 : decode cX5_stone 167 = .ok (.iconst 0, 1) := by decide +kernel
theorem dX5_stone_168 : decode cX5_stone 168 = .ok (.ireturn, 1) := by decide +kernel
theorem dX5_stone_169 : decode cX5_stone 169 = .ok (.aload_n 0, 1) := by decide +kernel
theorem dX5_stone_170 : decode cX5_stone 170 = .ok (.getfield 28, 3) := by decide +kernel
theorem dX5_stone_173 : decode cX5_stone 173 = .ok (.getfield 48, 3) := by decide +kernel
theorem dX5_stone_176 : decode cX5_stone 176 = .ok (.ifCond .eq 15, 3) := by decide +kernel
theorem dX5_stone_179 : decode cX5_stone 179 = .ok (.aload_n 0, 1) := by decide +kernel
theorem dX5_stone_180 : decode cX5_stone 180 = .ok (.getfield 28, 3) := by decide +kernel
theorem dX5_stone_183 : decode cX5_stone 183 = .ok (.getfield 142, 3) := by decide +kernel
theorem dX5_stone_186 : decode cX5_stone 186 = .ok (.iload_n 1, 1) := by decide +kernel
theorem dX5_stone_187 : decode cX5_stone 187 = .ok (.iaload, 1) := by decide +kernel
theorem dX5_stone_188 : decode cX5_stone 188 = .ok (.goto 4, 3) := by decide +kernel
theorem dX5_stone_191 : decode cX5_stone 191 = .ok (.iconst (-1), 1) := by decide +kernel
theorem dX5_stone_192 : decode cX5_stone 192 = .ok (.ireturn, 1) := by decide +kernel
theorem dX5_stone_193 : decode cX5_stone 193 = .ok (.new 145, 3) := by decide +kernel
theorem dX5_stone_196 : decode cX5_stone 196 = .ok (.dup, 1) := by decide +kernel
theorem dX5_stone_197 : decode cX5_stone 197 = .ok (.ldc 147, 2) := by decide +kernel
theorem dX5_stone_199 : decode cX5_stone 199 = .ok (.invokespecial 149, 3) := by decide +kernel
theorem dX5_stone_202 : decode cX5_stone 202 = .ok (.athrow, 1) := by decide +kernel
set_option maxRecDepth 20000 in
theorem ggX5_over_X1_end : GoodIn wsX5_over wsX1_end := goodIn_r _ [9, 10, 11, 12, 13, 19, 20, 21, 22, 23, 24, 25, 26, 27, 28, 29, 30, 31, 32, 33, 34, 35, 36, 37] (by decide +kernel) (by decide +kernel)
set_option maxRecDepth 20000 in
theorem gX5_over_X1_end : GoodIn wsX5_over (wsV RX5 150 RX1 yX1_end wsX1_end) := goodIn_app (goodIn_of _ (by decide +kernel)) ggX5_over_X1_end
theorem dX5_over_0 : decode cX5_over 0 = .ok (.iconst 0, 1) := by decide +kernel
theorem dX5_over_1 : decode cX5_over 1 = .ok (.istore_n 3, 1) := by decide +kernel
theorem dX5_over_2 : decode cX5_over 2 = .ok (.iload_n 3, 1) := by decide +kernel
theorem dX5_over_3 : decode cX5_over 3 = .ok (.aload_n 0, 1) := by decide +kernel
theorem dX5_over_4 : decode cX5_over 4 = .ok (.getfield 28, 3) := by decide +kernel
theorem dX5_over_7 : decode cX5_over 7 = .ok (.getfield 111, 3) := by decide +kernel
theorem dX5_over_10 : decode cX5_over 10 = .ok (.if_icmp .ge 49, 3) := by decide +kernel
theorem dX5_over_13 : decode cX5_over 13 = .ok (.aload_n 0, 1) := by decide +kernel
theorem dX5_over_14 : decode cX5_over 14 = .ok (.getfield 28, 3) := by decide +kernel
theorem dX5_over_17 : decode cX5_over 17 = .ok (.getfield 124, 3) := by decide +kernel
theorem dX5_over_20 : decode cX5_over 20 = .ok (.iload_n 3, 1) := by decide +kernel
theorem dX5_over_21 : decode cX5_over 21 = .ok (.iaload, 1) := by decide +kernel
theorem dX5_over_22 : decode cX5_over 22 = .ok (.iload_n 1, 1) := by decide +kernel
theorem dX5_over_23 : decode cX5_over 23 = .ok (.if_icmp .ne 30, 3) := by decide +kernel
theorem dX5_over_26 : decode cX5_over 26 = .ok (.iload_n 2, 1) := by decide +kernel
theorem dX5_over_27 : decode cX5_over 27 = .ok (.aload_n 0, 1) := by decide +kernel
theorem dX5_over_28 : decode cX5_over 28 = .ok (.getfield 28, 3) := by decide +kernel
theorem dX5_over_31 : decode cX5_over 31 = .ok (.getfield 126, 3) := by decide +kernel
theorem dX5_over_34 : decode cX5_over 34 = .ok (.iload_n 3, 1) := by decide +kernel
theorem dX5_over_35 : decode cX5_over 35 = .ok (.iaload, 1) := by decide +kernel
theorem dX5_over_36 : decode cX5_over 36 = .ok (.if_icmp .lt 17, 3) := by decide +kernel
theorem dX5_over_39 : decode cX5_over 39 = .ok (.iload_n 2, 1) := by decide +kernel
theorem dX5_over_40 : decode cX5_over 40 = .ok (.aload_n 0, 1) := by decide +kernel
theorem dX5_over_41 : decode cX5_over 41 = .ok (.getfield 28, 3) := by decide +kernel
theorem dX5_over_44 : decode cX5_over 44 = .ok (.iload_n 3, 1) := by decide +kernel
theorem dX5_over_45 : decode cX5_over 45 = .ok (.invokevirtual 150, 3) := by decide +kernel
theorem dX5_over_48 : decode cX5_over 48 = .ok (.if_icmp .ge 5, 3) := by decide +kernel
theorem dX5_over_51 : decode cX5_over 51 = .ok (.iload_n 3, 1) := by decide +kernel
theorem dX5_over_52 : decode cX5_over 52 = .ok (.ireturn, 1) := by decide +kernel
theorem dX5_over_53 : decode cX5_over 53 = .ok (.iinc 3 1, 3) := by decide +kernel
theorem dX5_over_56 : decode cX5_over 56 = .ok (.goto (-54), 3) := by decide +kernel
theorem dX5_over_59 : decode cX5_over 59 = .ok (.iconst (-1), 1) := by decide +kernel
theorem dX5_over_60 : decode cX5_over 60 = .ok (.ireturn, 1) := by decide +kernel
set_option maxRecDepth 20000 in
theorem ggX5_least_X0_leastToil : GoodIn wsX5_least wsX0_leastToil := goodIn_r _ [9, 10, 11, 12, 13, 14, 8, 15, 16, 17, 18, 19, 20, 21, 22, 23, 24, 25, 26, 27, 28, 29, 30, 31, 32, 33, 34, 35, 36, 37, 38, 39, 40, 41, 42, 43, 44, 45, 46, 47, 48, 49, 50, 51, 52, 53, 54, 55, 56, 57, 58, 59, 60, 61, 62, 63, 64, 65, 66, 67, 68, 69, 70, 71, 72, 73, 74, 75, 76, 77, 78, 79, 97, 98, 99, 100, 101, 102, 103, 104, 105, 106, 107, 108, 109, 110, 111, 112, 113, 85, 86, 87, 88, 89, 90, 91, 92, 93, 94, 95, 96, 114, 115, 116, 117, 118, 119, 120, 121, 122] (by decide +kernel) (by decide +kernel)
set_option maxRecDepth 20000 in
theorem gX5_least_X0_leastToil : GoodIn wsX5_least (wsV RX5 155 RX0 yX0_leastToil wsX0_leastToil) := goodIn_app (goodIn_of _ (by decide +kernel)) ggX5_least_X0_leastToil
theorem dX5_least_0 : decode cX5_least 0 = .ok (.aload_n 0, 1) := by decide +kernel
theorem dX5_least_1 : decode cX5_least 1 = .ok (.getfield 28, 3) := by decide +kernel
theorem dX5_least_4 : decode cX5_least 4 = .ok (.getfield 111, 3) := by decide +kernel
theorem dX5_least_7 : decode cX5_least 7 = .ok (.ifCond .ne 9, 3) := by decide +kernel
theorem dX5_least_10 : decode cX5_least 10 = .ok (.ldc2_w 153, 3) := by decide +kernel
theorem dX5_least_13 : decode cX5_least 13 = .ok (.goto 10, 3) := by decide +kernel
theorem dX5_least_16 : decode cX5_least 16 = .ok (.aload_n 0, 1) := by decide +kernel
theorem dX5_least_17 : decode cX5_least 17 = .ok (.getfield 44, 3) := by decide +kernel
theorem dX5_least_20 : decode cX5_least 20 = .ok (.invokevirtual 155, 3) := by decide +kernel
theorem dX5_least_23 : decode cX5_least 23 = .ok (.lreturn, 1) := by decide +kernel
set_option maxRecDepth 20000 in
theorem ggX5_saved_X4_hasHeap : GoodIn wsX5_saved wsX4_hasHeap := goodIn_r _ [10, 11, 108, 109, 110, 111, 112, 113, 114] (by decide +kernel) (by decide +kernel)
set_option maxRecDepth 20000 in
theorem gX5_saved_X4_hasHeap : GoodIn wsX5_saved (wsV RX5 77 RX4 yX4_hasHeap wsX4_hasHeap) := goodIn_app (goodIn_of _ (by decide +kernel)) ggX5_saved_X4_hasHeap
set_option maxRecDepth 20000 in
theorem ggX5_saved_X4_hasKind : GoodIn wsX5_saved wsX4_hasKind := goodIn_r _ [15, 16, 108, 109, 110, 111, 112, 113, 114] (by decide +kernel) (by decide +kernel)
set_option maxRecDepth 20000 in
theorem gX5_saved_X4_hasKind : GoodIn wsX5_saved (wsV RX5 81 RX4 yX4_hasKind wsX4_hasKind) := goodIn_app (goodIn_of _ (by decide +kernel)) ggX5_saved_X4_hasKind
set_option maxRecDepth 20000 in
theorem ggX5_saved_X0_toilSaved : GoodIn wsX5_saved wsX0_toilSaved := goodIn_r _ [21, 22, 23, 24, 20, 25, 26, 27, 28, 29, 30, 31, 32, 33, 34, 35, 36, 37, 38, 39, 40, 41, 42, 43, 44, 45, 46, 47, 48, 49, 50, 51, 52, 53, 54, 55, 56, 57, 58, 59, 60, 61, 62, 63, 64, 65, 66, 67, 68, 69, 70, 71, 72, 73, 74, 75, 76, 77, 78, 79, 80, 81, 82, 83, 84, 85, 86, 87, 88, 89, 90, 115, 116, 117, 118, 119, 120, 121, 122, 123, 124, 108, 109, 110, 111, 112, 113, 114, 96, 97, 98, 99, 100, 101, 102, 103, 104, 105, 106, 107, 125, 126, 127, 128, 129, 130, 131, 132, 133] (by decide +kernel) (by decide +kernel)
set_option maxRecDepth 20000 in
theorem gX5_saved_X0_toilSaved : GoodIn wsX5_saved (wsV RX5 159 RX0 yX0_toilSaved wsX0_toilSaved) := goodIn_app (goodIn_of _ (by decide +kernel)) ggX5_saved_X0_toilSaved
theorem dX5_saved_0 : decode cX5_saved 0 = .ok (.aload_n 0, 1) := by decide +kernel
theorem dX5_saved_1 : decode cX5_saved 1 = .ok (.getfield 28, 3) := by decide +kernel
theorem dX5_saved_4 : decode cX5_saved 4 = .ok (.getfield 111, 3) := by decide +kernel
theorem dX5_saved_7 : decode cX5_saved 7 = .ok (.ifCond .eq 25, 3) := by decide +kernel
theorem dX5_saved_10 : decode cX5_saved 10 = .ok (.aload_n 0, 1) := by decide +kernel
theorem dX5_saved_11 : decode cX5_saved 11 = .ok (.getfield 12, 3) := by decide +kernel
theorem dX5_saved_14 : decode cX5_saved 14 = .ok (.iload_n 1, 1) := by decide +kernel
theorem dX5_saved_15 : decode cX5_saved 15 = .ok (.invokevirtual 77, 3) := by decide +kernel
theorem dX5_saved_18 : decode cX5_saved 18 = .ok (.ifCond .eq 14, 3) := by decide +kernel
theorem dX5_saved_21 : decode cX5_saved 21 = .ok (.aload_n 0, 1) := by decide +kernel
theorem dX5_saved_22 : decode cX5_saved 22 = .ok (.getfield 12, 3) := by decide +kernel
theorem dX5_saved_25 : decode cX5_saved 25 = .ok (.iload_n 2, 1) := by decide +kernel
theorem dX5_saved_26 : decode cX5_saved 26 = .ok (.invokevirtual 81, 3) := by decide +kernel
theorem dX5_saved_29 : decode cX5_saved 29 = .ok (.ifCond .ne 7, 3) := by decide +kernel
theorem dX5_saved_32 : decode cX5_saved 32 = .ok (.ldc2_w 153, 3) := by decide +kernel
theorem dX5_saved_35 : decode cX5_saved 35 = .ok (.lreturn, 1) := by decide +kernel
theorem dX5_saved_36 : decode cX5_saved 36 = .ok (.aload_n 0, 1) := by decide +kernel
theorem dX5_saved_37 : decode cX5_saved 37 = .ok (.getfield 44, 3) := by decide +kernel
theorem dX5_saved_40 : decode cX5_saved 40 = .ok (.iload_n 1, 1) := by decide +kernel
theorem dX5_saved_41 : decode cX5_saved 41 = .ok (.iload_n 2, 1) := by decide +kernel
theorem dX5_saved_42 : decode cX5_saved 42 = .ok (.invokevirtual 159, 3) := by decide +kernel
theorem dX5_saved_45 : decode cX5_saved 45 = .ok (.lreturn, 1) := by decide +kernel
set_option maxRecDepth 20000 in
theorem ggX5_build_X0_carryAll : GoodIn wsX5_build wsX0_carryAll := goodIn_r _ [10, 11, 12, 13, 14, 15, 16, 17, 18, 19, 20, 9, 21, 22, 23, 24, 25, 26, 27, 28, 29, 30, 31, 32, 33, 34, 35, 36, 37, 38, 39, 40, 41, 72, 73, 74, 75, 76, 77, 78, 79, 80, 81, 60, 61, 62, 63, 64, 65, 66, 67, 68, 69, 70, 71, 82, 83, 84, 85, 86, 87, 88, 89, 90, 91, 92, 93, 94, 95, 96, 97] (by decide +kernel) (by decide +kernel)
set_option maxRecDepth 20000 in
theorem gX5_build_X0_carryAll : GoodIn wsX5_build (wsV RX5 163 RX0 yX0_carryAll wsX0_carryAll) := goodIn_app (goodIn_of _ (by decide +kernel)) ggX5_build_X0_carryAll
set_option maxRecDepth 20000 in
theorem ggX5_build_X1_raise : GoodIn wsX5_build wsX1_raise := goodIn_r _ [46, 47, 48, 49, 50, 51, 52, 45, 53, 54, 60, 61, 62, 63, 64, 65, 66, 67, 68, 69, 70, 71] (by decide +kernel) (by decide +kernel)
set_option maxRecDepth 20000 in
theorem gX5_build_X1_raise : GoodIn wsX5_build (wsV RX5 166 RX1 yX1_raise wsX1_raise) := goodIn_app (goodIn_of _ (by decide +kernel)) ggX5_build_X1_raise
theorem dX5_build_0 : decode cX5_build 0 = .ok (.aload_n 0, 1) := by decide +kernel
theorem dX5_build_1 : decode cX5_build 1 = .ok (.getfield 28, 3) := by decide +kernel
theorem dX5_build_4 : decode cX5_build 4 = .ok (.getfield 111, 3) := by decide +kernel
theorem dX5_build_7 : decode cX5_build 7 = .ok (.ifCond .eq 13, 3) := by decide +kernel
theorem dX5_build_10 : decode cX5_build 10 = .ok (.aload_n 0, 1) := by decide +kernel
theorem dX5_build_11 : decode cX5_build 11 = .ok (.getfield 28, 3) := by decide +kernel
theorem dX5_build_14 : decode cX5_build 14 = .ok (.getfield 48, 3) := by decide +kernel
theorem dX5_build_17 : decode cX5_build 17 = .ok (.ifCond .eq 7, 3) := by decide +kernel
theorem dX5_build_20 : decode cX5_build 20 = .ok (.ldc2_w 153, 3) := by decide +kernel
theorem dX5_build_23 : decode cX5_build 23 = .ok (.lreturn, 1) := by decide +kernel
theorem dX5_build_24 : decode cX5_build 24 = .ok (.aload_n 0, 1) := by decide +kernel
theorem dX5_build_25 : decode cX5_build 25 = .ok (.getfield 44, 3) := by decide +kernel
theorem dX5_build_28 : decode cX5_build 28 = .ok (.invokevirtual 163, 3) := by decide +kernel
theorem dX5_build_31 : decode cX5_build 31 = .ok (.lstore_n 1, 1) := by decide +kernel
theorem dX5_build_32 : decode cX5_build 32 = .ok (.aload_n 0, 1) := by decide +kernel
theorem dX5_build_33 : decode cX5_build 33 = .ok (.getfield 28, 3) := by decide +kernel
theorem dX5_build_36 : decode cX5_build 36 = .ok (.invokevirtual 166, 3) := by decide +kernel
theorem dX5_build_39 : decode cX5_build 39 = .ok (.lload_n 1, 1) := by decide +kernel
theorem dX5_build_40 : decode cX5_build 40 = .ok (.lreturn, 1) := by decide +kernel
set_option maxRecDepth 20000 in
theorem ggX5_frost_X5_within : GoodIn wsX5_frost wsX5_within := goodIn_r _ [7] (by decide +kernel) (by decide +kernel)
set_option maxRecDepth 20000 in
theorem gX5_frost_X5_within : GoodIn wsX5_frost (va_wsS RX5 56 yX5_within wsX5_within) := goodIn_app (goodIn_of _ (by decide +kernel)) ggX5_frost_X5_within
set_option maxRecDepth 20000 in
theorem ggX5_frost_X1_loosen : GoodIn wsX5_frost wsX1_loosen := goodIn_r _ [12, 13, 14, 15, 16, 17, 18, 19, 20, 21, 22, 11, 23, 24, 62, 63, 64, 65, 66, 67, 68, 69, 70, 71, 72, 73] (by decide +kernel) (by decide +kernel)
set_option maxRecDepth 20000 in
theorem gX5_frost_X1_loosen : GoodIn wsX5_frost (wsV RX5 172 RX1 yX1_loosen wsX1_loosen) := goodIn_app (goodIn_of _ (by decide +kernel)) ggX5_frost_X1_loosen
set_option maxRecDepth 20000 in
theorem ggX5_frost_X1_letSlip : GoodIn wsX5_frost wsX1_letSlip := goodIn_r _ [28, 29, 13, 14, 15, 24, 30, 31, 32, 33, 34, 35, 36, 11, 37, 38, 39, 40, 41, 42, 43, 44, 45, 46, 47, 48, 49, 50, 51, 52, 53, 54, 55, 56, 62, 63, 64, 65, 66, 67, 68, 69, 70, 71, 72, 73, 74, 75, 76, 77, 78, 79, 80] (by decide +kernel) (by decide +kernel)
set_option maxRecDepth 20000 in
theorem gX5_frost_X1_letSlip : GoodIn wsX5_frost (wsV RX5 176 RX1 yX1_letSlip wsX1_letSlip) := goodIn_app (goodIn_of _ (by decide +kernel)) ggX5_frost_X1_letSlip
theorem dX5_frost_0 : decode cX5_frost 0 = .ok (.aload_n 0, 1) := by decide +kernel
theorem dX5_frost_1 : decode cX5_frost 1 = .ok (.getfield 28, 3) := by decide +kernel
theorem dX5_frost_4 : decode cX5_frost 4 = .ok (.getfield 48, 3) := by decide +kernel
theorem dX5_frost_7 : decode cX5_frost 7 = .ok (.ifCond .eq 13, 3) := by decide +kernel
theorem dX5_frost_10 : decode cX5_frost 10 = .ok (.iload_n 1, 1) := by decide +kernel
theorem dX5_frost_11 : decode cX5_frost 11 = .ok (.iconst 0, 1) := by decide +kernel
theorem dX5_frost_12 : decode cX5_frost 12 = .ok (.bipush 50, 2) := by decide +kernel
theorem dX5_frost_14 : decode cX5_frost 14 = .ok (.invokestatic 56, 3) := by decide +kernel
theorem dX5_frost_17 : decode cX5_frost 17 = .ok (.ifCond .ne 5, 3) := by decide +kernel
theorem dX5_frost_20 : decode cX5_frost 20 = .ok (.iconst (-1), 1) := by decide +kernel
theorem dX5_frost_21 : decode cX5_frost 21 = .ok (.ireturn, 1) := by decide +kernel
theorem dX5_frost_22 : decode cX5_frost 22 = .ok (.aload_n 0, 1) := by decide +kernel
theorem dX5_frost_23 : decode cX5_frost 23 = .ok (.getfield 28, 3) := by decide +kernel
theorem dX5_frost_26 : decode cX5_frost 26 = .ok (.dup, 1) := by decide +kernel
theorem dX5_frost_27 : decode cX5_frost 27 = .ok (.getfield 169, 3) := by decide +kernel
theorem dX5_frost_30 : decode cX5_frost 30 = .ok (.iconst 1, 1) := by decide +kernel
theorem dX5_frost_31 : decode cX5_frost 31 = .ok (.iadd, 1) := by decide +kernel
theorem dX5_frost_32 : decode cX5_frost 32 = .ok (.putfield 169, 3) := by decide +kernel
theorem dX5_frost_35 : decode cX5_frost 35 = .ok (.aload_n 0, 1) := by decide +kernel
theorem dX5_frost_36 : decode cX5_frost 36 = .ok (.getfield 28, 3) := by decide +kernel
theorem dX5_frost_39 : decode cX5_frost 39 = .ok (.iload_n 1, 1) := by decide +kernel
theorem dX5_frost_40 : decode cX5_frost 40 = .ok (.invokevirtual 172, 3) := by decide +kernel
theorem dX5_frost_43 : decode cX5_frost 43 = .ok (.aload_n 0, 1) := by decide +kernel
theorem dX5_frost_44 : decode cX5_frost 44 = .ok (.getfield 28, 3) := by decide +kernel
theorem dX5_frost_47 : decode cX5_frost 47 = .ok (.invokevirtual 176, 3) := by decide +kernel
theorem dX5_frost_50 : decode cX5_frost 50 = .ok (.ireturn, 1) := by decide +kernel
set_option maxRecDepth 20000 in
theorem ggX5_mend_X1_layAnew : GoodIn wsX5_mend wsX1_layAnew := goodIn_r _ [7, 8, 9, 10, 16, 17, 18, 19, 20, 21, 22, 23, 24, 25, 26, 27] (by decide +kernel) (by decide +kernel)
set_option maxRecDepth 20000 in
theorem gX5_mend_X1_layAnew : GoodIn wsX5_mend (wsV RX5 179 RX1 yX1_layAnew wsX1_layAnew) := goodIn_app (goodIn_of _ (by decide +kernel)) ggX5_mend_X1_layAnew
theorem dX5_mend_0 : decode cX5_mend 0 = .ok (.aload_n 0, 1) := by decide +kernel
theorem dX5_mend_1 : decode cX5_mend 1 = .ok (.getfield 28, 3) := by decide +kernel
theorem dX5_mend_4 : decode cX5_mend 4 = .ok (.getfield 48, 3) := by decide +kernel
theorem dX5_mend_7 : decode cX5_mend 7 = .ok (.ifCond .eq 13, 3) := by decide +kernel
theorem dX5_mend_10 : decode cX5_mend 10 = .ok (.aload_n 0, 1) := by decide +kernel
theorem dX5_mend_11 : decode cX5_mend 11 = .ok (.getfield 28, 3) := by decide +kernel
theorem dX5_mend_14 : decode cX5_mend 14 = .ok (.invokevirtual 179, 3) := by decide +kernel
theorem dX5_mend_17 : decode cX5_mend 17 = .ok (.goto 4, 3) := by decide +kernel
theorem dX5_mend_20 : decode cX5_mend 20 = .ok (.iconst (-1), 1) := by decide +kernel
theorem dX5_mend_21 : decode cX5_mend 21 = .ok (.ireturn, 1) := by decide +kernel
set_option maxRecDepth 20000 in
theorem ggX5_take_X4_hasHeap : GoodIn wsX5_take wsX4_hasHeap := goodIn_r _ [11, 12, 43, 44, 45, 46, 47, 48, 49] (by decide +kernel) (by decide +kernel)
set_option maxRecDepth 20000 in
theorem gX5_take_X4_hasHeap : GoodIn wsX5_take (wsV RX5 77 RX4 yX4_hasHeap wsX4_hasHeap) := goodIn_app (goodIn_of _ (by decide +kernel)) ggX5_take_X4_hasHeap
set_option maxRecDepth 20000 in
theorem ggX5_take_X1_number : GoodIn wsX5_take wsX1_number := goodIn_r _ [17, 18, 19, 31, 32, 33, 34, 35, 36, 37, 38, 39, 40, 41, 42] (by decide +kernel) (by decide +kernel)
set_option maxRecDepth 20000 in
theorem gX5_take_X1_number : GoodIn wsX5_take (wsV RX5 182 RX1 yX1_number wsX1_number) := goodIn_app (goodIn_of _ (by decide +kernel)) ggX5_take_X1_number
set_option maxRecDepth 20000 in
theorem ggX5_take_X1_forget : GoodIn wsX5_take wsX1_forget := goodIn_r _ [23, 18, 24, 25, 31, 32, 33, 34, 35, 36, 37, 38, 39, 40, 41, 42] (by decide +kernel) (by decide +kernel)
set_option maxRecDepth 20000 in
theorem gX5_take_X1_forget : GoodIn wsX5_take (wsV RX5 60 RX1 yX1_forget wsX1_forget) := goodIn_app (goodIn_of _ (by decide +kernel)) ggX5_take_X1_forget
theorem dX5_take_0 : decode cX5_take 0 = .ok (.aload_n 0, 1) := by decide +kernel
theorem dX5_take_1 : decode cX5_take 1 = .ok (.getfield 28, 3) := by decide +kernel
theorem dX5_take_4 : decode cX5_take 4 = .ok (.getfield 48, 3) := by decide +kernel
theorem dX5_take_7 : decode cX5_take 7 = .ok (.ifCond .eq 14, 3) := by decide +kernel
theorem dX5_take_10 : decode cX5_take 10 = .ok (.aload_n 0, 1) := by decide +kernel
theorem dX5_take_11 : decode cX5_take 11 = .ok (.getfield 12, 3) := by decide +kernel
theorem dX5_take_14 : decode cX5_take 14 = .ok (.iload_n 1, 1) := by decide +kernel
theorem dX5_take_15 : decode cX5_take 15 = .ok (.invokevirtual 77, 3) := by decide +kernel
theorem dX5_take_18 : decode cX5_take 18 = .ok (.ifCond .ne 5, 3) := by decide +kernel
theorem dX5_take_21 : decode cX5_take 21 = .ok (.iconst (-1), 1) := by decide +kernel
theorem dX5_take_22 : decode cX5_take 22 = .ok (.ireturn, 1) := by decide +kernel
theorem dX5_take_23 : decode cX5_take 23 = .ok (.iconst 0, 1) := by decide +kernel
theorem dX5_take_24 : decode cX5_take 24 = .ok (.istore_n 2, 1) := by decide +kernel
theorem dX5_take_25 : decode cX5_take 25 = .ok (.iload_n 2, 1) := by decide +kernel
theorem dX5_take_26 : decode cX5_take 26 = .ok (.aload_n 0, 1) := by decide +kernel
theorem dX5_take_27 : decode cX5_take 27 = .ok (.getfield 12, 3) := by decide +kernel
theorem dX5_take_30 : decode cX5_take 30 = .ok (.getfield 52, 3) := by decide +kernel
theorem dX5_take_33 : decode cX5_take 33 = .ok (.if_icmp .ge 36, 3) := by decide +kernel
theorem dX5_take_36 : decode cX5_take 36 = .ok (.aload_n 0, 1) := by decide +kernel
theorem dX5_take_37 : decode cX5_take 37 = .ok (.getfield 12, 3) := by decide +kernel
theorem dX5_take_40 : decode cX5_take 40 = .ok (.getfield 84, 3) := by decide +kernel
theorem dX5_take_43 : decode cX5_take 43 = .ok (.iload_n 1, 1) := by decide +kernel
theorem dX5_take_44 : decode cX5_take 44 = .ok (.aaload, 1) := by decide +kernel
theorem dX5_take_45 : decode cX5_take 45 = .ok (.iload_n 2, 1) := by decide +kernel
theorem dX5_take_46 : decode cX5_take 46 = .ok (.iaload, 1) := by decide +kernel
theorem dX5_take_47 : decode cX5_take 47 = .ok (.aload_n 0, 1) := by decide +kernel
theorem dX5_take_48 : decode cX5_take 48 = .ok (.getfield 28, 3) := by decide +kernel
theorem dX5_take_51 : decode cX5_take 51 = .ok (.iload_n 2, 1) := by decide +kernel
theorem dX5_take_52 : decode cX5_take 52 = .ok (.invokevirtual 182, 3) := by decide +kernel
theorem dX5_take_55 : decode cX5_take 55 = .ok (.iadd, 1) := by decide +kernel
theorem dX5_take_56 : decode cX5_take 56 = .ok (.bipush 60, 2) := by decide +kernel
theorem dX5_take_58 : decode cX5_take 58 = .ok (.if_icmp .le 5, 3) := by decide +kernel
theorem dX5_take_61 : decode cX5_take 61 = .ok (.iconst (-1), 1) := by decide +kernel
theorem dX5_take_62 : decode cX5_take 62 = .ok (.ireturn, 1) := by decide +kernel
theorem dX5_take_63 : decode cX5_take 63 = .ok (.iinc 2 1, 3) := by decide +kernel
theorem dX5_take_66 : decode cX5_take 66 = .ok (.goto (-41), 3) := by decide +kernel
theorem dX5_take_69 : decode cX5_take 69 = .ok (.iconst 0, 1) := by decide +kernel
theorem dX5_take_70 : decode cX5_take 70 = .ok (.istore_n 2, 1) := by decide +kernel
theorem dX5_take_71 : decode cX5_take 71 = .ok (.iload_n 2, 1) := by decide +kernel
theorem dX5_take_72 : decode cX5_take 72 = .ok (.aload_n 0, 1) := by decide +kernel
theorem dX5_take_73 : decode cX5_take 73 = .ok (.getfield 12, 3) := by decide +kernel
theorem dX5_take_76 : decode cX5_take 76 = .ok (.getfield 52, 3) := by decide +kernel
theorem dX5_take_79 : decode cX5_take 79 = .ok (.if_icmp .ge 31, 3) := by decide +kernel
theorem dX5_take_82 : decode cX5_take 82 = .ok (.aload_n 0, 1) := by decide +kernel
theorem dX5_take_83 : decode cX5_take 83 = .ok (.getfield 12, 3) := by decide +kernel
theorem dX5_take_86 : decode cX5_take 86 = .ok (.getfield 84, 3) := by decide +kernel
theorem dX5_take_89 : decode cX5_take 89 = .ok (.iload_n 1, 1) := by decide +kernel
theorem dX5_take_90 : decode cX5_take 90 = .ok (.aaload, 1) := by decide +kernel
theorem dX5_take_91 : decode cX5_take 91 = .ok (.iload_n 2, 1) := by decide +kernel
theorem dX5_take_92 : decode cX5_take 92 = .ok (.dup2, 1) := by decide +kernel
theorem dX5_take_93 : decode cX5_take 93 = .ok (.iaload, 1) := by decide +kernel
theorem dX5_take_94 : decode cX5_take 94 = .ok (.aload_n 0, 1) := by decide +kernel
theorem dX5_take_95 : decode cX5_take 95 = .ok (.getfield 28, 3) := by decide +kernel
theorem dX5_take_98 : decode cX5_take 98 = .ok (.iload_n 2, 1) := by decide +kernel
theorem dX5_take_99 : decode cX5_take 99 = .ok (.invokevirtual 182, 3) := by decide +kernel
theorem dX5_take_102 : decode cX5_take 102 = .ok (.iadd, 1) := by decide +kernel
theorem dX5_take_103 : decode cX5_take 103 = .ok (.iastore, 1) := by decide +kernel
theorem dX5_take_104 : decode cX5_take 104 = .ok (.iinc 2 1, 3) := by decide +kernel
theorem dX5_take_107 : decode cX5_take 107 = .ok (.goto (-36), 3) := by decide +kernel
theorem dX5_take_110 : decode cX5_take 110 = .ok (.aload_n 0, 1) := by decide +kernel
theorem dX5_take_111 : decode cX5_take 111 = .ok (.getfield 28, 3) := by decide +kernel
theorem dX5_take_114 : decode cX5_take 114 = .ok (.getfield 111, 3) := by decide +kernel
theorem dX5_take_117 : decode cX5_take 117 = .ok (.istore_n 2, 1) := by decide +kernel
theorem dX5_take_118 : decode cX5_take 118 = .ok (.aload_n 0, 1) := by decide +kernel
theorem dX5_take_119 : decode cX5_take 119 = .ok (.getfield 28, 3) := by decide +kernel
theorem dX5_take_122 : decode cX5_take 122 = .ok (.invokevirtual 60, 3) := by decide +kernel
theorem dX5_take_125 : decode cX5_take 125 = .ok (.iload_n 2, 1) := by decide +kernel
theorem dX5_take_126 : decode cX5_take 126 = .ok (.ireturn, 1) := by decide +kernel
set_option maxRecDepth 20000 in
theorem ggX5_count_X4_hasKind : GoodIn wsX5_count wsX4_hasKind := goodIn_r _ [9, 10, 49, 50, 51, 52, 53, 54, 55] (by decide +kernel) (by decide +kernel)
set_option maxRecDepth 20000 in
theorem gX5_count_X4_hasKind : GoodIn wsX5_count (wsV RX5 81 RX4 yX4_hasKind wsX4_hasKind) := goodIn_app (goodIn_of _ (by decide +kernel)) ggX5_count_X4_hasKind
set_option maxRecDepth 20000 in
theorem ggX5_count_X4_hasHeap : GoodIn wsX5_count wsX4_hasHeap := goodIn_r _ [14, 15, 49, 50, 51, 52, 53, 54, 55] (by decide +kernel) (by decide +kernel)
set_option maxRecDepth 20000 in
theorem gX5_count_X4_hasHeap : GoodIn wsX5_count (wsV RX5 77 RX4 yX4_hasHeap wsX4_hasHeap) := goodIn_app (goodIn_of _ (by decide +kernel)) ggX5_count_X4_hasHeap
set_option maxRecDepth 20000 in
theorem ggX5_count_X1_numberStanding : GoodIn wsX5_count wsX1_numberStanding := goodIn_r _ [20, 21, 22, 23, 24, 25, 19, 26, 27, 28, 56, 57, 58, 59, 60, 61, 62, 63, 64, 65, 66, 67] (by decide +kernel) (by decide +kernel)
set_option maxRecDepth 20000 in
theorem gX5_count_X1_numberStanding : GoodIn wsX5_count (wsV RX5 185 RX1 yX1_numberStanding wsX1_numberStanding) := goodIn_app (goodIn_of _ (by decide +kernel)) ggX5_count_X1_numberStanding
set_option maxRecDepth 20000 in
theorem ggX5_count_X1_numberAtFoot : GoodIn wsX5_count wsX1_numberAtFoot := goodIn_r _ [32, 27, 33, 34, 35, 19, 36, 21, 22, 37, 17, 18, 20, 23, 24, 25, 26, 28, 56, 57, 58, 59, 60, 61, 62, 63, 64, 65, 66, 67] (by decide +kernel) (by decide +kernel)
set_option maxRecDepth 20000 in
theorem gX5_count_X1_numberAtFoot : GoodIn wsX5_count (wsV RX5 188 RX1 yX1_numberAtFoot wsX1_numberAtFoot) := goodIn_app (goodIn_of _ (by decide +kernel)) ggX5_count_X1_numberAtFoot
set_option maxRecDepth 20000 in
theorem ggX5_count_X4_inHeaps : GoodIn wsX5_count wsX4_inHeaps := goodIn_r _ [41, 15, 42, 49, 50, 51, 52, 53, 54, 55] (by decide +kernel) (by decide +kernel)
set_option maxRecDepth 20000 in
theorem gX5_count_X4_inHeaps : GoodIn wsX5_count (wsV RX5 191 RX4 yX4_inHeaps wsX4_inHeaps) := goodIn_app (goodIn_of _ (by decide +kernel)) ggX5_count_X4_inHeaps
set_option maxRecDepth 20000 in
theorem ggX5_count_X1_number : GoodIn wsX5_count wsX1_number := goodIn_r _ [36, 21, 22, 56, 57, 58, 59, 60, 61, 62, 63, 64, 65, 66, 67] (by decide +kernel) (by decide +kernel)
set_option maxRecDepth 20000 in
theorem gX5_count_X1_number : GoodIn wsX5_count (wsV RX5 182 RX1 yX1_number wsX1_number) := goodIn_app (goodIn_of _ (by decide +kernel)) ggX5_count_X1_number
theorem dX5_count_0 : decode cX5_count 0 = .ok (.aload_n 0, 1) := by decide +kernel
theorem dX5_count_1 : decode cX5_count 1 = .ok (.getfield 12, 3) := by decide +kernel
theorem dX5_count_4 : decode cX5_count 4 = .ok (.iload_n 2, 1) := by decide +kernel
theorem dX5_count_5 : decode cX5_count 5 = .ok (.invokevirtual 81, 3) := by decide +kernel
theorem dX5_count_8 : decode cX5_count 8 = .ok (.ifCond .ne 5, 3) := by decide +kernel
theorem dX5_count_11 : decode cX5_count 11 = .ok (.iconst (-1), 1) := by decide +kernel
theorem dX5_count_12 : decode cX5_count 12 = .ok (.ireturn, 1) := by decide +kernel
theorem dX5_count_13 : decode cX5_count 13 = .ok (.aload_n 0, 1) := by decide +kernel
theorem dX5_count_14 : decode cX5_count 14 = .ok (.getfield 12, 3) := by decide +kernel
theorem dX5_count_17 : decode cX5_count 17 = .ok (.iload_n 1, 1) := by decide +kernel
theorem dX5_count_18 : decode cX5_count 18 = .ok (.invokevirtual 77, 3) := by decide +kernel
theorem dX5_count_21 : decode cX5_count 21 = .ok (.ifCond .eq 15, 3) := by decide +kernel
theorem dX5_count_24 : decode cX5_count 24 = .ok (.aload_n 0, 1) := by decide +kernel
theorem dX5_count_25 : decode cX5_count 25 = .ok (.getfield 12, 3) := by decide +kernel
theorem dX5_count_28 : decode cX5_count 28 = .ok (.getfield 84, 3) := by decide +kernel
theorem dX5_count_31 : decode cX5_count 31 = .ok (.iload_n 1, 1) := by decide +kernel
theorem dX5_count_32 : decode cX5_count 32 = .ok (.aaload, 1) := by decide +kernel
theorem dX5_count_33 : decode cX5_count 33 = .ok (.iload_n 2, 1) := by decide +kernel
theorem dX5_count_34 : decode cX5_count 34 = .ok (.iaload, 1) := by decide +kernel
theorem dX5_count_35 : decode cX5_count 35 = .ok (.ireturn, 1) := by decide +kernel
theorem dX5_count_36 : decode cX5_count 36 = .ok (.iload_n 1, 1) := by decide +kernel
theorem dX5_count_37 : decode cX5_count 37 = .ok (.tableswitch 77 5 7 #[27, 36, 45], 27) := by decide +kernel
theorem dX5_count_64 : decode cX5_count 64 = .ok (.aload_n 0, 1) := by decide +kernel
theorem dX5_count_65 : decode cX5_count 65 = .ok (.getfield 28, 3) := by decide +kernel
theorem dX5_count_68 : decode cX5_count 68 = .ok (.iload_n 2, 1) := by decide +kernel
theorem dX5_count_69 : decode cX5_count 69 = .ok (.invokevirtual 185, 3) := by decide +kernel
theorem dX5_count_72 : decode cX5_count 72 = .ok (.ireturn, 1) := by decide +kernel
theorem dX5_count_73 : decode cX5_count 73 = .ok (.aload_n 0, 1) := by decide +kernel
theorem dX5_count_74 : decode cX5_count 74 = .ok (.getfield 28, 3) := by decide +kernel
theorem dX5_count_77 : decode cX5_count 77 = .ok (.iload_n 2, 1) := by decide +kernel
theorem dX5_count_78 : decode cX5_count 78 = .ok (.invokevirtual 188, 3) := by decide +kernel
theorem dX5_count_81 : decode cX5_count 81 = .ok (.ireturn, 1) := by decide +kernel
theorem dX5_count_82 : decode cX5_count 82 = .ok (.aload_n 0, 1) := by decide +kernel
theorem dX5_count_83 : decode cX5_count 83 = .ok (.getfield 12, 3) := by decide +kernel
theorem dX5_count_86 : decode cX5_count 86 = .ok (.iload_n 2, 1) := by decide +kernel
theorem dX5_count_87 : decode cX5_count 87 = .ok (.invokevirtual 191, 3) := by decide +kernel
theorem dX5_count_90 : decode cX5_count 90 = .ok (.aload_n 0, 1) := by decide +kernel
theorem dX5_count_91 : decode cX5_count 91 = .ok (.getfield 28, 3) := by decide +kernel
theorem dX5_count_94 : decode cX5_count 94 = .ok (.getfield 48, 3) := by decide +kernel
theorem dX5_count_97 : decode cX5_count 97 = .ok (.ifCond .eq 14, 3) := by decide +kernel
theorem dX5_count_100 : decode cX5_count 100 = .ok (.aload_n 0, 1) := by decide +kernel
theorem dX5_count_101 : decode cX5_count 101 = .ok (.getfield 28, 3) := by decide +kernel
theorem dX5_count_104 : decode cX5_count 104 = .ok (.iload_n 2, 1) := by decide +kernel
theorem dX5_count_105 : decode cX5_count 105 = .ok (.invokevirtual 182, 3) := by decide +kernel
theorem dX5_count_108 : decode cX5_count 108 = .ok (.goto 4, 3) := by decide +kernel
theorem dX5_count_111 : decode cX5_count 111 = .ok (.iconst 0, 1) := by decide +kernel
theorem dX5_count_112 : decode cX5_count 112 = .ok (.iadd, 1) := by decide +kernel
theorem dX5_count_113 : decode cX5_count 113 = .ok (.ireturn, 1) := by decide +kernel
theorem dX5_count_114 : decode cX5_count 114 = .ok (.iconst (-1), 1) := by decide +kernel
theorem dX5_count_115 : decode cX5_count 115 = .ok (.ireturn, 1) := by decide +kernel
set_option maxRecDepth 20000 in
theorem ggX5_look_X1_heartingInAll : GoodIn wsX5_look wsX1_heartingInAll := goodIn_r _ [14, 15, 16, 17, 18, 13, 19, 20, 21, 22, 23, 24, 25, 26, 27, 28, 29, 30, 31, 32, 33, 34, 35, 36, 37, 73, 74, 75, 76, 77, 78, 79, 80, 81, 82, 83, 84, 66, 67, 68, 69, 70, 71, 72, 93, 94, 95, 96, 97, 98, 99, 100, 101] (by decide +kernel) (by decide +kernel)
set_option maxRecDepth 20000 in
theorem gX5_look_X1_heartingInAll : GoodIn wsX5_look (wsV RX5 197 RX1 yX1_heartingInAll wsX1_heartingInAll) := goodIn_app (goodIn_of _ (by decide +kernel)) ggX5_look_X1_heartingInAll
set_option maxRecDepth 20000 in
theorem ggX5_look_X1_allAtFoot : GoodIn wsX5_look wsX1_allAtFoot := goodIn_r _ [41, 21, 42, 43, 44, 45, 13, 46, 47, 48, 49, 50, 51, 15, 20, 52, 53, 54, 55, 56, 57, 58, 59, 60, 73, 74, 75, 76, 77, 78, 79, 80, 81, 82, 83, 84, 66, 67, 68, 69, 70, 71, 72] (by decide +kernel) (by decide +kernel)
set_option maxRecDepth 20000 in
theorem gX5_look_X1_allAtFoot : GoodIn wsX5_look (wsV RX5 200 RX1 yX1_allAtFoot wsX1_allAtFoot) := goodIn_app (goodIn_of _ (by decide +kernel)) ggX5_look_X1_allAtFoot
theorem dX5_look_0 : decode cX5_look 0 = .ok (.iload_n 1, 1) := by decide +kernel
theorem dX5_look_1 : decode cX5_look 1 = .ok (.tableswitch 119 0 7 #[47, 55, 63, 71, 87, 95, 103, 111], 47) := by decide +kernel
theorem dX5_look_48 : decode cX5_look 48 = .ok (.aload_n 0, 1) := by decide +kernel
theorem dX5_look_49 : decode cX5_look 49 = .ok (.getfield 12, 3) := by decide +kernel
theorem dX5_look_52 : decode cX5_look 52 = .ok (.getfield 52, 3) := by decide +kernel
theorem dX5_look_55 : decode cX5_look 55 = .ok (.ireturn, 1) := by decide +kernel
theorem dX5_look_56 : decode cX5_look 56 = .ok (.aload_n 0, 1) := by decide +kernel
theorem dX5_look_57 : decode cX5_look 57 = .ok (.getfield 12, 3) := by decide +kernel
theorem dX5_look_60 : decode cX5_look 60 = .ok (.getfield 67, 3) := by decide +kernel
theorem dX5_look_63 : decode cX5_look 63 = .ok (.ireturn, 1) := by decide +kernel
theorem dX5_look_64 : decode cX5_look 64 = .ok (.aload_n 0, 1) := by decide +kernel
theorem dX5_look_65 : decode cX5_look 65 = .ok (.getfield 28, 3) := by decide +kernel
theorem dX5_look_68 : decode cX5_look 68 = .ok (.getfield 111, 3) := by decide +kernel
theorem dX5_look_71 : decode cX5_look 71 = .ok (.ireturn, 1) := by decide +kernel
theorem dX5_look_72 : decode cX5_look 72 = .ok (.aload_n 0, 1) := by decide +kernel
theorem dX5_look_73 : decode cX5_look 73 = .ok (.getfield 28, 3) := by decide +kernel
theorem dX5_look_76 : decode cX5_look 76 = .ok (.getfield 48, 3) := by decide +kernel
theorem dX5_look_79 : decode cX5_look 79 = .ok (.ifCond .eq 7, 3) := by decide +kernel
theorem dX5_look_82 : decode cX5_look 82 = .ok (.iconst 1, 1) := by decide +kernel
theorem dX5_look_83 : decode cX5_look 83 = .ok (.goto 4, 3) := by decide +kernel
theorem dX5_look_86 : decode cX5_look 86 = .ok (.iconst 0, 1) := by decide +kernel
theorem dX5_look_87 : decode cX5_look 87 = .ok (.ireturn, 1) := by decide +kernel
theorem dX5_look_88 : decode cX5_look 88 = .ok (.aload_n 0, 1) := by decide +kernel
theorem dX5_look_89 : decode cX5_look 89 = .ok (.getfield 37, 3) := by decide +kernel
theorem dX5_look_92 : decode cX5_look 92 = .ok (.getfield 194, 3) := by decide +kernel
theorem dX5_look_95 : decode cX5_look 95 = .ok (.ireturn, 1) := by decide +kernel
theorem dX5_look_96 : decode cX5_look 96 = .ok (.aload_n 0, 1) := by decide +kernel
theorem dX5_look_97 : decode cX5_look 97 = .ok (.getfield 28, 3) := by decide +kernel
theorem dX5_look_100 : decode cX5_look 100 = .ok (.invokevirtual 197, 3) := by decide +kernel
theorem dX5_look_103 : decode cX5_look 103 = .ok (.ireturn, 1) := by decide +kernel
theorem dX5_look_104 : decode cX5_look 104 = .ok (.aload_n 0, 1) := by decide +kernel
theorem dX5_look_105 : decode cX5_look 105 = .ok (.getfield 28, 3) := by decide +kernel
theorem dX5_look_108 : decode cX5_look 108 = .ok (.invokevirtual 200, 3) := by decide +kernel
theorem dX5_look_111 : decode cX5_look 111 = .ok (.ireturn, 1) := by decide +kernel
theorem dX5_look_112 : decode cX5_look 112 = .ok (.aload_n 0, 1) := by decide +kernel
theorem dX5_look_113 : decode cX5_look 113 = .ok (.getfield 28, 3) := by decide +kernel
theorem dX5_look_116 : decode cX5_look 116 = .ok (.getfield 169, 3) := by decide +kernel
theorem dX5_look_119 : decode cX5_look 119 = .ok (.ireturn, 1) := by decide +kernel
theorem dX5_look_120 : decode cX5_look 120 = .ok (.iconst (-1), 1) := by decide +kernel
theorem dX5_look_121 : decode cX5_look 121 = .ok (.ireturn, 1) := by decide +kernel
theorem dX5_within_0 : decode cX5_within 0 = .ok (.iload_n 0, 1) := by decide +kernel
theorem dX5_within_1 : decode cX5_within 1 = .ok (.iload_n 1, 1) := by decide +kernel
theorem dX5_within_2 : decode cX5_within 2 = .ok (.if_icmp .lt 12, 3) := by decide +kernel
theorem dX5_within_5 : decode cX5_within 5 = .ok (.iload_n 0, 1) := by decide +kernel
theorem dX5_within_6 : decode cX5_within 6 = .ok (.iload_n 2, 1) := by decide +kernel
theorem dX5_within_7 : decode cX5_within 7 = .ok (.if_icmp .gt 7, 3) := by decide +kernel
theorem dX5_within_10 : decode cX5_within 10 = .ok (.iconst 1, 1) := by decide +kernel
theorem dX5_within_11 : decode cX5_within 11 = .ok (.goto 4, 3) := by decide +kernel
theorem dX5_within_14 : decode cX5_within 14 = .ok (.iconst 0, 1) := by decide +kernel
theorem dX5_within_15 : decode cX5_within 15 = .ok (.ireturn, 1) := by decide +kernel
set_option maxRecDepth 20000 in
theorem ggX5_onTheMap_X5_within : GoodIn wsX5_onTheMap wsX5_within := goodIn_r _ [4] (by decide +kernel) (by decide +kernel)
set_option maxRecDepth 20000 in
theorem gX5_onTheMap_X5_within : GoodIn wsX5_onTheMap (va_wsS RX5 56 yX5_within wsX5_within) := goodIn_app (goodIn_of _ (by decide +kernel)) ggX5_onTheMap_X5_within
theorem dX5_onTheMap_0 : decode cX5_onTheMap 0 = .ok (.iload_n 0, 1) := by decide +kernel
theorem dX5_onTheMap_1 : decode cX5_onTheMap 1 = .ok (.bipush (-100), 2) := by decide +kernel
theorem dX5_onTheMap_3 : decode cX5_onTheMap 3 = .ok (.bipush 100, 2) := by decide +kernel
theorem dX5_onTheMap_5 : decode cX5_onTheMap 5 = .ok (.invokestatic 56, 3) := by decide +kernel
theorem dX5_onTheMap_8 : decode cX5_onTheMap 8 = .ok (.ifCond .eq 18, 3) := by decide +kernel
theorem dX5_onTheMap_11 : decode cX5_onTheMap 11 = .ok (.iload_n 1, 1) := by decide +kernel
theorem dX5_onTheMap_12 : decode cX5_onTheMap 12 = .ok (.bipush (-100), 2) := by decide +kernel
theorem dX5_onTheMap_14 : decode cX5_onTheMap 14 = .ok (.bipush 100, 2) := by decide +kernel
theorem dX5_onTheMap_16 : decode cX5_onTheMap 16 = .ok (.invokestatic 56, 3) := by decide +kernel
theorem dX5_onTheMap_19 : decode cX5_onTheMap 19 = .ok (.ifCond .eq 7, 3) := by decide +kernel
theorem dX5_onTheMap_22 : decode cX5_onTheMap 22 = .ok (.iconst 1, 1) := by decide +kernel
theorem dX5_onTheMap_23 : decode cX5_onTheMap 23 = .ok (.goto 4, 3) := by decide +kernel
theorem dX5_onTheMap_26 : decode cX5_onTheMap 26 = .ok (.iconst 0, 1) := by decide +kernel
theorem dX5_onTheMap_27 : decode cX5_onTheMap 27 = .ok (.ireturn, 1) := by decide +kernel
theorem dJ6_bitCount_0f7a4_0 : decode cJ6_bitCount_0f7a4 0 = .ok (.iload_n 0, 1) := by decide +kernel
theorem dJ6_bitCount_0f7a4_1 : decode cJ6_bitCount_0f7a4 1 = .ok (.iload_n 0, 1) := by decide +kernel
theorem dJ6_bitCount_0f7a4_2 : decode cJ6_bitCount_0f7a4 2 = .ok (.iconst 1, 1) := by decide +kernel
theorem dJ6_bitCount_0f7a4_3 : decode cJ6_bitCount_0f7a4 3 = .ok (.iushr, 1) := by decide +kernel
theorem dJ6_bitCount_0f7a4_4 : decode cJ6_bitCount_0f7a4 4 = .ok (.ldc_w 265, 3) := by decide +kernel
theorem dJ6_bitCount_0f7a4_7 : decode cJ6_bitCount_0f7a4 7 = .ok (.iand, 1) := by decide +kernel
theorem dJ6_bitCount_0f7a4_8 : decode cJ6_bitCount_0f7a4 8 = .ok (.isub, 1) := by decide +kernel
theorem dJ6_bitCount_0f7a4_9 : decode cJ6_bitCount_0f7a4 9 = .ok (.istore_n 0, 1) := by decide +kernel
theorem dJ6_bitCount_0f7a4_10 : decode cJ6_bitCount_0f7a4 10 = .ok (.iload_n 0, 1) := by decide +kernel
theorem dJ6_bitCount_0f7a4_11 : decode cJ6_bitCount_0f7a4 11 = .ok (.ldc_w 266, 3) := by decide +kernel
theorem dJ6_bitCount_0f7a4_14 : decode cJ6_bitCount_0f7a4 14 = .ok (.iand, 1) := by decide +kernel
theorem dJ6_bitCount_0f7a4_15 : decode cJ6_bitCount_0f7a4 15 = .ok (.iload_n 0, 1) := by decide +kernel
theorem dJ6_bitCount_0f7a4_16 : decode cJ6_bitCount_0f7a4 16 = .ok (.iconst 2, 1) := by decide +kernel
theorem dJ6_bitCount_0f7a4_17 : decode cJ6_bitCount_0f7a4 17 = .ok (.iushr, 1) := by decide +kernel
theorem dJ6_bitCount_0f7a4_18 : decode cJ6_bitCount_0f7a4 18 = .ok (.ldc_w 266, 3) := by decide +kernel
theorem dJ6_bitCount_0f7a4_21 : decode cJ6_bitCount_0f7a4 21 = .ok (.iand, 1) := by decide +kernel
theorem dJ6_bitCount_0f7a4_22 : decode cJ6_bitCount_0f7a4 22 = .ok (.iadd, 1) := by decide +kernel
theorem dJ6_bitCount_0f7a4_23 : decode cJ6_bitCount_0f7a4 23 = .ok (.istore_n 0, 1) := by decide +kernel
theorem dJ6_bitCount_0f7a4_24 : decode cJ6_bitCount_0f7a4 24 = .ok (.iload_n 0, 1) := by decide +kernel
theorem dJ6_bitCount_0f7a4_25 : decode cJ6_bitCount_0f7a4 25 = .ok (.iload_n 0, 1) := by decide +kernel
theorem dJ6_bitCount_0f7a4_26 : decode cJ6_bitCount_0f7a4 26 = .ok (.iconst 4, 1) := by decide +kernel
theorem dJ6_bitCount_0f7a4_27 : decode cJ6_bitCount_0f7a4 27 = .ok (.iushr, 1) := by decide +kernel
theorem dJ6_bitCount_0f7a4_28 : decode cJ6_bitCount_0f7a4 28 = .ok (.iadd, 1) := by decide +kernel
theorem dJ6_bitCount_0f7a4_29 : decode cJ6_bitCount_0f7a4 29 = .ok (.ldc_w 267, 3) := by decide +kernel
theorem dJ6_bitCount_0f7a4_32 : decode cJ6_bitCount_0f7a4 32 = .ok (.iand, 1) := by decide +kernel
theorem dJ6_bitCount_0f7a4_33 : decode cJ6_bitCount_0f7a4 33 = .ok (.istore_n 0, 1) := by decide +kernel
theorem dJ6_bitCount_0f7a4_34 : decode cJ6_bitCount_0f7a4 34 = .ok (.iload_n 0, 1) := by decide +kernel
theorem dJ6_bitCount_0f7a4_35 : decode cJ6_bitCount_0f7a4 35 = .ok (.iload_n 0, 1) := by decide +kernel
theorem dJ6_bitCount_0f7a4_36 : decode cJ6_bitCount_0f7a4 36 = .ok (.bipush 8, 2) := by decide +kernel
theorem dJ6_bitCount_0f7a4_38 : decode cJ6_bitCount_0f7a4 38 = .ok (.iushr, 1) := by decide +kernel
theorem dJ6_bitCount_0f7a4_39 : decode cJ6_bitCount_0f7a4 39 = .ok (.iadd, 1) := by decide +kernel
theorem dJ6_bitCount_0f7a4_40 : decode cJ6_bitCount_0f7a4 40 = .ok (.istore_n 0, 1) := by decide +kernel
theorem dJ6_bitCount_0f7a4_41 : decode cJ6_bitCount_0f7a4 41 = .ok (.iload_n 0, 1) := by decide +kernel
theorem dJ6_bitCount_0f7a4_42 : decode cJ6_bitCount_0f7a4 42 = .ok (.iload_n 0, 1) := by decide +kernel
theorem dJ6_bitCount_0f7a4_43 : decode cJ6_bitCount_0f7a4 43 = .ok (.bipush 16, 2) := by decide +kernel
theorem dJ6_bitCount_0f7a4_45 : decode cJ6_bitCount_0f7a4 45 = .ok (.iushr, 1) := by decide +kernel
theorem dJ6_bitCount_0f7a4_46 : decode cJ6_bitCount_0f7a4 46 = .ok (.iadd, 1) := by decide +kernel
theorem dJ6_bitCount_0f7a4_47 : decode cJ6_bitCount_0f7a4 47 = .ok (.istore_n 0, 1) := by decide +kernel
theorem dJ6_bitCount_0f7a4_48 : decode cJ6_bitCount_0f7a4 48 = .ok (.iload_n 0, 1) := by decide +kernel
theorem dJ6_bitCount_0f7a4_49 : decode cJ6_bitCount_0f7a4 49 = .ok (.bipush 63, 2) := by decide +kernel
theorem dJ6_bitCount_0f7a4_51 : decode cJ6_bitCount_0f7a4 51 = .ok (.iand, 1) := by decide +kernel
theorem dJ6_bitCount_0f7a4_52 : decode cJ6_bitCount_0f7a4 52 = .ok (.ireturn, 1) := by decide +kernel
theorem dJ9_abs_0f7a4_0 : decode cJ9_abs_0f7a4 0 = .ok (.iload_n 0, 1) := by decide +kernel
theorem dJ9_abs_0f7a4_1 : decode cJ9_abs_0f7a4 1 = .ok (.ifCond .ge 8, 3) := by decide +kernel
theorem dJ9_abs_0f7a4_4 : decode cJ9_abs_0f7a4 4 = .ok (.iload_n 0, 1) := by decide +kernel
theorem dJ9_abs_0f7a4_5 : decode cJ9_abs_0f7a4 5 = .ok (.ineg, 1) := by decide +kernel
theorem dJ9_abs_0f7a4_6 : decode cJ9_abs_0f7a4 6 = .ok (.goto 4, 3) := by decide +kernel
theorem dJ9_abs_0f7a4_9 : decode cJ9_abs_0f7a4 9 = .ok (.iload_n 0, 1) := by decide +kernel
theorem dJ9_abs_0f7a4_10 : decode cJ9_abs_0f7a4 10 = .ok (.ireturn, 1) := by decide +kernel
theorem dJ9_max_7cf53_0 : decode cJ9_max_7cf53 0 = .ok (.iload_n 0, 1) := by decide +kernel
theorem dJ9_max_7cf53_1 : decode cJ9_max_7cf53 1 = .ok (.iload_n 1, 1) := by decide +kernel
theorem dJ9_max_7cf53_2 : decode cJ9_max_7cf53 2 = .ok (.if_icmp .lt 7, 3) := by decide +kernel
theorem dJ9_max_7cf53_5 : decode cJ9_max_7cf53 5 = .ok (.iload_n 0, 1) := by decide +kernel
theorem dJ9_max_7cf53_6 : decode cJ9_max_7cf53 6 = .ok (.goto 4, 3) := by decide +kernel
theorem dJ9_max_7cf53_9 : decode cJ9_max_7cf53 9 = .ok (.iload_n 1, 1) := by decide +kernel
theorem dJ9_max_7cf53_10 : decode cJ9_max_7cf53 10 = .ok (.ireturn, 1) := by decide +kernel
theorem dJ7_fill_53178_0 : decode cJ7_fill_53178 0 = .ok (.iconst 0, 1) := by decide +kernel
theorem dJ7_fill_53178_1 : decode cJ7_fill_53178 1 = .ok (.istore_n 2, 1) := by decide +kernel
theorem dJ7_fill_53178_2 : decode cJ7_fill_53178 2 = .ok (.aload_n 0, 1) := by decide +kernel
theorem dJ7_fill_53178_3 : decode cJ7_fill_53178 3 = .ok (.arraylength, 1) := by decide +kernel
theorem dJ7_fill_53178_4 : decode cJ7_fill_53178 4 = .ok (.istore_n 3, 1) := by decide +kernel
theorem dJ7_fill_53178_5 : decode cJ7_fill_53178 5 = .ok (.iload_n 2, 1) := by decide +kernel
theorem dJ7_fill_53178_6 : decode cJ7_fill_53178 6 = .ok (.iload_n 3, 1) := by decide +kernel
theorem dJ7_fill_53178_7 : decode cJ7_fill_53178 7 = .ok (.if_icmp .ge 13, 3) := by decide +kernel
theorem dJ7_fill_53178_10 : decode cJ7_fill_53178 10 = .ok (.aload_n 0, 1) := by decide +kernel
theorem dJ7_fill_53178_11 : decode cJ7_fill_53178 11 = .ok (.iload_n 2, 1) := by decide +kernel
theorem dJ7_fill_53178_12 : decode cJ7_fill_53178 12 = .ok (.iload_n 1, 1) := by decide +kernel
theorem dJ7_fill_53178_13 : decode cJ7_fill_53178 13 = .ok (.iastore, 1) := by decide +kernel
theorem dJ7_fill_53178_14 : decode cJ7_fill_53178 14 = .ok (.iinc 2 1, 3) := by decide +kernel
theorem dJ7_fill_53178_17 : decode cJ7_fill_53178 17 = .ok (.goto (-12), 3) := by decide +kernel
theorem dJ7_fill_53178_20 : decode cJ7_fill_53178 20 = .ok (.return_, 1) := by decide +kernel
