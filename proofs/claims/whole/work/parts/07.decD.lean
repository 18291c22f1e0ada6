theorem dX6_init_0 : decode cX6_init 0 = .ok (.aload_n 0, 1) := by decide +kernel
theorem dX6_init_1 : decode cX6_init 1 = .ok (.invokespecial 1, 3) := by decide +kernel
theorem dX6_init_4 : decode cX6_init 4 = .ok (.aload_n 0, 1) := by decide +kernel
theorem dX6_init_5 : decode cX6_init 5 = .ok (.bipush 8, 2) := by decide +kernel
theorem dX6_init_7 : decode cX6_init 7 = .ok (.newarray .int, 2) := by decide +kernel
theorem dX6_init_9 : decode cX6_init 9 = .ok (.putfield 7, 3) := by decide +kernel
theorem dX6_init_12 : decode cX6_init 12 = .ok (.aload_n 0, 1) := by decide +kernel
theorem dX6_init_13 : decode cX6_init 13 = .ok (.bipush 8, 2) := by decide +kernel
theorem dX6_init_15 : decode cX6_init 15 = .ok (.newarray .int, 2) := by decide +kernel
theorem dX6_init_17 : decode cX6_init 17 = .ok (.putfield 13, 3) := by decide +kernel
theorem dX6_init_20 : decode cX6_init 20 = .ok (.aload_n 0, 1) := by decide +kernel
theorem dX6_init_21 : decode cX6_init 21 = .ok (.iconst 5, 1) := by decide +kernel
theorem dX6_init_22 : decode cX6_init 22 = .ok (.newarray .int, 2) := by decide +kernel
theorem dX6_init_24 : decode cX6_init 24 = .ok (.putfield 16, 3) := by decide +kernel
theorem dX6_init_27 : decode cX6_init 27 = .ok (.aload_n 0, 1) := by decide +kernel
theorem dX6_init_28 : decode cX6_init 28 = .ok (.iconst 5, 1) := by decide +kernel
theorem dX6_init_29 : decode cX6_init 29 = .ok (.newarray .int, 2) := by decide +kernel
theorem dX6_init_31 : decode cX6_init 31 = .ok (.putfield 19, 3) := by decide +kernel
theorem dX6_init_34 : decode cX6_init 34 = .ok (.aload_n 0, 1) := by decide +kernel
theorem dX6_init_35 : decode cX6_init 35 = .ok (.bipush 40, 2) := by decide +kernel
theorem dX6_init_37 : decode cX6_init 37 = .ok (.newarray .int, 2) := by decide +kernel
theorem dX6_init_39 : decode cX6_init 39 = .ok (.putfield 22, 3) := by decide +kernel
theorem dX6_init_42 : decode cX6_init 42 = .ok (.aload_n 0, 1) := by decide +kernel
theorem dX6_init_43 : decode cX6_init 43 = .ok (.bipush 40, 2) := by decide +kernel
theorem dX6_init_45 : decode cX6_init 45 = .ok (.newarray .int, 2) := by decide +kernel
theorem dX6_init_47 : decode cX6_init 47 = .ok (.putfield 25, 3) := by decide +kernel
theorem dX6_init_50 : decode cX6_init 50 = .ok (.aload_n 0, 1) := by decide +kernel
theorem dX6_init_51 : decode cX6_init 51 = .ok (.sipush 150, 3) := by decide +kernel
theorem dX6_init_54 : decode cX6_init 54 = .ok (.newarray .int, 2) := by decide +kernel
theorem dX6_init_56 : decode cX6_init 56 = .ok (.putfield 28, 3) := by decide +kernel
theorem dX6_init_59 : decode cX6_init 59 = .ok (.aload_n 0, 1) := by decide +kernel
theorem dX6_init_60 : decode cX6_init 60 = .ok (.sipush 150, 3) := by decide +kernel
theorem dX6_init_63 : decode cX6_init 63 = .ok (.newarray .int, 2) := by decide +kernel
theorem dX6_init_65 : decode cX6_init 65 = .ok (.putfield 31, 3) := by decide +kernel
theorem dX6_init_68 : decode cX6_init 68 = .ok (.aload_n 0, 1) := by decide +kernel
theorem dX6_init_69 : decode cX6_init 69 = .ok (.sipush 150, 3) := by decide +kernel
theorem dX6_init_72 : decode cX6_init 72 = .ok (.newarray .int, 2) := by decide +kernel
theorem dX6_init_74 : decode cX6_init 74 = .ok (.putfield 34, 3) := by decide +kernel
theorem dX6_init_77 : decode cX6_init 77 = .ok (.aload_n 0, 1) := by decide +kernel
theorem dX6_init_78 : decode cX6_init 78 = .ok (.sipush 150, 3) := by decide +kernel
theorem dX6_init_81 : decode cX6_init 81 = .ok (.newarray .int, 2) := by decide +kernel
theorem dX6_init_83 : decode cX6_init 83 = .ok (.putfield 37, 3) := by decide +kernel
theorem dX6_init_86 : decode cX6_init 86 = .ok (.aload_n 0, 1) := by decide +kernel
theorem dX6_init_87 : decode cX6_init 87 = .ok (.sipush 150, 3) := by decide +kernel
theorem dX6_init_90 : decode cX6_init 90 = .ok (.newarray .boolean, 2) := by decide +kernel
theorem dX6_init_92 : decode cX6_init 92 = .ok (.putfield 40, 3) := by decide +kernel
theorem dX6_init_95 : decode cX6_init 95 = .ok (.aload_n 0, 1) := by decide +kernel
theorem dX6_init_96 : decode cX6_init 96 = .ok (.sipush 150, 3) := by decide +kernel
theorem dX6_init_99 : decode cX6_init 99 = .ok (.newarray .int, 2) := by decide +kernel
theorem dX6_init_101 : decode cX6_init 101 = .ok (.putfield 44, 3) := by decide +kernel
theorem dX6_init_104 : decode cX6_init 104 = .ok (.aload_n 0, 1) := by decide +kernel
theorem dX6_init_105 : decode cX6_init 105 = .ok (.bipush 8, 2) := by decide +kernel
theorem dX6_init_107 : decode cX6_init 107 = .ok (.newarray .int, 2) := by decide +kernel
theorem dX6_init_109 : decode cX6_init 109 = .ok (.putfield 47, 3) := by decide +kernel
theorem dX6_init_112 : decode cX6_init 112 = .ok (.aload_n 0, 1) := by decide +kernel
theorem dX6_init_113 : decode cX6_init 113 = .ok (.sipush 150, 3) := by decide +kernel
theorem dX6_init_116 : decode cX6_init 116 = .ok (.newarray .int, 2) := by decide +kernel
theorem dX6_init_118 : decode cX6_init 118 = .ok (.putfield 50, 3) := by decide +kernel
theorem dX6_init_121 : decode cX6_init 121 = .ok (.aload_n 0, 1) := by decide +kernel
theorem dX6_init_122 : decode cX6_init 122 = .ok (.sipush 150, 3) := by decide +kernel
theorem dX6_init_125 : decode cX6_init 125 = .ok (.newarray .int, 2) := by decide +kernel
theorem dX6_init_127 : decode cX6_init 127 = .ok (.putfield 53, 3) := by decide +kernel
theorem dX6_init_130 : decode cX6_init 130 = .ok (.aload_n 0, 1) := by decide +kernel
theorem dX6_init_131 : decode cX6_init 131 = .ok (.iconst 5, 1) := by decide +kernel
theorem dX6_init_132 : decode cX6_init 132 = .ok (.newarray .int, 2) := by decide +kernel
theorem dX6_init_134 : decode cX6_init 134 = .ok (.putfield 56, 3) := by decide +kernel
theorem dX6_init_137 : decode cX6_init 137 = .ok (.aload_n 0, 1) := by decide +kernel
theorem dX6_init_138 : decode cX6_init 138 = .ok (.iconst 5, 1) := by decide +kernel
theorem dX6_init_139 : decode cX6_init 139 = .ok (.newarray .long, 2) := by decide +kernel
theorem dX6_init_141 : decode cX6_init 141 = .ok (.putfield 59, 3) := by decide +kernel
theorem dX6_init_144 : decode cX6_init 144 = .ok (.aload_n 0, 1) := by decide +kernel
theorem dX6_init_145 : decode cX6_init 145 = .ok (.iconst 5, 1) := by decide +kernel
theorem dX6_init_146 : decode cX6_init 146 = .ok (.newarray .int, 2) := by decide +kernel
theorem dX6_init_148 : decode cX6_init 148 = .ok (.putfield 63, 3) := by decide +kernel
theorem dX6_init_151 : decode cX6_init 151 = .ok (.aload_n 0, 1) := by decide +kernel
theorem dX6_init_152 : decode cX6_init 152 = .ok (.sipush 150, 3) := by decide +kernel
theorem dX6_init_155 : decode cX6_init 155 = .ok (.newarray .boolean, 2) := by decide +kernel
theorem dX6_init_157 : decode cX6_init 157 = .ok (.putfield 66, 3) := by decide +kernel
theorem dX6_init_160 : decode cX6_init 160 = .ok (.aload_n 0, 1) := by decide +kernel
theorem dX6_init_161 : decode cX6_init 161 = .ok (.sipush 150, 3) := by decide +kernel
theorem dX6_init_164 : decode cX6_init 164 = .ok (.newarray .int, 2) := by decide +kernel
theorem dX6_init_166 : decode cX6_init 166 = .ok (.putfield 69, 3) := by decide +kernel
theorem dX6_init_169 : decode cX6_init 169 = .ok (.return_, 1) := by decide +kernel
theorem dX6_thrown_0 : decode cX6_thrown 0 = .ok (.aload_n 0, 1) := by decide +kernel
theorem dX6_thrown_1 : decode cX6_thrown 1 = .ok (.getfield 72, 3) := by decide +kernel
theorem dX6_thrown_4 : decode cX6_thrown 4 = .ok (.ireturn, 1) := by decide +kernel
theorem dX6_isPlace_0 : decode cX6_isPlace 0 = .ok (.iload_n 0, 1) := by decide +kernel
theorem dX6_isPlace_1 : decode cX6_isPlace 1 = .ok (.bipush (-100), 2) := by decide +kernel
theorem dX6_isPlace_3 : decode cX6_isPlace 3 = .ok (.if_icmp .lt 25, 3) := by decide +kernel
theorem dX6_isPlace_6 : decode cX6_isPlace 6 = .ok (.iload_n 0, 1) := by decide +kernel
theorem dX6_isPlace_7 : decode cX6_isPlace 7 = .ok (.bipush 100, 2) := by decide +kernel
theorem dX6_isPlace_9 : decode cX6_isPlace 9 = .ok (.if_icmp .gt 19, 3) := by decide +kernel
theorem dX6_isPlace_12 : decode cX6_isPlace 12 = .ok (.iload_n 1, 1) := by decide +kernel
theorem dX6_isPlace_13 : decode cX6_isPlace 13 = .ok (.bipush (-100), 2) := by decide +kernel
theorem dX6_isPlace_15 : decode cX6_isPlace 15 = .ok (.if_icmp .lt 13, 3) := by decide +kernel
theorem dX6_isPlace_18 : decode cX6_isPlace 18 = .ok (.iload_n 1, 1) := by decide +kernel
theorem dX6_isPlace_19 : decode cX6_isPlace 19 = .ok (.bipush 100, 2) := by decide +kernel
theorem dX6_isPlace_21 : decode cX6_isPlace 21 = .ok (.if_icmp .gt 7, 3) := by decide +kernel
theorem dX6_isPlace_24 : decode cX6_isPlace 24 = .ok (.iconst 1, 1) := by decide +kernel
theorem dX6_isPlace_25 : decode cX6_isPlace 25 = .ok (.goto 4, 3) := by decide +kernel
theorem dX6_isPlace_28 : decode cX6_isPlace 28 = .ok (.iconst 0, 1) := by decide +kernel
theorem dX6_isPlace_29 : decode cX6_isPlace 29 = .ok (.ireturn, 1) := by decide +kernel
theorem dX6_noPlan_0 : decode cX6_noPlan 0 = .ok (.aload_n 0, 1) := by decide +kernel
theorem dX6_noPlan_1 : decode cX6_noPlan 1 = .ok (.iconst 0, 1) := by decide +kernel
theorem dX6_noPlan_2 : decode cX6_noPlan 2 = .ok (.putfield 76, 3) := by decide +kernel
theorem dX6_noPlan_5 : decode cX6_noPlan 5 = .ok (.aload_n 0, 1) := by decide +kernel
theorem dX6_noPlan_6 : decode cX6_noPlan 6 = .ok (.iconst 0, 1) := by decide +kernel
theorem dX6_noPlan_7 : decode cX6_noPlan 7 = .ok (.putfield 80, 3) := by decide +kernel
theorem dX6_noPlan_10 : decode cX6_noPlan 10 = .ok (.return_, 1) := by decide +kernel
set_option maxRecDepth 20000 in
theorem ggX6_kind_X6_noPlan : GoodIn wsX6_kind wsX6_noPlan := goodIn_r _ [10, 11, 12, 13, 14, 15, 16, 17, 18, 19, 20, 21, 22, 23, 24, 25, 26, 27, 28, 29, 30, 31, 32, 33, 34, 35, 36, 37, 38, 39, 40, 41, 42, 43, 44, 45, 46, 47, 48, 49] (by decide +kernel) (by decide +kernel)
set_option maxRecDepth 20000 in
theorem gX6_kind_X6_noPlan : GoodIn wsX6_kind (wsV RX6 89 RX6 yX6_noPlan wsX6_noPlan) := goodIn_app (goodIn_of _ (by decide +kernel)) ggX6_kind_X6_noPlan
theorem dX6_kind_0 : decode cX6_kind 0 = .ok (.aload_n 0, 1) := by decide +kernel
theorem dX6_kind_1 : decode cX6_kind 1 = .ok (.iconst 0, 1) := by decide +kernel
theorem dX6_kind_2 : decode cX6_kind 2 = .ok (.putfield 72, 3) := by decide +kernel
theorem dX6_kind_5 : decode cX6_kind 5 = .ok (.aload_n 0, 1) := by decide +kernel
theorem dX6_kind_6 : decode cX6_kind 6 = .ok (.getfield 83, 3) := by decide +kernel
theorem dX6_kind_9 : decode cX6_kind 9 = .ok (.ifCond .ne 33, 3) := by decide +kernel
theorem dX6_kind_12 : decode cX6_kind 12 = .ok (.aload_n 0, 1) := by decide +kernel
theorem dX6_kind_13 : decode cX6_kind 13 = .ok (.getfield 86, 3) := by decide +kernel
theorem dX6_kind_16 : decode cX6_kind 16 = .ok (.bipush 8, 2) := by decide +kernel
theorem dX6_kind_18 : decode cX6_kind 18 = .ok (.if_icmp .eq 24, 3) := by decide +kernel
theorem dX6_kind_21 : decode cX6_kind 21 = .ok (.iload_n 1, 1) := by decide +kernel
theorem dX6_kind_22 : decode cX6_kind 22 = .ok (.iconst 1, 1) := by decide +kernel
theorem dX6_kind_23 : decode cX6_kind 23 = .ok (.if_icmp .lt 19, 3) := by decide +kernel
theorem dX6_kind_26 : decode cX6_kind 26 = .ok (.iload_n 1, 1) := by decide +kernel
theorem dX6_kind_27 : decode cX6_kind 27 = .ok (.bipush 6, 2) := by decide +kernel
theorem dX6_kind_29 : decode cX6_kind 29 = .ok (.if_icmp .gt 13, 3) := by decide +kernel
theorem dX6_kind_32 : decode cX6_kind 32 = .ok (.iload_n 2, 1) := by decide +kernel
theorem dX6_kind_33 : decode cX6_kind 33 = .ok (.iconst 1, 1) := by decide +kernel
theorem dX6_kind_34 : decode cX6_kind 34 = .ok (.if_icmp .lt 8, 3) := by decide +kernel
theorem dX6_kind_37 : decode cX6_kind 37 = .ok (.iload_n 2, 1) := by decide +kernel
theorem dX6_kind_38 : decode cX6_kind 38 = .ok (.iconst 4, 1) := by decide +kernel
theorem dX6_kind_39 : decode cX6_kind 39 = .ok (.if_icmp .le 5, 3) := by decide +kernel
theorem dX6_kind_42 : decode cX6_kind 42 = .ok (.iconst (-1), 1) := by decide +kernel
theorem dX6_kind_43 : decode cX6_kind 43 = .ok (.ireturn, 1) := by decide +kernel
theorem dX6_kind_44 : decode cX6_kind 44 = .ok (.aload_n 0, 1) := by decide +kernel
theorem dX6_kind_45 : decode cX6_kind 45 = .ok (.getfield 7, 3) := by decide +kernel
theorem dX6_kind_48 : decode cX6_kind 48 = .ok (.aload_n 0, 1) := by decide +kernel
theorem dX6_kind_49 : decode cX6_kind 49 = .ok (.getfield 86, 3) := by decide +kernel
theorem dX6_kind_52 : decode cX6_kind 52 = .ok (.iload_n 1, 1) := by decide +kernel
theorem dX6_kind_53 : decode cX6_kind 53 = .ok (.iastore, 1) := by decide +kernel
theorem dX6_kind_54 : decode cX6_kind 54 = .ok (.aload_n 0, 1) := by decide +kernel
theorem dX6_kind_55 : decode cX6_kind 55 = .ok (.getfield 13, 3) := by decide +kernel
theorem dX6_kind_58 : decode cX6_kind 58 = .ok (.aload_n 0, 1) := by decide +kernel
theorem dX6_kind_59 : decode cX6_kind 59 = .ok (.getfield 86, 3) := by decide +kernel
theorem dX6_kind_62 : decode cX6_kind 62 = .ok (.iload_n 2, 1) := by decide +kernel
theorem dX6_kind_63 : decode cX6_kind 63 = .ok (.iastore, 1) := by decide +kernel
theorem dX6_kind_64 : decode cX6_kind 64 = .ok (.aload_n 0, 1) := by decide +kernel
theorem dX6_kind_65 : decode cX6_kind 65 = .ok (.dup, 1) := by decide +kernel
theorem dX6_kind_66 : decode cX6_kind 66 = .ok (.getfield 86, 3) := by decide +kernel
theorem dX6_kind_69 : decode cX6_kind 69 = .ok (.iconst 1, 1) := by decide +kernel
theorem dX6_kind_70 : decode cX6_kind 70 = .ok (.iadd, 1) := by decide +kernel
theorem dX6_kind_71 : decode cX6_kind 71 = .ok (.putfield 86, 3) := by decide +kernel
theorem dX6_kind_74 : decode cX6_kind 74 = .ok (.aload_n 0, 1) := by decide +kernel
theorem dX6_kind_75 : decode cX6_kind 75 = .ok (.invokevirtual 89, 3) := by decide +kernel
theorem dX6_kind_78 : decode cX6_kind 78 = .ok (.aload_n 0, 1) := by decide +kernel
theorem dX6_kind_79 : decode cX6_kind 79 = .ok (.getfield 86, 3) := by decide +kernel
theorem dX6_kind_82 : decode cX6_kind 82 = .ok (.iconst 1, 1) := by decide +kernel
theorem dX6_kind_83 : decode cX6_kind 83 = .ok (.isub, 1) := by decide +kernel
theorem dX6_kind_84 : decode cX6_kind 84 = .ok (.ireturn, 1) := by decide +kernel
set_option maxRecDepth 20000 in
theorem ggX6_heap_X6_isPlace : GoodIn wsX6_heap wsX6_isPlace := goodIn_r _ [9] (by decide +kernel) (by decide +kernel)
set_option maxRecDepth 20000 in
theorem gX6_heap_X6_isPlace : GoodIn wsX6_heap (va_wsS RX6 95 yX6_isPlace wsX6_isPlace) := goodIn_app (goodIn_of _ (by decide +kernel)) ggX6_heap_X6_isPlace
set_option maxRecDepth 20000 in
theorem ggX6_heap_X6_noPlan : GoodIn wsX6_heap wsX6_noPlan := goodIn_r _ [13, 14, 15, 16, 17, 18, 19, 20, 21, 22, 23, 24, 25, 26, 27, 28, 29, 30, 31, 32, 33, 34, 35, 36, 37, 38, 39, 40, 41, 42, 43, 44, 45, 46, 47, 48, 49, 50, 51, 52] (by decide +kernel) (by decide +kernel)
set_option maxRecDepth 20000 in
theorem gX6_heap_X6_noPlan : GoodIn wsX6_heap (wsV RX6 89 RX6 yX6_noPlan wsX6_noPlan) := goodIn_app (goodIn_of _ (by decide +kernel)) ggX6_heap_X6_noPlan
theorem dX6_heap_0 : decode cX6_heap 0 = .ok (.aload_n 0, 1) := by decide +kernel
theorem dX6_heap_1 : decode cX6_heap 1 = .ok (.iconst 0, 1) := by decide +kernel
theorem dX6_heap_2 : decode cX6_heap 2 = .ok (.putfield 72, 3) := by decide +kernel
theorem dX6_heap_5 : decode cX6_heap 5 = .ok (.aload_n 0, 1) := by decide +kernel
theorem dX6_heap_6 : decode cX6_heap 6 = .ok (.getfield 83, 3) := by decide +kernel
theorem dX6_heap_9 : decode cX6_heap 9 = .ok (.ifCond .ne 19, 3) := by decide +kernel
theorem dX6_heap_12 : decode cX6_heap 12 = .ok (.aload_n 0, 1) := by decide +kernel
theorem dX6_heap_13 : decode cX6_heap 13 = .ok (.getfield 92, 3) := by decide +kernel
theorem dX6_heap_16 : decode cX6_heap 16 = .ok (.iconst 5, 1) := by decide +kernel
theorem dX6_heap_17 : decode cX6_heap 17 = .ok (.if_icmp .eq 11, 3) := by decide +kernel
theorem dX6_heap_20 : decode cX6_heap 20 = .ok (.iload_n 1, 1) := by decide +kernel
theorem dX6_heap_21 : decode cX6_heap 21 = .ok (.iload_n 2, 1) := by decide +kernel
theorem dX6_heap_22 : decode cX6_heap 22 = .ok (.invokestatic 95, 3) := by decide +kernel
theorem dX6_heap_25 : decode cX6_heap 25 = .ok (.ifCond .ne 5, 3) := by decide +kernel
theorem dX6_heap_28 : decode cX6_heap 28 = .ok (.iconst (-1), 1) := by decide +kernel
theorem dX6_heap_29 : decode cX6_heap 29 = .ok (.ireturn, 1) := by decide +kernel
theorem dX6_heap_30 : decode cX6_heap 30 = .ok (.aload_n 0, 1) := by decide +kernel
theorem dX6_heap_31 : decode cX6_heap 31 = .ok (.getfield 16, 3) := by decide +kernel
theorem dX6_heap_34 : decode cX6_heap 34 = .ok (.aload_n 0, 1) := by decide +kernel
theorem dX6_heap_35 : decode cX6_heap 35 = .ok (.getfield 92, 3) := by decide +kernel
theorem dX6_heap_38 : decode cX6_heap 38 = .ok (.iload_n 1, 1) := by decide +kernel
theorem dX6_heap_39 : decode cX6_heap 39 = .ok (.iastore, 1) := by decide +kernel
theorem dX6_heap_40 : decode cX6_heap 40 = .ok (.aload_n 0, 1) := by decide +kernel
theorem dX6_heap_41 : decode cX6_heap 41 = .ok (.getfield 19, 3) := by decide +kernel
theorem dX6_heap_44 : decode cX6_heap 44 = .ok (.aload_n 0, 1) := by decide +kernel
theorem dX6_heap_45 : decode cX6_heap 45 = .ok (.getfield 92, 3) := by decide +kernel
theorem dX6_heap_48 : decode cX6_heap 48 = .ok (.iload_n 2, 1) := by decide +kernel
theorem dX6_heap_49 : decode cX6_heap 49 = .ok (.iastore, 1) := by decide +kernel
theorem dX6_heap_50 : decode cX6_heap 50 = .ok (.aload_n 0, 1) := by decide +kernel
theorem dX6_heap_51 : decode cX6_heap 51 = .ok (.dup, 1) := by decide +kernel
theorem dX6_heap_52 : decode cX6_heap 52 = .ok (.getfield 92, 3) := by decide +kernel
theorem dX6_heap_55 : decode cX6_heap 55 = .ok (.iconst 1, 1) := by decide +kernel
theorem dX6_heap_56 : decode cX6_heap 56 = .ok (.iadd, 1) := by decide +kernel
theorem dX6_heap_57 : decode cX6_heap 57 = .ok (.putfield 92, 3) := by decide +kernel
theorem dX6_heap_60 : decode cX6_heap 60 = .ok (.aload_n 0, 1) := by decide +kernel
theorem dX6_heap_61 : decode cX6_heap 61 = .ok (.invokevirtual 89, 3) := by decide +kernel
theorem dX6_heap_64 : decode cX6_heap 64 = .ok (.aload_n 0, 1) := by decide +kernel
theorem dX6_heap_65 : decode cX6_heap 65 = .ok (.getfield 92, 3) := by decide +kernel
theorem dX6_heap_68 : decode cX6_heap 68 = .ok (.iconst 1, 1) := by decide +kernel
theorem dX6_heap_69 : decode cX6_heap 69 = .ok (.isub, 1) := by decide +kernel
theorem dX6_heap_70 : decode cX6_heap 70 = .ok (.ireturn, 1) := by decide +kernel
set_option maxRecDepth 20000 in
theorem ggX6_stones_X6_noPlan : GoodIn wsX6_stones wsX6_noPlan := goodIn_r _ [10, 11, 12, 13, 14, 15, 16, 17, 18, 19, 20, 21, 22, 23, 24, 25, 26, 27, 28, 29, 30, 31, 32, 33, 34, 35, 36, 37, 38, 39, 40, 41, 42, 43, 44, 45, 46, 47, 48, 49] (by decide +kernel) (by decide +kernel)
set_option maxRecDepth 20000 in
theorem gX6_stones_X6_noPlan : GoodIn wsX6_stones (wsV RX6 89 RX6 yX6_noPlan wsX6_noPlan) := goodIn_app (goodIn_of _ (by decide +kernel)) ggX6_stones_X6_noPlan
theorem dX6_stones_0 : decode cX6_stones 0 = .ok (.aload_n 0, 1) := by decide +kernel
theorem dX6_stones_1 : decode cX6_stones 1 = .ok (.iconst 0, 1) := by decide +kernel
theorem dX6_stones_2 : decode cX6_stones 2 = .ok (.putfield 72, 3) := by decide +kernel
theorem dX6_stones_5 : decode cX6_stones 5 = .ok (.aload_n 0, 1) := by decide +kernel
theorem dX6_stones_6 : decode cX6_stones 6 = .ok (.getfield 83, 3) := by decide +kernel
theorem dX6_stones_9 : decode cX6_stones 9 = .ok (.ifCond .ne 37, 3) := by decide +kernel
theorem dX6_stones_12 : decode cX6_stones 12 = .ok (.iload_n 1, 1) := by decide +kernel
theorem dX6_stones_13 : decode cX6_stones 13 = .ok (.ifCond .lt 33, 3) := by decide +kernel
theorem dX6_stones_16 : decode cX6_stones 16 = .ok (.iload_n 1, 1) := by decide +kernel
theorem dX6_stones_17 : decode cX6_stones 17 = .ok (.aload_n 0, 1) := by decide +kernel
theorem dX6_stones_18 : decode cX6_stones 18 = .ok (.getfield 92, 3) := by decide +kernel
theorem dX6_stones_21 : decode cX6_stones 21 = .ok (.if_icmp .ge 25, 3) := by decide +kernel
theorem dX6_stones_24 : decode cX6_stones 24 = .ok (.iload_n 2, 1) := by decide +kernel
theorem dX6_stones_25 : decode cX6_stones 25 = .ok (.ifCond .lt 21, 3) := by decide +kernel
theorem dX6_stones_28 : decode cX6_stones 28 = .ok (.iload_n 2, 1) := by decide +kernel
theorem dX6_stones_29 : decode cX6_stones 29 = .ok (.aload_n 0, 1) := by decide +kernel
theorem dX6_stones_30 : decode cX6_stones 30 = .ok (.getfield 86, 3) := by decide +kernel
theorem dX6_stones_33 : decode cX6_stones 33 = .ok (.if_icmp .ge 13, 3) := by decide +kernel
theorem dX6_stones_36 : decode cX6_stones 36 = .ok (.iload_n 3, 1) := by decide +kernel
theorem dX6_stones_37 : decode cX6_stones 37 = .ok (.ifCond .lt 9, 3) := by decide +kernel
theorem dX6_stones_40 : decode cX6_stones 40 = .ok (.iload_n 3, 1) := by decide +kernel
theorem dX6_stones_41 : decode cX6_stones 41 = .ok (.bipush 60, 2) := by decide +kernel
theorem dX6_stones_43 : decode cX6_stones 43 = .ok (.if_icmp .le 5, 3) := by decide +kernel
theorem dX6_stones_46 : decode cX6_stones 46 = .ok (.iconst 0, 1) := by decide +kernel
theorem dX6_stones_47 : decode cX6_stones 47 = .ok (.ireturn, 1) := by decide +kernel
theorem dX6_stones_48 : decode cX6_stones 48 = .ok (.aload_n 0, 1) := by decide +kernel
theorem dX6_stones_49 : decode cX6_stones 49 = .ok (.getfield 22, 3) := by decide +kernel
theorem dX6_stones_52 : decode cX6_stones 52 = .ok (.bipush 8, 2) := by decide +kernel
theorem dX6_stones_54 : decode cX6_stones 54 = .ok (.iload_n 1, 1) := by decide +kernel
theorem dX6_stones_55 : decode cX6_stones 55 = .ok (.imul, 1) := by decide +kernel
theorem dX6_stones_56 : decode cX6_stones 56 = .ok (.iload_n 2, 1) := by decide +kernel
theorem dX6_stones_57 : decode cX6_stones 57 = .ok (.iadd, 1) := by decide +kernel
theorem dX6_stones_58 : decode cX6_stones 58 = .ok (.iload_n 3, 1) := by decide +kernel
theorem dX6_stones_59 : decode cX6_stones 59 = .ok (.iastore, 1) := by decide +kernel
theorem dX6_stones_60 : decode cX6_stones 60 = .ok (.aload_n 0, 1) := by decide +kernel
theorem dX6_stones_61 : decode cX6_stones 61 = .ok (.invokevirtual 89, 3) := by decide +kernel
theorem dX6_stones_64 : decode cX6_stones 64 = .ok (.iconst 1, 1) := by decide +kernel
theorem dX6_stones_65 : decode cX6_stones 65 = .ok (.ireturn, 1) := by decide +kernel
set_option maxRecDepth 20000 in
theorem ggX6_wall_X6_isPlace : GoodIn wsX6_wall wsX6_isPlace := goodIn_r _ [15] (by decide +kernel) (by decide +kernel)
set_option maxRecDepth 20000 in
theorem gX6_wall_X6_isPlace : GoodIn wsX6_wall (va_wsS RX6 95 yX6_isPlace wsX6_isPlace) := goodIn_app (goodIn_of _ (by decide +kernel)) ggX6_wall_X6_isPlace
set_option maxRecDepth 20000 in
theorem ggX6_wall_X6_noPlan : GoodIn wsX6_wall wsX6_noPlan := goodIn_r _ [19, 20, 21, 22, 23, 24, 25, 26, 27, 28, 29, 30, 31, 32, 33, 34, 35, 36, 37, 38, 39, 40, 41, 42, 43, 44, 45, 46, 47, 48, 49, 50, 51, 52, 53, 54, 55, 56, 57, 58] (by decide +kernel) (by decide +kernel)
set_option maxRecDepth 20000 in
theorem gX6_wall_X6_noPlan : GoodIn wsX6_wall (wsV RX6 89 RX6 yX6_noPlan wsX6_noPlan) := goodIn_app (goodIn_of _ (by decide +kernel)) ggX6_wall_X6_noPlan
theorem dX6_wall_0 : decode cX6_wall 0 = .ok (.aload_n 0, 1) := by decide +kernel
theorem dX6_wall_1 : decode cX6_wall 1 = .ok (.iconst 0, 1) := by decide +kernel
theorem dX6_wall_2 : decode cX6_wall 2 = .ok (.putfield 72, 3) := by decide +kernel
theorem dX6_wall_5 : decode cX6_wall 5 = .ok (.aload_n 0, 1) := by decide +kernel
theorem dX6_wall_6 : decode cX6_wall 6 = .ok (.getfield 83, 3) := by decide +kernel
theorem dX6_wall_9 : decode cX6_wall 9 = .ok (.ifCond .ne 58, 3) := by decide +kernel
theorem dX6_wall_12 : decode cX6_wall 12 = .ok (.iload_n 1, 1) := by decide +kernel
theorem dX6_wall_13 : decode cX6_wall 13 = .ok (.iload_n 2, 1) := by decide +kernel
theorem dX6_wall_14 : decode cX6_wall 14 = .ok (.invokestatic 95, 3) := by decide +kernel
theorem dX6_wall_17 : decode cX6_wall 17 = .ok (.ifCond .eq 50, 3) := by decide +kernel
theorem dX6_wall_20 : decode cX6_wall 20 = .ok (.iload_n 3, 1) := by decide +kernel
theorem dX6_wall_21 : decode cX6_wall 21 = .ok (.iconst 2, 1) := by decide +kernel
theorem dX6_wall_22 : decode cX6_wall 22 = .ok (.if_icmp .lt 45, 3) := by decide +kernel
theorem dX6_wall_25 : decode cX6_wall 25 = .ok (.iload_n 3, 1) := by decide +kernel
theorem dX6_wall_26 : decode cX6_wall 26 = .ok (.bipush 24, 2) := by decide +kernel
theorem dX6_wall_28 : decode cX6_wall 28 = .ok (.if_icmp .gt 39, 3) := by decide +kernel
theorem dX6_wall_31 : decode cX6_wall 31 = .ok (.iload 4, 2) := by decide +kernel
theorem dX6_wall_33 : decode cX6_wall 33 = .ok (.iconst 1, 1) := by decide +kernel
theorem dX6_wall_34 : decode cX6_wall 34 = .ok (.if_icmp .lt 33, 3) := by decide +kernel
theorem dX6_wall_37 : decode cX6_wall 37 = .ok (.iload 4, 2) := by decide +kernel
theorem dX6_wall_39 : decode cX6_wall 39 = .ok (.bipush 6, 2) := by decide +kernel
theorem dX6_wall_41 : decode cX6_wall 41 = .ok (.if_icmp .gt 26, 3) := by decide +kernel
theorem dX6_wall_44 : decode cX6_wall 44 = .ok (.iload 5, 2) := by decide +kernel
theorem dX6_wall_46 : decode cX6_wall 46 = .ok (.iconst 1, 1) := by decide +kernel
theorem dX6_wall_47 : decode cX6_wall 47 = .ok (.if_icmp .lt 20, 3) := by decide +kernel
theorem dX6_wall_50 : decode cX6_wall 50 = .ok (.iload 5, 2) := by decide +kernel
theorem dX6_wall_52 : decode cX6_wall 52 = .ok (.iconst 4, 1) := by decide +kernel
theorem dX6_wall_53 : decode cX6_wall 53 = .ok (.if_icmp .gt 14, 3) := by decide +kernel
theorem dX6_wall_56 : decode cX6_wall 56 = .ok (.iload 6, 2) := by decide +kernel
theorem dX6_wall_58 : decode cX6_wall 58 = .ok (.ifCond .lt 9, 3) := by decide +kernel
theorem dX6_wall_61 : decode cX6_wall 61 = .ok (.iload 6, 2) := by decide +kernel
theorem dX6_wall_63 : decode cX6_wall 63 = .ok (.iconst 1, 1) := by decide +kernel
theorem dX6_wall_64 : decode cX6_wall 64 = .ok (.if_icmp .le 5, 3) := by decide +kernel
theorem dX6_wall_67 : decode cX6_wall 67 = .ok (.iconst 0, 1) := by decide +kernel
theorem dX6_wall_68 : decode cX6_wall 68 = .ok (.ireturn, 1) := by decide +kernel
theorem dX6_wall_69 : decode cX6_wall 69 = .ok (.aload_n 0, 1) := by decide +kernel
theorem dX6_wall_70 : decode cX6_wall 70 = .ok (.iconst 1, 1) := by decide +kernel
theorem dX6_wall_71 : decode cX6_wall 71 = .ok (.putfield 99, 3) := by decide +kernel
theorem dX6_wall_74 : decode cX6_wall 74 = .ok (.aload_n 0, 1) := by decide +kernel
theorem dX6_wall_75 : decode cX6_wall 75 = .ok (.iload_n 1, 1) := by decide +kernel
theorem dX6_wall_76 : decode cX6_wall 76 = .ok (.putfield 102, 3) := by decide +kernel
theorem dX6_wall_79 : decode cX6_wall 79 = .ok (.aload_n 0, 1) := by decide +kernel
theorem dX6_wall_80 : decode cX6_wall 80 = .ok (.iload_n 2, 1) := by decide +kernel
theorem dX6_wall_81 : decode cX6_wall 81 = .ok (.putfield 105, 3) := by decide +kernel
theorem dX6_wall_84 : decode cX6_wall 84 = .ok (.aload_n 0, 1) := by decide +kernel
theorem dX6_wall_85 : decode cX6_wall 85 = .ok (.iload_n 3, 1) := by decide +kernel
theorem dX6_wall_86 : decode cX6_wall 86 = .ok (.putfield 108, 3) := by decide +kernel
theorem dX6_wall_89 : decode cX6_wall 89 = .ok (.aload_n 0, 1) := by decide +kernel
theorem dX6_wall_90 : decode cX6_wall 90 = .ok (.iload 4, 2) := by decide +kernel
theorem dX6_wall_92 : decode cX6_wall 92 = .ok (.putfield 111, 3) := by decide +kernel
theorem dX6_wall_95 : decode cX6_wall 95 = .ok (.aload_n 0, 1) := by decide +kernel
theorem dX6_wall_96 : decode cX6_wall 96 = .ok (.iload 5, 2) := by decide +kernel
theorem dX6_wall_98 : decode cX6_wall 98 = .ok (.putfield 114, 3) := by decide +kernel
theorem dX6_wall_101 : decode cX6_wall 101 = .ok (.aload_n 0, 1) := by decide +kernel
theorem dX6_wall_102 : decode cX6_wall 102 = .ok (.iload 6, 2) := by decide +kernel
theorem dX6_wall_104 : decode cX6_wall 104 = .ok (.putfield 117, 3) := by decide +kernel
theorem dX6_wall_107 : decode cX6_wall 107 = .ok (.aload_n 0, 1) := by decide +kernel
theorem dX6_wall_108 : decode cX6_wall 108 = .ok (.iconst 0, 1) := by decide +kernel
theorem dX6_wall_109 : decode cX6_wall 109 = .ok (.putfield 120, 3) := by decide +kernel
theorem dX6_wall_112 : decode cX6_wall 112 = .ok (.aload_n 0, 1) := by decide +kernel
theorem dX6_wall_113 : decode cX6_wall 113 = .ok (.iconst 0, 1) := by decide +kernel
theorem dX6_wall_114 : decode cX6_wall 114 = .ok (.putfield 123, 3) := by decide +kernel
theorem dX6_wall_117 : decode cX6_wall 117 = .ok (.aload_n 0, 1) := by decide +kernel
theorem dX6_wall_118 : decode cX6_wall 118 = .ok (.invokevirtual 89, 3) := by decide +kernel
theorem dX6_wall_121 : decode cX6_wall 121 = .ok (.iconst 1, 1) := by decide +kernel
theorem dX6_wall_122 : decode cX6_wall 122 = .ok (.ireturn, 1) := by decide +kernel
set_option maxRecDepth 20000 in
theorem ggX6_through_X6_noPlan : GoodIn wsX6_through wsX6_noPlan := goodIn_r _ [11, 12, 13, 14, 15, 16, 17, 18, 19, 20, 21, 22, 23, 24, 25, 26, 27, 28, 29, 30, 31, 32, 33, 34, 35, 36, 37, 38, 39, 40, 41, 42, 43, 44, 45, 46, 47, 48, 49, 50] (by decide +kernel) (by decide +kernel)
set_option maxRecDepth 20000 in
theorem gX6_through_X6_noPlan : GoodIn wsX6_through (wsV RX6 89 RX6 yX6_noPlan wsX6_noPlan) := goodIn_app (goodIn_of _ (by decide +kernel)) ggX6_through_X6_noPlan
theorem dX6_through_0 : decode cX6_through 0 = .ok (.aload_n 0, 1) := by decide +kernel
theorem dX6_through_1 : decode cX6_through 1 = .ok (.iconst 0, 1) := by decide +kernel
theorem dX6_through_2 : decode cX6_through 2 = .ok (.putfield 72, 3) := by decide +kernel
theorem dX6_through_5 : decode cX6_through 5 = .ok (.aload_n 0, 1) := by decide +kernel
theorem dX6_through_6 : decode cX6_through 6 = .ok (.getfield 83, 3) := by decide +kernel
theorem dX6_through_9 : decode cX6_through 9 = .ok (.ifCond .ne 33, 3) := by decide +kernel
theorem dX6_through_12 : decode cX6_through 12 = .ok (.aload_n 0, 1) := by decide +kernel
theorem dX6_through_13 : decode cX6_through 13 = .ok (.getfield 99, 3) := by decide +kernel
theorem dX6_through_16 : decode cX6_through 16 = .ok (.ifCond .eq 26, 3) := by decide +kernel
theorem dX6_through_19 : decode cX6_through 19 = .ok (.iload_n 1, 1) := by decide +kernel
theorem dX6_through_20 : decode cX6_through 20 = .ok (.ifCond .lt 22, 3) := by decide +kernel
theorem dX6_through_23 : decode cX6_through 23 = .ok (.iload_n 1, 1) := by decide +kernel
theorem dX6_through_24 : decode cX6_through 24 = .ok (.iconst 1, 1) := by decide +kernel
theorem dX6_through_25 : decode cX6_through 25 = .ok (.aload_n 0, 1) := by decide +kernel
theorem dX6_through_26 : decode cX6_through 26 = .ok (.getfield 111, 3) := by decide +kernel
theorem dX6_through_29 : decode cX6_through 29 = .ok (.ishl, 1) := by decide +kernel
theorem dX6_through_30 : decode cX6_through 30 = .ok (.if_icmp .ge 12, 3) := by decide +kernel
theorem dX6_through_33 : decode cX6_through 33 = .ok (.iload_n 2, 1) := by decide +kernel
theorem dX6_through_34 : decode cX6_through 34 = .ok (.ifCond .lt 8, 3) := by decide +kernel
theorem dX6_through_37 : decode cX6_through 37 = .ok (.iload_n 2, 1) := by decide +kernel
theorem dX6_through_38 : decode cX6_through 38 = .ok (.iconst 3, 1) := by decide +kernel
theorem dX6_through_39 : decode cX6_through 39 = .ok (.if_icmp .le 5, 3) := by decide +kernel
theorem dX6_through_42 : decode cX6_through 42 = .ok (.iconst 0, 1) := by decide +kernel
theorem dX6_through_43 : decode cX6_through 43 = .ok (.ireturn, 1) := by decide +kernel
theorem dX6_through_44 : decode cX6_through 44 = .ok (.aload_n 0, 1) := by decide +kernel
theorem dX6_through_45 : decode cX6_through 45 = .ok (.iload_n 1, 1) := by decide +kernel
theorem dX6_through_46 : decode cX6_through 46 = .ok (.putfield 120, 3) := by decide +kernel
theorem dX6_through_49 : decode cX6_through 49 = .ok (.aload_n 0, 1) := by decide +kernel
theorem dX6_through_50 : decode cX6_through 50 = .ok (.iload_n 2, 1) := by decide +kernel
theorem dX6_through_51 : decode cX6_through 51 = .ok (.putfield 123, 3) := by decide +kernel
theorem dX6_through_54 : decode cX6_through 54 = .ok (.aload_n 0, 1) := by decide +kernel
theorem dX6_through_55 : decode cX6_through 55 = .ok (.invokevirtual 89, 3) := by decide +kernel
theorem dX6_through_58 : decode cX6_through 58 = .ok (.iconst 1, 1) := by decide +kernel
theorem dX6_through_59 : decode cX6_through 59 = .ok (.ireturn, 1) := by decide +kernel
theorem dX6_width_0 : decode cX6_width 0 = .ok (.aload_n 0, 1) := by decide +kernel
theorem dX6_width_1 : decode cX6_width 1 = .ok (.getfield 114, 3) := by decide +kernel
theorem dX6_width_4 : decode cX6_width 4 = .ok (.iload_n 1, 1) := by decide +kernel
theorem dX6_width_5 : decode cX6_width 5 = .ok (.aload_n 0, 1) := by decide +kernel
theorem dX6_width_6 : decode cX6_width 6 = .ok (.getfield 117, 3) := by decide +kernel
theorem dX6_width_9 : decode cX6_width 9 = .ok (.imul, 1) := by decide +kernel
theorem dX6_width_10 : decode cX6_width 10 = .ok (.isub, 1) := by decide +kernel
theorem dX6_width_11 : decode cX6_width 11 = .ok (.iconst 1, 1) := by decide +kernel
theorem dX6_width_12 : decode cX6_width 12 = .ok (.if_icmp .ge 7, 3) := by decide +kernel
theorem dX6_width_15 : decode cX6_width 15 = .ok (.iconst 1, 1) := by decide +kernel
theorem dX6_width_16 : decode cX6_width 16 = .ok (.goto 14, 3) := by decide +kernel
theorem dX6_width_19 : decode cX6_width 19 = .ok (.aload_n 0, 1) := by decide +kernel
theorem dX6_width_20 : decode cX6_width 20 = .ok (.getfield 114, 3) := by decide +kernel
theorem dX6_width_23 : decode cX6_width 23 = .ok (.iload_n 1, 1) := by decide +kernel
theorem dX6_width_24 : decode cX6_width 24 = .ok (.aload_n 0, 1) := by decide +kernel
theorem dX6_width_25 : decode cX6_width 25 = .ok (.getfield 117, 3) := by decide +kernel
theorem dX6_width_28 : decode cX6_width 28 = .ok (.imul, 1) := by decide +kernel
theorem dX6_width_29 : decode cX6_width 29 = .ok (.isub, 1) := by decide +kernel
theorem dX6_width_30 : decode cX6_width 30 = .ok (.ireturn, 1) := by decide +kernel
theorem dX6_inHeaps_0 : decode cX6_inHeaps 0 = .ok (.iconst 0, 1) := by decide +kernel
theorem dX6_inHeaps_1 : decode cX6_inHeaps 1 = .ok (.istore_n 2, 1) := by decide +kernel
theorem dX6_inHeaps_2 : decode cX6_inHeaps 2 = .ok (.iconst 0, 1) := by decide +kernel
theorem dX6_inHeaps_3 : decode cX6_inHeaps 3 = .ok (.istore_n 3, 1) := by decide +kernel
theorem dX6_inHeaps_4 : decode cX6_inHeaps 4 = .ok (.iload_n 3, 1) := by decide +kernel
theorem dX6_inHeaps_5 : decode cX6_inHeaps 5 = .ok (.aload_n 0, 1) := by decide +kernel
theorem dX6_inHeaps_6 : decode cX6_inHeaps 6 = .ok (.getfield 92, 3) := by decide +kernel
theorem dX6_inHeaps_9 : decode cX6_inHeaps 9 = .ok (.if_icmp .ge 23, 3) := by decide +kernel
theorem dX6_inHeaps_12 : decode cX6_inHeaps 12 = .ok (.iload_n 2, 1) := by decide +kernel
theorem dX6_inHeaps_13 : decode cX6_inHeaps 13 = .ok (.aload_n 0, 1) := by decide +kernel
theorem dX6_inHeaps_14 : decode cX6_inHeaps 14 = .ok (.getfield 22, 3) := by decide +kernel
theorem dX6_inHeaps_17 : decode cX6_inHeaps 17 = .ok (.bipush 8, 2) := by decide +kernel
theorem dX6_inHeaps_19 : decode cX6_inHeaps 19 = .ok (.iload_n 3, 1) := by decide +kernel
theorem dX6_inHeaps_20 : decode cX6_inHeaps 20 = .ok (.imul, 1) := by decide +kernel
theorem dX6_inHeaps_21 : decode cX6_inHeaps 21 = .ok (.iload_n 1, 1) := by decide +kernel
theorem dX6_inHeaps_22 : decode cX6_inHeaps 22 = .ok (.iadd, 1) := by decide +kernel
theorem dX6_inHeaps_23 : decode cX6_inHeaps 23 = .ok (.iaload, 1) := by decide +kernel
theorem dX6_inHeaps_24 : decode cX6_inHeaps 24 = .ok (.iadd, 1) := by decide +kernel
theorem dX6_inHeaps_25 : decode cX6_inHeaps 25 = .ok (.istore_n 2, 1) := by decide +kernel
theorem dX6_inHeaps_26 : decode cX6_inHeaps 26 = .ok (.iinc 3 1, 3) := by decide +kernel
theorem dX6_inHeaps_29 : decode cX6_inHeaps 29 = .ok (.goto (-25), 3) := by decide +kernel
theorem dX6_inHeaps_32 : decode cX6_inHeaps 32 = .ok (.iload_n 2, 1) := by decide +kernel
theorem dX6_inHeaps_33 : decode cX6_inHeaps 33 = .ok (.ireturn, 1) := by decide +kernel
set_option maxRecDepth 20000 in
theorem ggX6_can_X6_width : GoodIn wsX6_can wsX6_width := goodIn_r _ [11, 12, 13, 20, 21, 22, 23, 24, 25, 26, 27, 28, 29, 30, 31, 32, 33, 34, 35, 36, 37, 38, 39, 40, 41, 42, 43, 44, 45, 46, 47, 48, 49, 50, 51, 52, 53, 54, 55, 56] (by decide +kernel) (by decide +kernel)
set_option maxRecDepth 20000 in
theorem gX6_can_X6_width : GoodIn wsX6_can (wsV RX6 126 RX6 yX6_width wsX6_width) := goodIn_app (goodIn_of _ (by decide +kernel)) ggX6_can_X6_width
set_option maxRecDepth 20000 in
theorem ggX6_can_X6_inHeaps : GoodIn wsX6_can wsX6_inHeaps := goodIn_r _ [17, 18, 19, 20, 21, 22, 23, 24, 25, 26, 27, 28, 29, 30, 31, 32, 33, 34, 35, 36, 37, 38, 39, 40, 41, 42, 43, 44, 45, 46, 47, 48, 49, 50, 51, 52, 53, 54, 55, 56] (by decide +kernel) (by decide +kernel)
set_option maxRecDepth 20000 in
theorem gX6_can_X6_inHeaps : GoodIn wsX6_can (wsV RX6 130 RX6 yX6_inHeaps wsX6_inHeaps) := goodIn_app (goodIn_of _ (by decide +kernel)) ggX6_can_X6_inHeaps
theorem dX6_can_0 : decode cX6_can 0 = .ok (.iload 4, 2) := by decide +kernel
theorem dX6_can_2 : decode cX6_can 2 = .ok (.aload_n 0, 1) := by decide +kernel
theorem dX6_can_3 : decode cX6_can 3 = .ok (.getfield 7, 3) := by decide +kernel
theorem dX6_can_6 : decode cX6_can 6 = .ok (.iload_n 1, 1) := by decide +kernel
theorem dX6_can_7 : decode cX6_can 7 = .ok (.iaload, 1) := by decide +kernel
theorem dX6_can_8 : decode cX6_can 8 = .ok (.iadd, 1) := by decide +kernel
theorem dX6_can_9 : decode cX6_can 9 = .ok (.istore 5, 2) := by decide +kernel
theorem dX6_can_11 : decode cX6_can 11 = .ok (.aload_n 0, 1) := by decide +kernel
theorem dX6_can_12 : decode cX6_can 12 = .ok (.getfield 13, 3) := by decide +kernel
theorem dX6_can_15 : decode cX6_can 15 = .ok (.iload_n 1, 1) := by decide +kernel
theorem dX6_can_16 : decode cX6_can 16 = .ok (.iaload, 1) := by decide +kernel
theorem dX6_can_17 : decode cX6_can 17 = .ok (.aload_n 0, 1) := by decide +kernel
theorem dX6_can_18 : decode cX6_can 18 = .ok (.iload_n 3, 1) := by decide +kernel
theorem dX6_can_19 : decode cX6_can 19 = .ok (.invokevirtual 126, 3) := by decide +kernel
theorem dX6_can_22 : decode cX6_can 22 = .ok (.iconst 1, 1) := by decide +kernel
theorem dX6_can_23 : decode cX6_can 23 = .ok (.iadd, 1) := by decide +kernel
theorem dX6_can_24 : decode cX6_can 24 = .ok (.if_icmp .gt 26, 3) := by decide +kernel
theorem dX6_can_27 : decode cX6_can 27 = .ok (.iload 5, 2) := by decide +kernel
theorem dX6_can_29 : decode cX6_can 29 = .ok (.aload_n 0, 1) := by decide +kernel
theorem dX6_can_30 : decode cX6_can 30 = .ok (.getfield 108, 3) := by decide +kernel
theorem dX6_can_33 : decode cX6_can 33 = .ok (.if_icmp .gt 17, 3) := by decide +kernel
theorem dX6_can_36 : decode cX6_can 36 = .ok (.aload_n 0, 1) := by decide +kernel
theorem dX6_can_37 : decode cX6_can 37 = .ok (.iload_n 1, 1) := by decide +kernel
theorem dX6_can_38 : decode cX6_can 38 = .ok (.invokevirtual 130, 3) := by decide +kernel
theorem dX6_can_41 : decode cX6_can 41 = .ok (.aload_n 0, 1) := by decide +kernel
theorem dX6_can_42 : decode cX6_can 42 = .ok (.getfield 47, 3) := by decide +kernel
theorem dX6_can_45 : decode cX6_can 45 = .ok (.iload_n 1, 1) := by decide +kernel
theorem dX6_can_46 : decode cX6_can 46 = .ok (.iaload, 1) := by decide +kernel
theorem dX6_can_47 : decode cX6_can 47 = .ok (.if_icmp .gt 5, 3) := by decide +kernel
theorem dX6_can_50 : decode cX6_can 50 = .ok (.iconst 0, 1) := by decide +kernel
theorem dX6_can_51 : decode cX6_can 51 = .ok (.ireturn, 1) := by decide +kernel
theorem dX6_can_52 : decode cX6_can 52 = .ok (.iconst 0, 1) := by decide +kernel
theorem dX6_can_53 : decode cX6_can 53 = .ok (.istore 6, 2) := by decide +kernel
theorem dX6_can_55 : decode cX6_can 55 = .ok (.iload 6, 2) := by decide +kernel
theorem dX6_can_57 : decode cX6_can 57 = .ok (.iload_n 2, 1) := by decide +kernel
theorem dX6_can_58 : decode cX6_can 58 = .ok (.if_icmp .ge 45, 3) := by decide +kernel
theorem dX6_can_61 : decode cX6_can 61 = .ok (.iload 5, 2) := by decide +kernel
theorem dX6_can_63 : decode cX6_can 63 = .ok (.aload_n 0, 1) := by decide +kernel
theorem dX6_can_64 : decode cX6_can 64 = .ok (.getfield 108, 3) := by decide +kernel
theorem dX6_can_67 : decode cX6_can 67 = .ok (.if_icmp .ge 36, 3) := by decide +kernel
theorem dX6_can_70 : decode cX6_can 70 = .ok (.aload_n 0, 1) := by decide +kernel
theorem dX6_can_71 : decode cX6_can 71 = .ok (.getfield 31, 3) := by decide +kernel
theorem dX6_can_74 : decode cX6_can 74 = .ok (.iload 6, 2) := by decide +kernel
theorem dX6_can_76 : decode cX6_can 76 = .ok (.iaload, 1) := by decide +kernel
theorem dX6_can_77 : decode cX6_can 77 = .ok (.iload_n 3, 1) := by decide +kernel
theorem dX6_can_78 : decode cX6_can 78 = .ok (.iconst 1, 1) := by decide +kernel
theorem dX6_can_79 : decode cX6_can 79 = .ok (.isub, 1) := by decide +kernel
theorem dX6_can_80 : decode cX6_can 80 = .ok (.if_icmp .ne 17, 3) := by decide +kernel
theorem dX6_can_83 : decode cX6_can 83 = .ok (.aload_n 0, 1) := by decide +kernel
theorem dX6_can_84 : decode cX6_can 84 = .ok (.getfield 34, 3) := by decide +kernel
theorem dX6_can_87 : decode cX6_can 87 = .ok (.iload 6, 2) := by decide +kernel
theorem dX6_can_89 : decode cX6_can 89 = .ok (.iaload, 1) := by decide +kernel
theorem dX6_can_90 : decode cX6_can 90 = .ok (.iload 5, 2) := by decide +kernel
theorem dX6_can_92 : decode cX6_can 92 = .ok (.if_icmp .ne 5, 3) := by decide +kernel
theorem dX6_can_95 : decode cX6_can 95 = .ok (.iconst 0, 1) := by decide +kernel
theorem dX6_can_96 : decode cX6_can 96 = .ok (.ireturn, 1) := by decide +kernel
theorem dX6_can_97 : decode cX6_can 97 = .ok (.iinc 6 1, 3) := by decide +kernel
theorem dX6_can_100 : decode cX6_can 100 = .ok (.goto (-45), 3) := by decide +kernel
theorem dX6_can_103 : decode cX6_can 103 = .ok (.iconst 1, 1) := by decide +kernel
theorem dX6_can_104 : decode cX6_can 104 = .ok (.ireturn, 1) := by decide +kernel
set_option maxRecDepth 20000 in
theorem ggX6_isFull_X6_width : GoodIn wsX6_isFull wsX6_width := goodIn_r _ [10, 11, 12, 13, 14, 15, 16, 17, 18, 19, 20, 21, 22, 23, 24, 25, 26, 27, 28, 29, 30, 31, 32, 33, 34, 35, 36, 37, 38, 39, 40, 41, 42, 43, 44, 45, 46, 47, 48, 49] (by decide +kernel) (by decide +kernel)
set_option maxRecDepth 20000 in
theorem gX6_isFull_X6_width : GoodIn wsX6_isFull (wsV RX6 126 RX6 yX6_width wsX6_width) := goodIn_app (goodIn_of _ (by decide +kernel)) ggX6_isFull_X6_width
theorem dX6_isFull_0 : decode cX6_isFull 0 = .ok (.aload_n 0, 1) := by decide +kernel
theorem dX6_isFull_1 : decode cX6_isFull 1 = .ok (.getfield 120, 3) := by decide +kernel
theorem dX6_isFull_4 : decode cX6_isFull 4 = .ok (.iload_n 1, 1) := by decide +kernel
theorem dX6_isFull_5 : decode cX6_isFull 5 = .ok (.ishr, 1) := by decide +kernel
theorem dX6_isFull_6 : decode cX6_isFull 6 = .ok (.iconst 1, 1) := by decide +kernel
theorem dX6_isFull_7 : decode cX6_isFull 7 = .ok (.iand, 1) := by decide +kernel
theorem dX6_isFull_8 : decode cX6_isFull 8 = .ok (.ifCond .ne 5, 3) := by decide +kernel
theorem dX6_isFull_11 : decode cX6_isFull 11 = .ok (.iconst 1, 1) := by decide +kernel
theorem dX6_isFull_12 : decode cX6_isFull 12 = .ok (.ireturn, 1) := by decide +kernel
theorem dX6_isFull_13 : decode cX6_isFull 13 = .ok (.iconst 0, 1) := by decide +kernel
theorem dX6_isFull_14 : decode cX6_isFull 14 = .ok (.istore_n 3, 1) := by decide +kernel
theorem dX6_isFull_15 : decode cX6_isFull 15 = .ok (.iconst 0, 1) := by decide +kernel
theorem dX6_isFull_16 : decode cX6_isFull 16 = .ok (.istore 4, 2) := by decide +kernel
theorem dX6_isFull_18 : decode cX6_isFull 18 = .ok (.iload 4, 2) := by decide +kernel
theorem dX6_isFull_20 : decode cX6_isFull 20 = .ok (.iload_n 2, 1) := by decide +kernel
theorem dX6_isFull_21 : decode cX6_isFull 21 = .ok (.if_icmp .ge 48, 3) := by decide +kernel
theorem dX6_isFull_24 : decode cX6_isFull 24 = .ok (.iload_n 3, 1) := by decide +kernel
theorem dX6_isFull_25 : decode cX6_isFull 25 = .ok (.aload_n 0, 1) := by decide +kernel
theorem dX6_isFull_26 : decode cX6_isFull 26 = .ok (.getfield 31, 3) := by decide +kernel
theorem dX6_isFull_29 : decode cX6_isFull 29 = .ok (.iload 4, 2) := by decide +kernel
theorem dX6_isFull_31 : decode cX6_isFull 31 = .ok (.iaload, 1) := by decide +kernel
theorem dX6_isFull_32 : decode cX6_isFull 32 = .ok (.iload_n 1, 1) := by decide +kernel
theorem dX6_isFull_33 : decode cX6_isFull 33 = .ok (.if_icmp .ne 27, 3) := by decide +kernel
theorem dX6_isFull_36 : decode cX6_isFull 36 = .ok (.aload_n 0, 1) := by decide +kernel
theorem dX6_isFull_37 : decode cX6_isFull 37 = .ok (.getfield 13, 3) := by decide +kernel
theorem dX6_isFull_40 : decode cX6_isFull 40 = .ok (.aload_n 0, 1) := by decide +kernel
theorem dX6_isFull_41 : decode cX6_isFull 41 = .ok (.getfield 28, 3) := by decide +kernel
theorem dX6_isFull_44 : decode cX6_isFull 44 = .ok (.iload 4, 2) := by decide +kernel
theorem dX6_isFull_46 : decode cX6_isFull 46 = .ok (.iaload, 1) := by decide +kernel
theorem dX6_isFull_47 : decode cX6_isFull 47 = .ok (.iaload, 1) := by decide +kernel
theorem dX6_isFull_48 : decode cX6_isFull 48 = .ok (.aload_n 0, 1) := by decide +kernel
theorem dX6_isFull_49 : decode cX6_isFull 49 = .ok (.iload_n 1, 1) := by decide +kernel
theorem dX6_isFull_50 : decode cX6_isFull 50 = .ok (.invokevirtual 126, 3) := by decide +kernel
theorem dX6_isFull_53 : decode cX6_isFull 53 = .ok (.if_icmp .lt 7, 3) := by decide +kernel
theorem dX6_isFull_56 : decode cX6_isFull 56 = .ok (.iconst 1, 1) := by decide +kernel
theorem dX6_isFull_57 : decode cX6_isFull 57 = .ok (.goto 4, 3) := by decide +kernel
theorem dX6_isFull_60 : decode cX6_isFull 60 = .ok (.iconst 0, 1) := by decide +kernel
theorem dX6_isFull_61 : decode cX6_isFull 61 = .ok (.iadd, 1) := by decide +kernel
theorem dX6_isFull_62 : decode cX6_isFull 62 = .ok (.istore_n 3, 1) := by decide +kernel
theorem dX6_isFull_63 : decode cX6_isFull 63 = .ok (.iinc 4 1, 3) := by decide +kernel
theorem dX6_isFull_66 : decode cX6_isFull 66 = .ok (.goto (-48), 3) := by decide +kernel
theorem dX6_isFull_69 : decode cX6_isFull 69 = .ok (.iload_n 3, 1) := by decide +kernel
theorem dX6_isFull_70 : decode cX6_isFull 70 = .ok (.aload_n 0, 1) := by decide +kernel
theorem dX6_isFull_71 : decode cX6_isFull 71 = .ok (.getfield 123, 3) := by decide +kernel
theorem dX6_isFull_74 : decode cX6_isFull 74 = .ok (.if_icmp .lt 7, 3) := by decide +kernel
theorem dX6_isFull_77 : decode cX6_isFull 77 = .ok (.iconst 1, 1) := by decide +kernel
theorem dX6_isFull_78 : decode cX6_isFull 78 = .ok (.goto 4, 3) := by decide +kernel
theorem dX6_isFull_81 : decode cX6_isFull 81 = .ok (.iconst 0, 1) := by decide +kernel
theorem dX6_isFull_82 : decode cX6_isFull 82 = .ok (.ireturn, 1) := by decide +kernel
set_option maxRecDepth 20000 in
theorem ggX6_plan_X6_noPlan : GoodIn wsX6_plan wsX6_noPlan := goodIn_r _ [22, 14, 15, 45, 46, 47, 48, 49, 50, 51, 52, 53, 54, 55, 56, 57, 58, 59, 60, 61, 62, 63, 64, 65, 66, 67, 68, 69, 70, 71, 72, 73, 74, 75, 76, 77, 78, 79, 80, 81] (by decide +kernel) (by decide +kernel)
set_option maxRecDepth 20000 in
theorem gX6_plan_X6_noPlan : GoodIn wsX6_plan (wsV RX6 89 RX6 yX6_noPlan wsX6_noPlan) := goodIn_app (goodIn_of _ (by decide +kernel)) ggX6_plan_X6_noPlan
set_option maxRecDepth 20000 in
theorem ggX6_plan_X6_can : GoodIn wsX6_plan wsX6_can := goodIn_r _ [26, 12, 27, 13, 5, 10, 11, 28, 29, 30, 21, 31, 32, 33, 34, 35, 36, 37, 38, 17, 45, 46, 47, 48, 49, 50, 51, 52, 53, 54, 55, 56, 57, 58, 59, 60, 61, 62, 63, 64, 65, 66, 67, 68, 69, 70, 71, 72, 73, 74, 75, 76, 77, 78, 79, 80, 81] (by decide +kernel) (by decide +kernel)
set_option maxRecDepth 20000 in
theorem gX6_plan_X6_can : GoodIn wsX6_plan (wsV RX6 136 RX6 yX6_can wsX6_can) := goodIn_app (goodIn_of _ (by decide +kernel)) ggX6_plan_X6_can
set_option maxRecDepth 20000 in
theorem ggX6_plan_X6_isFull : GoodIn wsX6_plan wsX6_isFull := goodIn_r _ [42, 43, 10, 27, 9, 44, 28, 29, 30, 21, 31, 32, 33, 45, 46, 47, 48, 49, 50, 51, 52, 53, 54, 55, 56, 57, 58, 59, 60, 61, 62, 63, 64, 65, 66, 67, 68, 69, 70, 71, 72, 73, 74, 75, 76, 77, 78, 79, 80, 81] (by decide +kernel) (by decide +kernel)
set_option maxRecDepth 20000 in
theorem gX6_plan_X6_isFull : GoodIn wsX6_plan (wsV RX6 140 RX6 yX6_isFull wsX6_isFull) := goodIn_app (goodIn_of _ (by decide +kernel)) ggX6_plan_X6_isFull
theorem dX6_plan_0 : decode cX6_plan 0 = .ok (.aload_n 0, 1) := by decide +kernel
theorem dX6_plan_1 : decode cX6_plan 1 = .ok (.iconst 0, 1) := by decide +kernel
theorem dX6_plan_2 : decode cX6_plan 2 = .ok (.putfield 72, 3) := by decide +kernel
theorem dX6_plan_5 : decode cX6_plan 5 = .ok (.aload_n 0, 1) := by decide +kernel
theorem dX6_plan_6 : decode cX6_plan 6 = .ok (.getfield 83, 3) := by decide +kernel
theorem dX6_plan_9 : decode cX6_plan 9 = .ok (.ifCond .ne 10, 3) := by decide +kernel
theorem dX6_plan_12 : decode cX6_plan 12 = .ok (.aload_n 0, 1) := by decide +kernel
theorem dX6_plan_13 : decode cX6_plan 13 = .ok (.getfield 99, 3) := by decide +kernel
theorem dX6_plan_16 : decode cX6_plan 16 = .ok (.ifCond .ne 5, 3) := by decide +kernel
theorem dX6_plan_19 : decode cX6_plan 19 = .ok (.iconst (-1), 1) := by decide +kernel
theorem dX6_plan_20 : decode cX6_plan 20 = .ok (.ireturn, 1) := by decide +kernel
theorem dX6_plan_21 : decode cX6_plan 21 = .ok (.aload_n 0, 1) := by decide +kernel
theorem dX6_plan_22 : decode cX6_plan 22 = .ok (.invokevirtual 89, 3) := by decide +kernel
theorem dX6_plan_25 : decode cX6_plan 25 = .ok (.aload_n 0, 1) := by decide +kernel
theorem dX6_plan_26 : decode cX6_plan 26 = .ok (.iconst 0, 1) := by decide +kernel
theorem dX6_plan_27 : decode cX6_plan 27 = .ok (.putfield 133, 3) := by decide +kernel
theorem dX6_plan_30 : decode cX6_plan 30 = .ok (.iconst 0, 1) := by decide +kernel
theorem dX6_plan_31 : decode cX6_plan 31 = .ok (.istore_n 1, 1) := by decide +kernel
theorem dX6_plan_32 : decode cX6_plan 32 = .ok (.iload_n 1, 1) := by decide +kernel
theorem dX6_plan_33 : decode cX6_plan 33 = .ok (.bipush 8, 2) := by decide +kernel
theorem dX6_plan_35 : decode cX6_plan 35 = .ok (.if_icmp .ge 16, 3) := by decide +kernel
theorem dX6_plan_38 : decode cX6_plan 38 = .ok (.aload_n 0, 1) := by decide +kernel
theorem dX6_plan_39 : decode cX6_plan 39 = .ok (.getfield 47, 3) := by decide +kernel
theorem dX6_plan_42 : decode cX6_plan 42 = .ok (.iload_n 1, 1) := by decide +kernel
theorem dX6_plan_43 : decode cX6_plan 43 = .ok (.iconst 0, 1) := by decide +kernel
theorem dX6_plan_44 : decode cX6_plan 44 = .ok (.iastore, 1) := by decide +kernel
theorem dX6_plan_45 : decode cX6_plan 45 = .ok (.iinc 1 1, 3) := by decide +kernel
theorem dX6_plan_48 : decode cX6_plan 48 = .ok (.goto (-16), 3) := by decide +kernel
theorem dX6_plan_51 : decode cX6_plan 51 = .ok (.iconst 0, 1) := by decide +kernel
theorem dX6_plan_52 : decode cX6_plan 52 = .ok (.istore_n 1, 1) := by decide +kernel
theorem dX6_plan_53 : decode cX6_plan 53 = .ok (.iconst 0, 1) := by decide +kernel
theorem dX6_plan_54 : decode cX6_plan 54 = .ok (.istore_n 2, 1) := by decide +kernel
theorem dX6_plan_55 : decode cX6_plan 55 = .ok (.iconst 0, 1) := by decide +kernel
theorem dX6_plan_56 : decode cX6_plan 56 = .ok (.istore_n 3, 1) := by decide +kernel
theorem dX6_plan_57 : decode cX6_plan 57 = .ok (.aload_n 0, 1) := by decide +kernel
theorem dX6_plan_58 : decode cX6_plan 58 = .ok (.getfield 50, 3) := by decide +kernel
theorem dX6_plan_61 : decode cX6_plan 61 = .ok (.iconst 0, 1) := by decide +kernel
theorem dX6_plan_62 : decode cX6_plan 62 = .ok (.iconst 0, 1) := by decide +kernel
theorem dX6_plan_63 : decode cX6_plan 63 = .ok (.iastore, 1) := by decide +kernel
theorem dX6_plan_64 : decode cX6_plan 64 = .ok (.iload_n 1, 1) := by decide +kernel
theorem dX6_plan_65 : decode cX6_plan 65 = .ok (.ifCond .lt 240, 3) := by decide +kernel
theorem dX6_plan_68 : decode cX6_plan 68 = .ok (.iload_n 2, 1) := by decide +kernel
theorem dX6_plan_69 : decode cX6_plan 69 = .ok (.aload_n 0, 1) := by decide +kernel
theorem dX6_plan_70 : decode cX6_plan 70 = .ok (.getfield 111, 3) := by decide +kernel
theorem dX6_plan_73 : decode cX6_plan 73 = .ok (.if_icmp .ge 232, 3) := by decide +kernel
theorem dX6_plan_76 : decode cX6_plan 76 = .ok (.aload_n 0, 1) := by decide +kernel
theorem dX6_plan_77 : decode cX6_plan 77 = .ok (.getfield 50, 3) := by decide +kernel
theorem dX6_plan_80 : decode cX6_plan 80 = .ok (.iload_n 1, 1) := by decide +kernel
theorem dX6_plan_81 : decode cX6_plan 81 = .ok (.iaload, 1) := by decide +kernel
theorem dX6_plan_82 : decode cX6_plan 82 = .ok (.istore 4, 2) := by decide +kernel
theorem dX6_plan_84 : decode cX6_plan 84 = .ok (.iload 4, 2) := by decide +kernel
theorem dX6_plan_86 : decode cX6_plan 86 = .ok (.aload_n 0, 1) := by decide +kernel
theorem dX6_plan_87 : decode cX6_plan 87 = .ok (.getfield 86, 3) := by decide +kernel
theorem dX6_plan_90 : decode cX6_plan 90 = .ok (.if_icmp .ge 21, 3) := by decide +kernel
theorem dX6_plan_93 : decode cX6_plan 93 = .ok (.aload_n 0, 1) := by decide +kernel
theorem dX6_plan_94 : decode cX6_plan 94 = .ok (.iload 4, 2) := by decide +kernel
theorem dX6_plan_96 : decode cX6_plan 96 = .ok (.iload_n 1, 1) := by decide +kernel
theorem dX6_plan_97 : decode cX6_plan 97 = .ok (.iload_n 2, 1) := by decide +kernel
theorem dX6_plan_98 : decode cX6_plan 98 = .ok (.iload_n 3, 1) := by decide +kernel
theorem dX6_plan_99 : decode cX6_plan 99 = .ok (.invokevirtual 136, 3) := by decide +kernel
theorem dX6_plan_102 : decode cX6_plan 102 = .ok (.ifCond .ne 9, 3) := by decide +kernel
theorem dX6_plan_105 : decode cX6_plan 105 = .ok (.iinc 4 1, 3) := by decide +kernel
theorem dX6_plan_108 : decode cX6_plan 108 = .ok (.goto (-24), 3) := by decide +kernel
theorem dX6_plan_111 : decode cX6_plan 111 = .ok (.iload 4, 2) := by decide +kernel
theorem dX6_plan_113 : decode cX6_plan 113 = .ok (.aload_n 0, 1) := by decide +kernel
theorem dX6_plan_114 : decode cX6_plan 114 = .ok (.getfield 86, 3) := by decide +kernel
theorem dX6_plan_117 : decode cX6_plan 117 = .ok (.if_icmp .ne 56, 3) := by decide +kernel
theorem dX6_plan_120 : decode cX6_plan 120 = .ok (.iinc 1 (-1), 3) := by decide +kernel
theorem dX6_plan_123 : decode cX6_plan 123 = .ok (.iload_n 1, 1) := by decide +kernel
theorem dX6_plan_124 : decode cX6_plan 124 = .ok (.ifCond .lt (-60), 3) := by decide +kernel
theorem dX6_plan_127 : decode cX6_plan 127 = .ok (.aload_n 0, 1) := by decide +kernel
theorem dX6_plan_128 : decode cX6_plan 128 = .ok (.getfield 47, 3) := by decide +kernel
theorem dX6_plan_131 : decode cX6_plan 131 = .ok (.aload_n 0, 1) := by decide +kernel
theorem dX6_plan_132 : decode cX6_plan 132 = .ok (.getfield 28, 3) := by decide +kernel
theorem dX6_plan_135 : decode cX6_plan 135 = .ok (.iload_n 1, 1) := by decide +kernel
theorem dX6_plan_136 : decode cX6_plan 136 = .ok (.iaload, 1) := by decide +kernel
theorem dX6_plan_137 : decode cX6_plan 137 = .ok (.dup2, 1) := by decide +kernel
theorem dX6_plan_138 : decode cX6_plan 138 = .ok (.iaload, 1) := by decide +kernel
theorem dX6_plan_139 : decode cX6_plan 139 = .ok (.iconst 1, 1) := by decide +kernel
theorem dX6_plan_140 : decode cX6_plan 140 = .ok (.isub, 1) := by decide +kernel
theorem dX6_plan_141 : decode cX6_plan 141 = .ok (.iastore, 1) := by decide +kernel
theorem dX6_plan_142 : decode cX6_plan 142 = .ok (.aload_n 0, 1) := by decide +kernel
theorem dX6_plan_143 : decode cX6_plan 143 = .ok (.getfield 31, 3) := by decide +kernel
theorem dX6_plan_146 : decode cX6_plan 146 = .ok (.iload_n 1, 1) := by decide +kernel
theorem dX6_plan_147 : decode cX6_plan 147 = .ok (.iaload, 1) := by decide +kernel
theorem dX6_plan_148 : decode cX6_plan 148 = .ok (.istore_n 2, 1) := by decide +kernel
theorem dX6_plan_149 : decode cX6_plan 149 = .ok (.aload_n 0, 1) := by decide +kernel
theorem dX6_plan_150 : decode cX6_plan 150 = .ok (.getfield 34, 3) := by decide +kernel
theorem dX6_plan_153 : decode cX6_plan 153 = .ok (.iload_n 1, 1) := by decide +kernel
theorem dX6_plan_154 : decode cX6_plan 154 = .ok (.iaload, 1) := by decide +kernel
theorem dX6_plan_155 : decode cX6_plan 155 = .ok (.istore_n 3, 1) := by decide +kernel
theorem dX6_plan_156 : decode cX6_plan 156 = .ok (.aload_n 0, 1) := by decide +kernel
theorem dX6_plan_157 : decode cX6_plan 157 = .ok (.getfield 50, 3) := by decide +kernel
theorem dX6_plan_160 : decode cX6_plan 160 = .ok (.iload_n 1, 1) := by decide +kernel
theorem dX6_plan_161 : decode cX6_plan 161 = .ok (.aload_n 0, 1) := by decide +kernel
theorem dX6_plan_162 : decode cX6_plan 162 = .ok (.getfield 28, 3) := by decide +kernel
theorem dX6_plan_165 : decode cX6_plan 165 = .ok (.iload_n 1, 1) := by decide +kernel
theorem dX6_plan_166 : decode cX6_plan 166 = .ok (.iaload, 1) := by decide +kernel
theorem dX6_plan_167 : decode cX6_plan 167 = .ok (.iconst 1, 1) := by decide +kernel
theorem dX6_plan_168 : decode cX6_plan 168 = .ok (.iadd, 1) := by decide +kernel
theorem dX6_plan_169 : decode cX6_plan 169 = .ok (.iastore, 1) := by decide +kernel
theorem dX6_plan_170 : decode cX6_plan 170 = .ok (.goto (-106), 3) := by decide +kernel
theorem dX6_plan_173 : decode cX6_plan 173 = .ok (.aload_n 0, 1) := by decide +kernel
theorem dX6_plan_174 : decode cX6_plan 174 = .ok (.getfield 133, 3) := by decide +kernel
theorem dX6_plan_177 : decode cX6_plan 177 = .ok (.sipush 20000, 3) := by decide +kernel
theorem dX6_plan_180 : decode cX6_plan 180 = .ok (.if_icmp .ne 6, 3) := by decide +kernel
theorem dX6_plan_183 : decode cX6_plan 183 = .ok (.bipush (-2), 2) := by decide +kernel
theorem dX6_plan_185 : decode cX6_plan 185 = .ok (.ireturn, 1) := by decide +kernel
theorem dX6_plan_186 : decode cX6_plan 186 = .ok (.aload_n 0, 1) := by decide +kernel
theorem dX6_plan_187 : decode cX6_plan 187 = .ok (.dup, 1) := by decide +kernel
theorem dX6_plan_188 : decode cX6_plan 188 = .ok (.getfield 133, 3) := by decide +kernel
theorem dX6_plan_191 : decode cX6_plan 191 = .ok (.iconst 1, 1) := by decide +kernel
theorem dX6_plan_192 : decode cX6_plan 192 = .ok (.iadd, 1) := by decide +kernel
theorem dX6_plan_193 : decode cX6_plan 193 = .ok (.putfield 133, 3) := by decide +kernel
theorem dX6_plan_196 : decode cX6_plan 196 = .ok (.aload_n 0, 1) := by decide +kernel
theorem dX6_plan_197 : decode cX6_plan 197 = .ok (.getfield 28, 3) := by decide +kernel
theorem dX6_plan_200 : decode cX6_plan 200 = .ok (.iload_n 1, 1) := by decide +kernel
theorem dX6_plan_201 : decode cX6_plan 201 = .ok (.iload 4, 2) := by decide +kernel
theorem dX6_plan_203 : decode cX6_plan 203 = .ok (.iastore, 1) := by decide +kernel
theorem dX6_plan_204 : decode cX6_plan 204 = .ok (.aload_n 0, 1) := by decide +kernel
theorem dX6_plan_205 : decode cX6_plan 205 = .ok (.getfield 31, 3) := by decide +kernel
theorem dX6_plan_208 : decode cX6_plan 208 = .ok (.iload_n 1, 1) := by decide +kernel
theorem dX6_plan_209 : decode cX6_plan 209 = .ok (.iload_n 2, 1) := by decide +kernel
theorem dX6_plan_210 : decode cX6_plan 210 = .ok (.iastore, 1) := by decide +kernel
theorem dX6_plan_211 : decode cX6_plan 211 = .ok (.aload_n 0, 1) := by decide +kernel
theorem dX6_plan_212 : decode cX6_plan 212 = .ok (.getfield 34, 3) := by decide +kernel
theorem dX6_plan_215 : decode cX6_plan 215 = .ok (.iload_n 1, 1) := by decide +kernel
theorem dX6_plan_216 : decode cX6_plan 216 = .ok (.iload_n 3, 1) := by decide +kernel
theorem dX6_plan_217 : decode cX6_plan 217 = .ok (.iastore, 1) := by decide +kernel
theorem dX6_plan_218 : decode cX6_plan 218 = .ok (.iload_n 3, 1) := by decide +kernel
theorem dX6_plan_219 : decode cX6_plan 219 = .ok (.aload_n 0, 1) := by decide +kernel
theorem dX6_plan_220 : decode cX6_plan 220 = .ok (.getfield 7, 3) := by decide +kernel
theorem dX6_plan_223 : decode cX6_plan 223 = .ok (.iload 4, 2) := by decide +kernel
theorem dX6_plan_225 : decode cX6_plan 225 = .ok (.iaload, 1) := by decide +kernel
theorem dX6_plan_226 : decode cX6_plan 226 = .ok (.iadd, 1) := by decide +kernel
theorem dX6_plan_227 : decode cX6_plan 227 = .ok (.aload_n 0, 1) := by decide +kernel
theorem dX6_plan_228 : decode cX6_plan 228 = .ok (.getfield 108, 3) := by decide +kernel
theorem dX6_plan_231 : decode cX6_plan 231 = .ok (.if_icmp .ne 27, 3) := by decide +kernel
theorem dX6_plan_234 : decode cX6_plan 234 = .ok (.aload_n 0, 1) := by decide +kernel
theorem dX6_plan_235 : decode cX6_plan 235 = .ok (.iload_n 2, 1) := by decide +kernel
theorem dX6_plan_236 : decode cX6_plan 236 = .ok (.iload_n 1, 1) := by decide +kernel
theorem dX6_plan_237 : decode cX6_plan 237 = .ok (.iconst 1, 1) := by decide +kernel
theorem dX6_plan_238 : decode cX6_plan 238 = .ok (.iadd, 1) := by decide +kernel
theorem dX6_plan_239 : decode cX6_plan 239 = .ok (.invokevirtual 140, 3) := by decide +kernel
theorem dX6_plan_242 : decode cX6_plan 242 = .ok (.ifCond .ne 16, 3) := by decide +kernel
theorem dX6_plan_245 : decode cX6_plan 245 = .ok (.aload_n 0, 1) := by decide +kernel
theorem dX6_plan_246 : decode cX6_plan 246 = .ok (.getfield 50, 3) := by decide +kernel
theorem dX6_plan_249 : decode cX6_plan 249 = .ok (.iload_n 1, 1) := by decide +kernel
theorem dX6_plan_250 : decode cX6_plan 250 = .ok (.iload 4, 2) := by decide +kernel
theorem dX6_plan_252 : decode cX6_plan 252 = .ok (.iconst 1, 1) := by decide +kernel
theorem dX6_plan_253 : decode cX6_plan 253 = .ok (.iadd, 1) := by decide +kernel
theorem dX6_plan_254 : decode cX6_plan 254 = .ok (.iastore, 1) := by decide +kernel
theorem dX6_plan_255 : decode cX6_plan 255 = .ok (.goto (-191), 3) := by decide +kernel
theorem dX6_plan_258 : decode cX6_plan 258 = .ok (.aload_n 0, 1) := by decide +kernel
theorem dX6_plan_259 : decode cX6_plan 259 = .ok (.getfield 47, 3) := by decide +kernel
theorem dX6_plan_262 : decode cX6_plan 262 = .ok (.iload 4, 2) := by decide +kernel
theorem dX6_plan_264 : decode cX6_plan 264 = .ok (.dup2, 1) := by decide +kernel
theorem dX6_plan_265 : decode cX6_plan 265 = .ok (.iaload, 1) := by decide +kernel
theorem dX6_plan_266 : decode cX6_plan 266 = .ok (.iconst 1, 1) := by decide +kernel
theorem dX6_plan_267 : decode cX6_plan 267 = .ok (.iadd, 1) := by decide +kernel
theorem dX6_plan_268 : decode cX6_plan 268 = .ok (.iastore, 1) := by decide +kernel
theorem dX6_plan_269 : decode cX6_plan 269 = .ok (.iload_n 3, 1) := by decide +kernel
theorem dX6_plan_270 : decode cX6_plan 270 = .ok (.aload_n 0, 1) := by decide +kernel
theorem dX6_plan_271 : decode cX6_plan 271 = .ok (.getfield 7, 3) := by decide +kernel
theorem dX6_plan_274 : decode cX6_plan 274 = .ok (.iload 4, 2) := by decide +kernel
theorem dX6_plan_276 : decode cX6_plan 276 = .ok (.iaload, 1) := by decide +kernel
theorem dX6_plan_277 : decode cX6_plan 277 = .ok (.iadd, 1) := by decide +kernel
theorem dX6_plan_278 : decode cX6_plan 278 = .ok (.istore_n 3, 1) := by decide +kernel
theorem dX6_plan_279 : decode cX6_plan 279 = .ok (.iload_n 3, 1) := by decide +kernel
theorem dX6_plan_280 : decode cX6_plan 280 = .ok (.aload_n 0, 1) := by decide +kernel
theorem dX6_plan_281 : decode cX6_plan 281 = .ok (.getfield 108, 3) := by decide +kernel
theorem dX6_plan_284 : decode cX6_plan 284 = .ok (.if_icmp .ne 8, 3) := by decide +kernel
theorem dX6_plan_287 : decode cX6_plan 287 = .ok (.iinc 2 1, 3) := by decide +kernel
theorem dX6_plan_290 : decode cX6_plan 290 = .ok (.iconst 0, 1) := by decide +kernel
theorem dX6_plan_291 : decode cX6_plan 291 = .ok (.istore_n 3, 1) := by decide +kernel
theorem dX6_plan_292 : decode cX6_plan 292 = .ok (.iinc 1 1, 3) := by decide +kernel
theorem dX6_plan_295 : decode cX6_plan 295 = .ok (.aload_n 0, 1) := by decide +kernel
theorem dX6_plan_296 : decode cX6_plan 296 = .ok (.getfield 50, 3) := by decide +kernel
theorem dX6_plan_299 : decode cX6_plan 299 = .ok (.iload_n 1, 1) := by decide +kernel
theorem dX6_plan_300 : decode cX6_plan 300 = .ok (.iconst 0, 1) := by decide +kernel
theorem dX6_plan_301 : decode cX6_plan 301 = .ok (.iastore, 1) := by decide +kernel
theorem dX6_plan_302 : decode cX6_plan 302 = .ok (.goto (-238), 3) := by decide +kernel
theorem dX6_plan_305 : decode cX6_plan 305 = .ok (.iload_n 1, 1) := by decide +kernel
theorem dX6_plan_306 : decode cX6_plan 306 = .ok (.ifCond .ge 5, 3) := by decide +kernel
theorem dX6_plan_309 : decode cX6_plan 309 = .ok (.iconst 0, 1) := by decide +kernel
theorem dX6_plan_310 : decode cX6_plan 310 = .ok (.ireturn, 1) := by decide +kernel
theorem dX6_plan_311 : decode cX6_plan 311 = .ok (.aload_n 0, 1) := by decide +kernel
theorem dX6_plan_312 : decode cX6_plan 312 = .ok (.iconst 1, 1) := by decide +kernel
theorem dX6_plan_313 : decode cX6_plan 313 = .ok (.putfield 76, 3) := by decide +kernel
theorem dX6_plan_316 : decode cX6_plan 316 = .ok (.aload_n 0, 1) := by decide +kernel
theorem dX6_plan_317 : decode cX6_plan 317 = .ok (.iload_n 1, 1) := by decide +kernel
theorem dX6_plan_318 : decode cX6_plan 318 = .ok (.putfield 80, 3) := by decide +kernel
theorem dX6_plan_321 : decode cX6_plan 321 = .ok (.iconst 0, 1) := by decide +kernel
theorem dX6_plan_322 : decode cX6_plan 322 = .ok (.istore 4, 2) := by decide +kernel
theorem dX6_plan_324 : decode cX6_plan 324 = .ok (.iload 4, 2) := by decide +kernel
theorem dX6_plan_326 : decode cX6_plan 326 = .ok (.bipush 40, 2) := by decide +kernel
theorem dX6_plan_328 : decode cX6_plan 328 = .ok (.if_icmp .ge 23, 3) := by decide +kernel
theorem dX6_plan_331 : decode cX6_plan 331 = .ok (.aload_n 0, 1) := by decide +kernel
theorem dX6_plan_332 : decode cX6_plan 332 = .ok (.getfield 25, 3) := by decide +kernel
theorem dX6_plan_335 : decode cX6_plan 335 = .ok (.iload 4, 2) := by decide +kernel
theorem dX6_plan_337 : decode cX6_plan 337 = .ok (.aload_n 0, 1) := by decide +kernel
theorem dX6_plan_338 : decode cX6_plan 338 = .ok (.getfield 22, 3) := by decide +kernel
theorem dX6_plan_341 : decode cX6_plan 341 = .ok (.iload 4, 2) := by decide +kernel
theorem dX6_plan_343 : decode cX6_plan 343 = .ok (.iaload, 1) := by decide +kernel
theorem dX6_plan_344 : decode cX6_plan 344 = .ok (.iastore, 1) := by decide +kernel
theorem dX6_plan_345 : decode cX6_plan 345 = .ok (.iinc 4 1, 3) := by decide +kernel
theorem dX6_plan_348 : decode cX6_plan 348 = .ok (.goto (-24), 3) := by decide +kernel
theorem dX6_plan_351 : decode cX6_plan 351 = .ok (.iload_n 1, 1) := by decide +kernel
theorem dX6_plan_352 : decode cX6_plan 352 = .ok (.ireturn, 1) := by decide +kernel
set_option maxRecDepth 20000 in
theorem ggX6_hearting_X6_width : GoodIn wsX6_hearting wsX6_width := goodIn_r _ [9, 10, 11, 12, 13, 14, 15, 16, 17, 18, 19, 20, 21, 22, 23, 24, 25, 26, 27, 28, 29, 30, 31, 32, 33, 34, 35, 36, 37, 38, 39, 40, 41, 42, 43, 44, 45, 46, 47, 48] (by decide +kernel) (by decide +kernel)
set_option maxRecDepth 20000 in
theorem gX6_hearting_X6_width : GoodIn wsX6_hearting (wsV RX6 126 RX6 yX6_width wsX6_width) := goodIn_app (goodIn_of _ (by decide +kernel)) ggX6_hearting_X6_width
theorem dX6_hearting_0 : decode cX6_hearting 0 = .ok (.aload_n 0, 1) := by decide +kernel
theorem dX6_hearting_1 : decode cX6_hearting 1 = .ok (.aload_n 0, 1) := by decide +kernel
theorem dX6_hearting_2 : decode cX6_hearting 2 = .ok (.getfield 31, 3) := by decide +kernel
theorem dX6_hearting_5 : decode cX6_hearting 5 = .ok (.iload_n 1, 1) := by decide +kernel
theorem dX6_hearting_6 : decode cX6_hearting 6 = .ok (.iaload, 1) := by decide +kernel
theorem dX6_hearting_7 : decode cX6_hearting 7 = .ok (.invokevirtual 126, 3) := by decide +kernel
theorem dX6_hearting_10 : decode cX6_hearting 10 = .ok (.aload_n 0, 1) := by decide +kernel
theorem dX6_hearting_11 : decode cX6_hearting 11 = .ok (.getfield 13, 3) := by decide +kernel
theorem dX6_hearting_14 : decode cX6_hearting 14 = .ok (.aload_n 0, 1) := by decide +kernel
theorem dX6_hearting_15 : decode cX6_hearting 15 = .ok (.getfield 28, 3) := by decide +kernel
theorem dX6_hearting_18 : decode cX6_hearting 18 = .ok (.iload_n 1, 1) := by decide +kernel
theorem dX6_hearting_19 : decode cX6_hearting 19 = .ok (.iaload, 1) := by decide +kernel
theorem dX6_hearting_20 : decode cX6_hearting 20 = .ok (.iaload, 1) := by decide +kernel
theorem dX6_hearting_21 : decode cX6_hearting 21 = .ok (.isub, 1) := by decide +kernel
theorem dX6_hearting_22 : decode cX6_hearting 22 = .ok (.istore_n 2, 1) := by decide +kernel
theorem dX6_hearting_23 : decode cX6_hearting 23 = .ok (.iload_n 2, 1) := by decide +kernel
theorem dX6_hearting_24 : decode cX6_hearting 24 = .ok (.ifCond .le 19, 3) := by decide +kernel
theorem dX6_hearting_27 : decode cX6_hearting 27 = .ok (.aload_n 0, 1) := by decide +kernel
theorem dX6_hearting_28 : decode cX6_hearting 28 = .ok (.getfield 7, 3) := by decide +kernel
theorem dX6_hearting_31 : decode cX6_hearting 31 = .ok (.aload_n 0, 1) := by decide +kernel
theorem dX6_hearting_32 : decode cX6_hearting 32 = .ok (.getfield 28, 3) := by decide +kernel
theorem dX6_hearting_35 : decode cX6_hearting 35 = .ok (.iload_n 1, 1) := by decide +kernel
theorem dX6_hearting_36 : decode cX6_hearting 36 = .ok (.iaload, 1) := by decide +kernel
theorem dX6_hearting_37 : decode cX6_hearting 37 = .ok (.iaload, 1) := by decide +kernel
theorem dX6_hearting_38 : decode cX6_hearting 38 = .ok (.iload_n 2, 1) := by decide +kernel
theorem dX6_hearting_39 : decode cX6_hearting 39 = .ok (.imul, 1) := by decide +kernel
theorem dX6_hearting_40 : decode cX6_hearting 40 = .ok (.goto 4, 3) := by decide +kernel
theorem dX6_hearting_43 : decode cX6_hearting 43 = .ok (.iconst 0, 1) := by decide +kernel
theorem dX6_hearting_44 : decode cX6_hearting 44 = .ok (.ireturn, 1) := by decide +kernel
theorem dX6_fails_0 : decode cX6_fails 0 = .ok (.aload_n 0, 1) := by decide +kernel
theorem dX6_fails_1 : decode cX6_fails 1 = .ok (.iload_n 1, 1) := by decide +kernel
theorem dX6_fails_2 : decode cX6_fails 2 = .ok (.putfield 72, 3) := by decide +kernel
theorem dX6_fails_5 : decode cX6_fails 5 = .ok (.iconst 0, 1) := by decide +kernel
theorem dX6_fails_6 : decode cX6_fails 6 = .ok (.ireturn, 1) := by decide +kernel
set_option maxRecDepth 20000 in
theorem ggX6_stone_X6_fails : GoodIn wsX6_stone wsX6_fails := goodIn_r _ [15, 1, 27, 28, 29, 30, 31, 32, 33, 34, 35, 36, 37, 38, 39, 40, 41, 42, 43, 44, 45, 46, 47, 48, 49, 50, 51, 52, 53, 54, 55, 56, 57, 58, 59, 60, 61, 62, 63] (by decide +kernel) (by decide +kernel)
set_option maxRecDepth 20000 in
theorem gX6_stone_X6_fails : GoodIn wsX6_stone (wsV RX6 143 RX6 yX6_fails wsX6_fails) := goodIn_app (goodIn_of _ (by decide +kernel)) ggX6_stone_X6_fails
set_option maxRecDepth 20000 in
theorem ggX6_stone_X6_hearting : GoodIn wsX6_stone wsX6_hearting := goodIn_r _ [19, 4, 6, 3, 20, 21, 22, 23, 14, 24, 25, 26, 27, 28, 29, 30, 31, 32, 33, 34, 35, 36, 37, 38, 39, 40, 41, 42, 43, 44, 45, 46, 47, 48, 49, 50, 51, 52, 53, 54, 55, 56, 57, 58, 59, 60, 61, 62, 63] (by decide +kernel) (by decide +kernel)
set_option maxRecDepth 20000 in
theorem gX6_stone_X6_hearting : GoodIn wsX6_stone (wsV RX6 146 RX6 yX6_hearting wsX6_hearting) := goodIn_app (goodIn_of _ (by decide +kernel)) ggX6_stone_X6_hearting
set_option maxRecDepth 20000 in
theorem ggX6_stone_X6_width : GoodIn wsX6_stone wsX6_width := goodIn_r _ [24, 25, 26, 27, 28, 29, 30, 31, 32, 33, 34, 35, 36, 37, 38, 39, 40, 41, 42, 43, 44, 45, 46, 47, 48, 49, 50, 51, 52, 53, 54, 55, 56, 57, 58, 59, 60, 61, 62, 63] (by decide +kernel) (by decide +kernel)
set_option maxRecDepth 20000 in
theorem gX6_stone_X6_width : GoodIn wsX6_stone (wsV RX6 126 RX6 yX6_width wsX6_width) := goodIn_app (goodIn_of _ (by decide +kernel)) ggX6_stone_X6_width
theorem dX6_stone_0 : decode cX6_stone 0 = .ok (.aload_n 0, 1) := by decide +kernel
theorem dX6_stone_1 : decode cX6_stone 1 = .ok (.iconst 0, 1) := by decide +kernel
theorem dX6_stone_2 : decode cX6_stone 2 = .ok (.putfield 72, 3) := by decide +kernel
theorem dX6_stone_5 : decode cX6_stone 5 = .ok (.iload_n 1, 1) := by decide +kernel
theorem dX6_stone_6 : decode cX6_stone 6 = .ok (.ifCond .lt 11, 3) := by decide +kernel
theorem dX6_stone_9 : decode cX6_stone 9 = .ok (.iload_n 1, 1) := by decide +kernel
theorem dX6_stone_10 : decode cX6_stone 10 = .ok (.aload_n 0, 1) := by decide +kernel
theorem dX6_stone_11 : decode cX6_stone 11 = .ok (.getfield 80, 3) := by decide +kernel
theorem dX6_stone_14 : decode cX6_stone 14 = .ok (.if_icmp .lt 9, 3) := by decide +kernel
theorem dX6_stone_17 : decode cX6_stone 17 = .ok (.aload_n 0, 1) := by decide +kernel
theorem dX6_stone_18 : decode cX6_stone 18 = .ok (.iconst 1, 1) := by decide +kernel
theorem dX6_stone_19 : decode cX6_stone 19 = .ok (.invokevirtual 143, 3) := by decide +kernel
theorem dX6_stone_22 : decode cX6_stone 22 = .ok (.ireturn, 1) := by decide +kernel
theorem dX6_stone_23 : decode cX6_stone 23 = .ok (.iload_n 2, 1) := by decide +kernel
theorem dX6_stone_24 : decode cX6_stone 24 = .ok (.tableswitch 163 0 7 #[48, 55, 62, 69, 75, 105, 123, 145], 48) := by decide +kernel
theorem dX6_stone_72 : decode cX6_stone 72 = .ok (.aload_n 0, 1) := by decide +kernel
theorem dX6_stone_73 : decode cX6_stone 73 = .ok (.getfield 28, 3) := by decide +kernel
theorem dX6_stone_76 : decode cX6_stone 76 = .ok (.iload_n 1, 1) := by decide +kernel
theorem dX6_stone_77 : decode cX6_stone 77 = .ok (.iaload, 1) := by decide +kernel
theorem dX6_stone_78 : decode cX6_stone 78 = .ok (.ireturn, 1) := by decide +kernel
theorem dX6_stone_79 : decode cX6_stone 79 = .ok (.aload_n 0, 1) := by decide +kernel
theorem dX6_stone_80 : decode cX6_stone 80 = .ok (.getfield 31, 3) := by decide +kernel
theorem dX6_stone_83 : decode cX6_stone 83 = .ok (.iload_n 1, 1) := by decide +kernel
theorem dX6_stone_84 : decode cX6_stone 84 = .ok (.iaload, 1) := by decide +kernel
theorem dX6_stone_85 : decode cX6_stone 85 = .ok (.ireturn, 1) := by decide +kernel
theorem dX6_stone_86 : decode cX6_stone 86 = .ok (.aload_n 0, 1) := by decide +kernel
theorem dX6_stone_87 : decode cX6_stone 87 = .ok (.getfield 34, 3) := by decide +kernel
theorem dX6_stone_90 : decode cX6_stone 90 = .ok (.iload_n 1, 1) := by decide +kernel
theorem dX6_stone_91 : decode cX6_stone 91 = .ok (.iaload, 1) := by decide +kernel
theorem dX6_stone_92 : decode cX6_stone 92 = .ok (.ireturn, 1) := by decide +kernel
theorem dX6_stone_93 : decode cX6_stone 93 = .ok (.aload_n 0, 1) := by decide +kernel
theorem dX6_stone_94 : decode cX6_stone 94 = .ok (.iload_n 1, 1) := by decide +kernel
theorem dX6_stone_95 : decode cX6_stone 95 = .ok (.invokevirtual 146, 3) := by decide +kernel
theorem dX6_stone_98 : decode cX6_stone 98 = .ok (.ireturn, 1) := by decide +kernel
theorem dX6_stone_99 : decode cX6_stone 99 = .ok (.aload_n 0, 1) := by decide +kernel
theorem dX6_stone_100 : decode cX6_stone 100 = .ok (.getfield 13, 3) := by decide +kernel
theorem dX6_stone_103 : decode cX6_stone 103 = .ok (.aload_n 0, 1) := by decide +kernel
theorem dX6_stone_104 : decode cX6_stone 104 = .ok (.getfield 28, 3) := by decide +kernel
theorem dX6_stone_107 : decode cX6_stone 107 = .ok (.iload_n 1, 1) := by decide +kernel
theorem dX6_stone_108 : decode cX6_stone 108 = .ok (.iaload, 1) := by decide +kernel
theorem dX6_stone_109 : decode cX6_stone 109 = .ok (.iaload, 1) := by decide +kernel
theorem dX6_stone_110 : decode cX6_stone 110 = .ok (.aload_n 0, 1) := by decide +kernel
theorem dX6_stone_111 : decode cX6_stone 111 = .ok (.aload_n 0, 1) := by decide +kernel
theorem dX6_stone_112 : decode cX6_stone 112 = .ok (.getfield 31, 3) := by decide +kernel
theorem dX6_stone_115 : decode cX6_stone 115 = .ok (.iload_n 1, 1) := by decide +kernel
theorem dX6_stone_116 : decode cX6_stone 116 = .ok (.iaload, 1) := by decide +kernel
theorem dX6_stone_117 : decode cX6_stone 117 = .ok (.invokevirtual 126, 3) := by decide +kernel
theorem dX6_stone_120 : decode cX6_stone 120 = .ok (.if_icmp .lt 7, 3) := by decide +kernel
theorem dX6_stone_123 : decode cX6_stone 123 = .ok (.iconst 1, 1) := by decide +kernel
theorem dX6_stone_124 : decode cX6_stone 124 = .ok (.goto 4, 3) := by decide +kernel
theorem dX6_stone_127 : decode cX6_stone 127 = .ok (.iconst 0, 1) := by decide +kernel
theorem dX6_stone_128 : decode cX6_stone 128 = .ok (.ireturn, 1) := by decide +kernel
theorem dX6_stone_129 : decode cX6_stone 129 = .ok (.aload_n 0, 1) := by decide +kernel
theorem dX6_stone_130 : decode cX6_stone 130 = .ok (.getfield 83, 3) := by decide +kernel
theorem dX6_stone_133 : decode cX6_stone 133 = .ok (.ifCond .eq 12, 3) := by decide +kernel
theorem dX6_stone_136 : decode cX6_stone 136 = .ok (.aload_n 0, 1) := by decide +kernel
theorem dX6_stone_137 : decode cX6_stone 137 = .ok (.getfield 37, 3) := by decide +kernel
theorem dX6_stone_140 : decode cX6_stone 140 = .ok (.iload_n 1, 1) := by decide +kernel
theorem dX6_stone_141 : decode cX6_stone 141 = .ok (.iaload, 1) := by decide +kernel
theorem dX6_stone_142 : decode cX6_stone 142 = .ok (.goto 4, 3) := by decide +kernel
theorem dX6_stone_145 : decode cX6_stone 145 = .ok (.iconst 0, 1) := by decide +kernel
theorem dX6_stone_146 : decode cX6_stone 146 = .ok (.ireturn, 1) := by decide +kernel
theorem dX6_stone_147 : decode cX6_stone 147 = .ok (.aload_n 0, 1) := by decide +kernel
theorem dX6_stone_148 : decode cX6_stone 148 = .ok (.getfield 83, 3) := by decide +kernel
theorem dX6_stone_151 : decode cX6_stone 151 = .ok (.ifCond .eq 16, 3) := by decide +kernel
theorem dX6_stone_154 : decode cX6_stone 154 = .ok (.aload_n 0, 1) := by decide +kernel
theorem dX6_stone_155 : decode cX6_stone 155 = .ok (.getfield 40, 3) := by decide +kernel
theorem dX6_stone_158 : decode cX6_stone 158 = .ok (.iload_n 1, 1) := by decide +kernel
theorem dX6_stone_159 : decode cX6_stone 159 = .ok (.baload, 1) := by decide +kernel
theorem dX6_stone_160 : decode cX6_stone 160 = .ok (.ifCond .eq 7, 3) := by decide +kernel
theorem dX6_stone_163 : decode cX6_stone 163 = .ok (.iconst 1, 1) := by decide +kernel
theorem dX6_stone_164 : decode cX6_stone 164 = .ok (.goto 4, 3) := by decide +kernel
theorem dX6_stone_167 : decode cX6_stone 167 = .ok (.iconst 0, 1) := by decide +kernel
theorem dX6_stone_168 : decode cX6_stone 168 = .ok (.ireturn, 1) := by decide +kernel
theorem dX6_stone_169 : decode cX6_stone 169 = .ok (.aload_n 0, 1) := by decide +kernel
theorem dX6_stone_170 : decode cX6_stone 170 = .ok (.getfield 83, 3) := by decide +kernel
theorem dX6_stone_173 : decode cX6_stone 173 = .ok (.ifCond .eq 12, 3) := by decide +kernel
theorem dX6_stone_176 : decode cX6_stone 176 = .ok (.aload_n 0, 1) := by decide +kernel
theorem dX6_stone_177 : decode cX6_stone 177 = .ok (.getfield 44, 3) := by decide +kernel
theorem dX6_stone_180 : decode cX6_stone 180 = .ok (.iload_n 1, 1) := by decide +kernel
theorem dX6_stone_181 : decode cX6_stone 181 = .ok (.iaload, 1) := by decide +kernel
theorem dX6_stone_182 : decode cX6_stone 182 = .ok (.goto 4, 3) := by decide +kernel
theorem dX6_stone_185 : decode cX6_stone 185 = .ok (.iconst (-1), 1) := by decide +kernel
theorem dX6_stone_186 : decode cX6_stone 186 = .ok (.ireturn, 1) := by decide +kernel
theorem dX6_stone_187 : decode cX6_stone 187 = .ok (.aload_n 0, 1) := by decide +kernel
theorem dX6_stone_188 : decode cX6_stone 188 = .ok (.iconst 2, 1) := by decide +kernel
theorem dX6_stone_189 : decode cX6_stone 189 = .ok (.invokevirtual 143, 3) := by decide +kernel
theorem dX6_stone_192 : decode cX6_stone 192 = .ok (.ireturn, 1) := by decide +kernel
theorem dX6_over_0 : decode cX6_over 0 = .ok (.aload_n 0, 1) := by decide +kernel
theorem dX6_over_1 : decode cX6_over 1 = .ok (.iconst 0, 1) := by decide +kernel
theorem dX6_over_2 : decode cX6_over 2 = .ok (.putfield 72, 3) := by decide +kernel
theorem dX6_over_5 : decode cX6_over 5 = .ok (.iconst 0, 1) := by decide +kernel
theorem dX6_over_6 : decode cX6_over 6 = .ok (.istore_n 3, 1) := by decide +kernel
theorem dX6_over_7 : decode cX6_over 7 = .ok (.iload_n 3, 1) := by decide +kernel
theorem dX6_over_8 : decode cX6_over 8 = .ok (.aload_n 0, 1) := by decide +kernel
theorem dX6_over_9 : decode cX6_over 9 = .ok (.getfield 80, 3) := by decide +kernel
theorem dX6_over_12 : decode cX6_over 12 = .ok (.if_icmp .ge 53, 3) := by decide +kernel
theorem dX6_over_15 : decode cX6_over 15 = .ok (.aload_n 0, 1) := by decide +kernel
theorem dX6_over_16 : decode cX6_over 16 = .ok (.getfield 31, 3) := by decide +kernel
theorem dX6_over_19 : decode cX6_over 19 = .ok (.iload_n 3, 1) := by decide +kernel
theorem dX6_over_20 : decode cX6_over 20 = .ok (.iaload, 1) := by decide +kernel
theorem dX6_over_21 : decode cX6_over 21 = .ok (.iload_n 1, 1) := by decide +kernel
theorem dX6_over_22 : decode cX6_over 22 = .ok (.if_icmp .ne 37, 3) := by decide +kernel
theorem dX6_over_25 : decode cX6_over 25 = .ok (.aload_n 0, 1) := by decide +kernel
theorem dX6_over_26 : decode cX6_over 26 = .ok (.getfield 34, 3) := by decide +kernel
theorem dX6_over_29 : decode cX6_over 29 = .ok (.iload_n 3, 1) := by decide +kernel
theorem dX6_over_30 : decode cX6_over 30 = .ok (.iaload, 1) := by decide +kernel
theorem dX6_over_31 : decode cX6_over 31 = .ok (.iload_n 2, 1) := by decide +kernel
theorem dX6_over_32 : decode cX6_over 32 = .ok (.if_icmp .gt 27, 3) := by decide +kernel
theorem dX6_over_35 : decode cX6_over 35 = .ok (.iload_n 2, 1) := by decide +kernel
theorem dX6_over_36 : decode cX6_over 36 = .ok (.aload_n 0, 1) := by decide +kernel
theorem dX6_over_37 : decode cX6_over 37 = .ok (.getfield 34, 3) := by decide +kernel
theorem dX6_over_40 : decode cX6_over 40 = .ok (.iload_n 3, 1) := by decide +kernel
theorem dX6_over_41 : decode cX6_over 41 = .ok (.iaload, 1) := by decide +kernel
theorem dX6_over_42 : decode cX6_over 42 = .ok (.aload_n 0, 1) := by decide +kernel
theorem dX6_over_43 : decode cX6_over 43 = .ok (.getfield 7, 3) := by decide +kernel
theorem dX6_over_46 : decode cX6_over 46 = .ok (.aload_n 0, 1) := by decide +kernel
theorem dX6_over_47 : decode cX6_over 47 = .ok (.getfield 28, 3) := by decide +kernel
theorem dX6_over_50 : decode cX6_over 50 = .ok (.iload_n 3, 1) := by decide +kernel
theorem dX6_over_51 : decode cX6_over 51 = .ok (.iaload, 1) := by decide +kernel
theorem dX6_over_52 : decode cX6_over 52 = .ok (.iaload, 1) := by decide +kernel
theorem dX6_over_53 : decode cX6_over 53 = .ok (.iadd, 1) := by decide +kernel
theorem dX6_over_54 : decode cX6_over 54 = .ok (.if_icmp .ge 5, 3) := by decide +kernel
theorem dX6_over_57 : decode cX6_over 57 = .ok (.iload_n 3, 1) := by decide +kernel
theorem dX6_over_58 : decode cX6_over 58 = .ok (.ireturn, 1) := by decide +kernel
theorem dX6_over_59 : decode cX6_over 59 = .ok (.iinc 3 1, 3) := by decide +kernel
theorem dX6_over_62 : decode cX6_over 62 = .ok (.goto (-55), 3) := by decide +kernel
theorem dX6_over_65 : decode cX6_over 65 = .ok (.iconst (-1), 1) := by decide +kernel
theorem dX6_over_66 : decode cX6_over 66 = .ok (.ireturn, 1) := by decide +kernel
theorem dX6_size_0 : decode cX6_size 0 = .ok (.iload_n 0, 1) := by decide +kernel
theorem dX6_size_1 : decode cX6_size 1 = .ok (.ifCond .ge 8, 3) := by decide +kernel
theorem dX6_size_4 : decode cX6_size 4 = .ok (.iload_n 0, 1) := by decide +kernel
theorem dX6_size_5 : decode cX6_size 5 = .ok (.ineg, 1) := by decide +kernel
theorem dX6_size_6 : decode cX6_size 6 = .ok (.goto 4, 3) := by decide +kernel
theorem dX6_size_9 : decode cX6_size 9 = .ok (.iload_n 0, 1) := by decide +kernel
theorem dX6_size_10 : decode cX6_size 10 = .ok (.ireturn, 1) := by decide +kernel
set_option maxRecDepth 20000 in
theorem ggX6_toil_X6_size : GoodIn wsX6_toil wsX6_size := goodIn_r _ [12] (by decide +kernel) (by decide +kernel)
set_option maxRecDepth 20000 in
theorem gX6_toil_X6_size : GoodIn wsX6_toil (va_wsS RX6 149 yX6_size wsX6_size) := goodIn_app (goodIn_of _ (by decide +kernel)) ggX6_toil_X6_size
theorem dX6_toil_0 : decode cX6_toil 0 = .ok (.aload_n 0, 1) := by decide +kernel
theorem dX6_toil_1 : decode cX6_toil 1 = .ok (.getfield 28, 3) := by decide +kernel
theorem dX6_toil_4 : decode cX6_toil 4 = .ok (.iload_n 1, 1) := by decide +kernel
theorem dX6_toil_5 : decode cX6_toil 5 = .ok (.iaload, 1) := by decide +kernel
theorem dX6_toil_6 : decode cX6_toil 6 = .ok (.istore_n 3, 1) := by decide +kernel
theorem dX6_toil_7 : decode cX6_toil 7 = .ok (.aload_n 0, 1) := by decide +kernel
theorem dX6_toil_8 : decode cX6_toil 8 = .ok (.getfield 7, 3) := by decide +kernel
theorem dX6_toil_11 : decode cX6_toil 11 = .ok (.iload_n 3, 1) := by decide +kernel
theorem dX6_toil_12 : decode cX6_toil 12 = .ok (.iaload, 1) := by decide +kernel
theorem dX6_toil_13 : decode cX6_toil 13 = .ok (.i2l, 1) := by decide +kernel
theorem dX6_toil_14 : decode cX6_toil 14 = .ok (.aload_n 0, 1) := by decide +kernel
theorem dX6_toil_15 : decode cX6_toil 15 = .ok (.getfield 13, 3) := by decide +kernel
theorem dX6_toil_18 : decode cX6_toil 18 = .ok (.iload_n 3, 1) := by decide +kernel
theorem dX6_toil_19 : decode cX6_toil 19 = .ok (.iaload, 1) := by decide +kernel
theorem dX6_toil_20 : decode cX6_toil 20 = .ok (.i2l, 1) := by decide +kernel
theorem dX6_toil_21 : decode cX6_toil 21 = .ok (.lmul, 1) := by decide +kernel
theorem dX6_toil_22 : decode cX6_toil 22 = .ok (.aload_n 0, 1) := by decide +kernel
theorem dX6_toil_23 : decode cX6_toil 23 = .ok (.getfield 16, 3) := by decide +kernel
theorem dX6_toil_26 : decode cX6_toil 26 = .ok (.iload_n 2, 1) := by decide +kernel
theorem dX6_toil_27 : decode cX6_toil 27 = .ok (.iaload, 1) := by decide +kernel
theorem dX6_toil_28 : decode cX6_toil 28 = .ok (.aload_n 0, 1) := by decide +kernel
theorem dX6_toil_29 : decode cX6_toil 29 = .ok (.getfield 102, 3) := by decide +kernel
theorem dX6_toil_32 : decode cX6_toil 32 = .ok (.isub, 1) := by decide +kernel
theorem dX6_toil_33 : decode cX6_toil 33 = .ok (.aload_n 0, 1) := by decide +kernel
theorem dX6_toil_34 : decode cX6_toil 34 = .ok (.getfield 34, 3) := by decide +kernel
theorem dX6_toil_37 : decode cX6_toil 37 = .ok (.iload_n 1, 1) := by decide +kernel
theorem dX6_toil_38 : decode cX6_toil 38 = .ok (.iaload, 1) := by decide +kernel
theorem dX6_toil_39 : decode cX6_toil 39 = .ok (.isub, 1) := by decide +kernel
theorem dX6_toil_40 : decode cX6_toil 40 = .ok (.invokestatic 149, 3) := by decide +kernel
theorem dX6_toil_43 : decode cX6_toil 43 = .ok (.aload_n 0, 1) := by decide +kernel
theorem dX6_toil_44 : decode cX6_toil 44 = .ok (.getfield 19, 3) := by decide +kernel
theorem dX6_toil_47 : decode cX6_toil 47 = .ok (.iload_n 2, 1) := by decide +kernel
theorem dX6_toil_48 : decode cX6_toil 48 = .ok (.iaload, 1) := by decide +kernel
theorem dX6_toil_49 : decode cX6_toil 49 = .ok (.aload_n 0, 1) := by decide +kernel
theorem dX6_toil_50 : decode cX6_toil 50 = .ok (.getfield 105, 3) := by decide +kernel
theorem dX6_toil_53 : decode cX6_toil 53 = .ok (.isub, 1) := by decide +kernel
theorem dX6_toil_54 : decode cX6_toil 54 = .ok (.invokestatic 149, 3) := by decide +kernel
theorem dX6_toil_57 : decode cX6_toil 57 = .ok (.iadd, 1) := by decide +kernel
theorem dX6_toil_58 : decode cX6_toil 58 = .ok (.i2l, 1) := by decide +kernel
theorem dX6_toil_59 : decode cX6_toil 59 = .ok (.lmul, 1) := by decide +kernel
theorem dX6_toil_60 : decode cX6_toil 60 = .ok (.lreturn, 1) := by decide +kernel
set_option maxRecDepth 20000 in
theorem ggX6_leastOf_X6_add : GoodIn wsX6_leastOf wsX6_add := goodIn_r _ [11, 1, 12, 13, 5, 2, 14, 15, 16, 10, 17, 6, 18, 19, 20, 21, 22, 23, 24, 25, 26, 27, 28, 29, 30, 31, 32, 33, 34, 35, 36, 37, 38, 39, 40, 41, 42, 43, 44, 45, 46, 47, 48, 49, 50, 51, 52, 53, 54, 55, 56, 57, 58, 59, 60, 61, 62, 63, 64] (by decide +kernel) (by decide +kernel)
set_option maxRecDepth 20000 in
theorem gX6_leastOf_X6_add : GoodIn wsX6_leastOf (wsV RX6 152 RX6 yX6_add wsX6_add) := goodIn_app (goodIn_of _ (by decide +kernel)) ggX6_leastOf_X6_add
theorem dX6_leastOf_0 : decode cX6_leastOf 0 = .ok (.iconst 0, 1) := by decide +kernel
theorem dX6_leastOf_1 : decode cX6_leastOf 1 = .ok (.istore 4, 2) := by decide +kernel
theorem dX6_leastOf_3 : decode cX6_leastOf 3 = .ok (.iload 4, 2) := by decide +kernel
theorem dX6_leastOf_5 : decode cX6_leastOf 5 = .ok (.aload_n 0, 1) := by decide +kernel
theorem dX6_leastOf_6 : decode cX6_leastOf 6 = .ok (.getfield 92, 3) := by decide +kernel
theorem dX6_leastOf_9 : decode cX6_leastOf 9 = .ok (.if_icmp .ge 40, 3) := by decide +kernel
theorem dX6_leastOf_12 : decode cX6_leastOf 12 = .ok (.aload_n 0, 1) := by decide +kernel
theorem dX6_leastOf_13 : decode cX6_leastOf 13 = .ok (.getfield 56, 3) := by decide +kernel
theorem dX6_leastOf_16 : decode cX6_leastOf 16 = .ok (.iload 4, 2) := by decide +kernel
theorem dX6_leastOf_18 : decode cX6_leastOf 18 = .ok (.aload_n 0, 1) := by decide +kernel
theorem dX6_leastOf_19 : decode cX6_leastOf 19 = .ok (.getfield 25, 3) := by decide +kernel
theorem dX6_leastOf_22 : decode cX6_leastOf 22 = .ok (.bipush 8, 2) := by decide +kernel
theorem dX6_leastOf_24 : decode cX6_leastOf 24 = .ok (.iload 4, 2) := by decide +kernel
theorem dX6_leastOf_26 : decode cX6_leastOf 26 = .ok (.imul, 1) := by decide +kernel
theorem dX6_leastOf_27 : decode cX6_leastOf 27 = .ok (.iload_n 1, 1) := by decide +kernel
theorem dX6_leastOf_28 : decode cX6_leastOf 28 = .ok (.iadd, 1) := by decide +kernel
theorem dX6_leastOf_29 : decode cX6_leastOf 29 = .ok (.iaload, 1) := by decide +kernel
theorem dX6_leastOf_30 : decode cX6_leastOf 30 = .ok (.iload 4, 2) := by decide +kernel
theorem dX6_leastOf_32 : decode cX6_leastOf 32 = .ok (.iload_n 3, 1) := by decide +kernel
theorem dX6_leastOf_33 : decode cX6_leastOf 33 = .ok (.if_icmp .ne 7, 3) := by decide +kernel
theorem dX6_leastOf_36 : decode cX6_leastOf 36 = .ok (.iload_n 2, 1) := by decide +kernel
theorem dX6_leastOf_37 : decode cX6_leastOf 37 = .ok (.goto 4, 3) := by decide +kernel
theorem dX6_leastOf_40 : decode cX6_leastOf 40 = .ok (.iconst 0, 1) := by decide +kernel
theorem dX6_leastOf_41 : decode cX6_leastOf 41 = .ok (.iadd, 1) := by decide +kernel
theorem dX6_leastOf_42 : decode cX6_leastOf 42 = .ok (.iastore, 1) := by decide +kernel
theorem dX6_leastOf_43 : decode cX6_leastOf 43 = .ok (.iinc 4 1, 3) := by decide +kernel
theorem dX6_leastOf_46 : decode cX6_leastOf 46 = .ok (.goto (-43), 3) := by decide +kernel
theorem dX6_leastOf_49 : decode cX6_leastOf 49 = .ok (.lconst 0, 1) := by decide +kernel
theorem dX6_leastOf_50 : decode cX6_leastOf 50 = .ok (.lstore 4, 2) := by decide +kernel
theorem dX6_leastOf_52 : decode cX6_leastOf 52 = .ok (.iconst 0, 1) := by decide +kernel
theorem dX6_leastOf_53 : decode cX6_leastOf 53 = .ok (.istore 6, 2) := by decide +kernel
theorem dX6_leastOf_55 : decode cX6_leastOf 55 = .ok (.iload 6, 2) := by decide +kernel
theorem dX6_leastOf_57 : decode cX6_leastOf 57 = .ok (.aload_n 0, 1) := by decide +kernel
theorem dX6_leastOf_58 : decode cX6_leastOf 58 = .ok (.getfield 80, 3) := by decide +kernel
theorem dX6_leastOf_61 : decode cX6_leastOf 61 = .ok (.if_icmp .ge 17, 3) := by decide +kernel
theorem dX6_leastOf_64 : decode cX6_leastOf 64 = .ok (.aload_n 0, 1) := by decide +kernel
theorem dX6_leastOf_65 : decode cX6_leastOf 65 = .ok (.getfield 53, 3) := by decide +kernel
theorem dX6_leastOf_68 : decode cX6_leastOf 68 = .ok (.iload 6, 2) := by decide +kernel
theorem dX6_leastOf_70 : decode cX6_leastOf 70 = .ok (.iconst (-1), 1) := by decide +kernel
theorem dX6_leastOf_71 : decode cX6_leastOf 71 = .ok (.iastore, 1) := by decide +kernel
theorem dX6_leastOf_72 : decode cX6_leastOf 72 = .ok (.iinc 6 1, 3) := by decide +kernel
theorem dX6_leastOf_75 : decode cX6_leastOf 75 = .ok (.goto (-20), 3) := by decide +kernel
theorem dX6_leastOf_78 : decode cX6_leastOf 78 = .ok (.iconst 0, 1) := by decide +kernel
theorem dX6_leastOf_79 : decode cX6_leastOf 79 = .ok (.istore 6, 2) := by decide +kernel
theorem dX6_leastOf_81 : decode cX6_leastOf 81 = .ok (.iload 6, 2) := by decide +kernel
theorem dX6_leastOf_83 : decode cX6_leastOf 83 = .ok (.aload_n 0, 1) := by decide +kernel
theorem dX6_leastOf_84 : decode cX6_leastOf 84 = .ok (.getfield 80, 3) := by decide +kernel
theorem dX6_leastOf_87 : decode cX6_leastOf 87 = .ok (.if_icmp .ge 32, 3) := by decide +kernel
theorem dX6_leastOf_90 : decode cX6_leastOf 90 = .ok (.aload_n 0, 1) := by decide +kernel
theorem dX6_leastOf_91 : decode cX6_leastOf 91 = .ok (.getfield 28, 3) := by decide +kernel
theorem dX6_leastOf_94 : decode cX6_leastOf 94 = .ok (.iload 6, 2) := by decide +kernel
theorem dX6_leastOf_96 : decode cX6_leastOf 96 = .ok (.iaload, 1) := by decide +kernel
theorem dX6_leastOf_97 : decode cX6_leastOf 97 = .ok (.iload_n 1, 1) := by decide +kernel
theorem dX6_leastOf_98 : decode cX6_leastOf 98 = .ok (.if_icmp .ne 15, 3) := by decide +kernel
theorem dX6_leastOf_101 : decode cX6_leastOf 101 = .ok (.lload 4, 2) := by decide +kernel
theorem dX6_leastOf_103 : decode cX6_leastOf 103 = .ok (.aload_n 0, 1) := by decide +kernel
theorem dX6_leastOf_104 : decode cX6_leastOf 104 = .ok (.iload 6, 2) := by decide +kernel
theorem dX6_leastOf_106 : decode cX6_leastOf 106 = .ok (.iload_n 1, 1) := by decide +kernel
theorem dX6_leastOf_107 : decode cX6_leastOf 107 = .ok (.invokevirtual 152, 3) := by decide +kernel
theorem dX6_leastOf_110 : decode cX6_leastOf 110 = .ok (.ladd, 1) := by decide +kernel
theorem dX6_leastOf_111 : decode cX6_leastOf 111 = .ok (.lstore 4, 2) := by decide +kernel
theorem dX6_leastOf_113 : decode cX6_leastOf 113 = .ok (.iinc 6 1, 3) := by decide +kernel
theorem dX6_leastOf_116 : decode cX6_leastOf 116 = .ok (.goto (-35), 3) := by decide +kernel
theorem dX6_leastOf_119 : decode cX6_leastOf 119 = .ok (.lload 4, 2) := by decide +kernel
theorem dX6_leastOf_121 : decode cX6_leastOf 121 = .ok (.lreturn, 1) := by decide +kernel
set_option maxRecDepth 20000 in
theorem ggX6_add_X6_toil : GoodIn wsX6_add wsX6_toil := goodIn_r _ [10, 11, 12, 13, 14, 15, 16, 17, 18, 19, 20, 9, 21, 22, 23, 24, 25, 26, 27, 28, 29, 30, 31, 32, 33, 34, 35, 36, 37, 38, 39, 40, 41, 42, 43, 44, 45, 46, 47, 48, 49, 50, 51, 52, 53, 54, 55, 56, 57, 58] (by decide +kernel) (by decide +kernel)
set_option maxRecDepth 20000 in
theorem gX6_add_X6_toil : GoodIn wsX6_add (wsV RX6 156 RX6 yX6_toil wsX6_toil) := goodIn_app (goodIn_of _ (by decide +kernel)) ggX6_add_X6_toil
theorem dX6_add_0 : decode cX6_add 0 = .ok (.iconst 0, 1) := by decide +kernel
theorem dX6_add_1 : decode cX6_add 1 = .ok (.istore_n 3, 1) := by decide +kernel
theorem dX6_add_2 : decode cX6_add 2 = .ok (.iload_n 3, 1) := by decide +kernel
theorem dX6_add_3 : decode cX6_add 3 = .ok (.aload_n 0, 1) := by decide +kernel
theorem dX6_add_4 : decode cX6_add 4 = .ok (.getfield 92, 3) := by decide +kernel
theorem dX6_add_7 : decode cX6_add 7 = .ok (.if_icmp .ge 28, 3) := by decide +kernel
theorem dX6_add_10 : decode cX6_add 10 = .ok (.aload_n 0, 1) := by decide +kernel
theorem dX6_add_11 : decode cX6_add 11 = .ok (.getfield 59, 3) := by decide +kernel
theorem dX6_add_14 : decode cX6_add 14 = .ok (.iload_n 3, 1) := by decide +kernel
theorem dX6_add_15 : decode cX6_add 15 = .ok (.aload_n 0, 1) := by decide +kernel
theorem dX6_add_16 : decode cX6_add 16 = .ok (.iload_n 1, 1) := by decide +kernel
theorem dX6_add_17 : decode cX6_add 17 = .ok (.iload_n 3, 1) := by decide +kernel
theorem dX6_add_18 : decode cX6_add 18 = .ok (.invokevirtual 156, 3) := by decide +kernel
theorem dX6_add_21 : decode cX6_add 21 = .ok (.lastore, 1) := by decide +kernel
theorem dX6_add_22 : decode cX6_add 22 = .ok (.aload_n 0, 1) := by decide +kernel
theorem dX6_add_23 : decode cX6_add 23 = .ok (.getfield 63, 3) := by decide +kernel
theorem dX6_add_26 : decode cX6_add 26 = .ok (.iload_n 3, 1) := by decide +kernel
theorem dX6_add_27 : decode cX6_add 27 = .ok (.iconst (-1), 1) := by decide +kernel
theorem dX6_add_28 : decode cX6_add 28 = .ok (.iastore, 1) := by decide +kernel
theorem dX6_add_29 : decode cX6_add 29 = .ok (.iinc 3 1, 3) := by decide +kernel
theorem dX6_add_32 : decode cX6_add 32 = .ok (.goto (-30), 3) := by decide +kernel
theorem dX6_add_35 : decode cX6_add 35 = .ok (.iconst 1, 1) := by decide +kernel
theorem dX6_add_36 : decode cX6_add 36 = .ok (.istore_n 3, 1) := by decide +kernel
theorem dX6_add_37 : decode cX6_add 37 = .ok (.iload_n 3, 1) := by decide +kernel
theorem dX6_add_38 : decode cX6_add 38 = .ok (.ifCond .eq 127, 3) := by decide +kernel
theorem dX6_add_41 : decode cX6_add 41 = .ok (.iconst 0, 1) := by decide +kernel
theorem dX6_add_42 : decode cX6_add 42 = .ok (.istore_n 3, 1) := by decide +kernel
theorem dX6_add_43 : decode cX6_add 43 = .ok (.iconst 0, 1) := by decide +kernel
theorem dX6_add_44 : decode cX6_add 44 = .ok (.istore 4, 2) := by decide +kernel
theorem dX6_add_46 : decode cX6_add 46 = .ok (.iload 4, 2) := by decide +kernel
theorem dX6_add_48 : decode cX6_add 48 = .ok (.iload_n 1, 1) := by decide +kernel
theorem dX6_add_49 : decode cX6_add 49 = .ok (.if_icmp .ge 113, 3) := by decide +kernel
theorem dX6_add_52 : decode cX6_add 52 = .ok (.aload_n 0, 1) := by decide +kernel
theorem dX6_add_53 : decode cX6_add 53 = .ok (.getfield 53, 3) := by decide +kernel
theorem dX6_add_56 : decode cX6_add 56 = .ok (.iload 4, 2) := by decide +kernel
theorem dX6_add_58 : decode cX6_add 58 = .ok (.iaload, 1) := by decide +kernel
theorem dX6_add_59 : decode cX6_add 59 = .ok (.ifCond .ge 6, 3) := by decide +kernel
theorem dX6_add_62 : decode cX6_add 62 = .ok (.goto 94, 3) := by decide +kernel
theorem dX6_add_65 : decode cX6_add 65 = .ok (.iconst 0, 1) := by decide +kernel
theorem dX6_add_66 : decode cX6_add 66 = .ok (.istore 5, 2) := by decide +kernel
theorem dX6_add_68 : decode cX6_add 68 = .ok (.iload 5, 2) := by decide +kernel
theorem dX6_add_70 : decode cX6_add 70 = .ok (.aload_n 0, 1) := by decide +kernel
theorem dX6_add_71 : decode cX6_add 71 = .ok (.getfield 92, 3) := by decide +kernel
theorem dX6_add_74 : decode cX6_add 74 = .ok (.if_icmp .ge 82, 3) := by decide +kernel
theorem dX6_add_77 : decode cX6_add 77 = .ok (.aload_n 0, 1) := by decide +kernel
theorem dX6_add_78 : decode cX6_add 78 = .ok (.getfield 59, 3) := by decide +kernel
theorem dX6_add_81 : decode cX6_add 81 = .ok (.aload_n 0, 1) := by decide +kernel
theorem dX6_add_82 : decode cX6_add 82 = .ok (.getfield 53, 3) := by decide +kernel
theorem dX6_add_85 : decode cX6_add 85 = .ok (.iload 4, 2) := by decide +kernel
theorem dX6_add_87 : decode cX6_add 87 = .ok (.iaload, 1) := by decide +kernel
theorem dX6_add_88 : decode cX6_add 88 = .ok (.laload, 1) := by decide +kernel
theorem dX6_add_89 : decode cX6_add 89 = .ok (.aload_n 0, 1) := by decide +kernel
theorem dX6_add_90 : decode cX6_add 90 = .ok (.iload 4, 2) := by decide +kernel
theorem dX6_add_92 : decode cX6_add 92 = .ok (.iload 5, 2) := by decide +kernel
theorem dX6_add_94 : decode cX6_add 94 = .ok (.invokevirtual 156, 3) := by decide +kernel
theorem dX6_add_97 : decode cX6_add 97 = .ok (.ladd, 1) := by decide +kernel
theorem dX6_add_98 : decode cX6_add 98 = .ok (.aload_n 0, 1) := by decide +kernel
theorem dX6_add_99 : decode cX6_add 99 = .ok (.iload 4, 2) := by decide +kernel
theorem dX6_add_101 : decode cX6_add 101 = .ok (.aload_n 0, 1) := by decide +kernel
theorem dX6_add_102 : decode cX6_add 102 = .ok (.getfield 53, 3) := by decide +kernel
theorem dX6_add_105 : decode cX6_add 105 = .ok (.iload 4, 2) := by decide +kernel
theorem dX6_add_107 : decode cX6_add 107 = .ok (.iaload, 1) := by decide +kernel
theorem dX6_add_108 : decode cX6_add 108 = .ok (.invokevirtual 156, 3) := by decide +kernel
theorem dX6_add_111 : decode cX6_add 111 = .ok (.lsub, 1) := by decide +kernel
theorem dX6_add_112 : decode cX6_add 112 = .ok (.lstore 6, 2) := by decide +kernel
theorem dX6_add_114 : decode cX6_add 114 = .ok (.lload 6, 2) := by decide +kernel
theorem dX6_add_116 : decode cX6_add 116 = .ok (.aload_n 0, 1) := by decide +kernel
theorem dX6_add_117 : decode cX6_add 117 = .ok (.getfield 59, 3) := by decide +kernel
theorem dX6_add_120 : decode cX6_add 120 = .ok (.iload 5, 2) := by decide +kernel
theorem dX6_add_122 : decode cX6_add 122 = .ok (.laload, 1) := by decide +kernel
theorem dX6_add_123 : decode cX6_add 123 = .ok (.lcmp, 1) := by decide +kernel
theorem dX6_add_124 : decode cX6_add 124 = .ok (.ifCond .lt 6, 3) := by decide +kernel
theorem dX6_add_127 : decode cX6_add 127 = .ok (.goto 23, 3) := by decide +kernel
theorem dX6_add_130 : decode cX6_add 130 = .ok (.aload_n 0, 1) := by decide +kernel
theorem dX6_add_131 : decode cX6_add 131 = .ok (.getfield 59, 3) := by decide +kernel
theorem dX6_add_134 : decode cX6_add 134 = .ok (.iload 5, 2) := by decide +kernel
theorem dX6_add_136 : decode cX6_add 136 = .ok (.lload 6, 2) := by decide +kernel
theorem dX6_add_138 : decode cX6_add 138 = .ok (.lastore, 1) := by decide +kernel
theorem dX6_add_139 : decode cX6_add 139 = .ok (.aload_n 0, 1) := by decide +kernel
theorem dX6_add_140 : decode cX6_add 140 = .ok (.getfield 63, 3) := by decide +kernel
theorem dX6_add_143 : decode cX6_add 143 = .ok (.iload 5, 2) := by decide +kernel
theorem dX6_add_145 : decode cX6_add 145 = .ok (.iload 4, 2) := by decide +kernel
theorem dX6_add_147 : decode cX6_add 147 = .ok (.iastore, 1) := by decide +kernel
theorem dX6_add_148 : decode cX6_add 148 = .ok (.iconst 1, 1) := by decide +kernel
theorem dX6_add_149 : decode cX6_add 149 = .ok (.istore_n 3, 1) := by decide +kernel
theorem dX6_add_150 : decode cX6_add 150 = .ok (.iinc 5 1, 3) := by decide +kernel
theorem dX6_add_153 : decode cX6_add 153 = .ok (.goto (-85), 3) := by decide +kernel
theorem dX6_add_156 : decode cX6_add 156 = .ok (.iinc 4 1, 3) := by decide +kernel
theorem dX6_add_159 : decode cX6_add 159 = .ok (.goto (-113), 3) := by decide +kernel
theorem dX6_add_162 : decode cX6_add 162 = .ok (.goto (-125), 3) := by decide +kernel
theorem dX6_add_165 : decode cX6_add 165 = .ok (.iconst (-1), 1) := by decide +kernel
theorem dX6_add_166 : decode cX6_add 166 = .ok (.istore 4, 2) := by decide +kernel
theorem dX6_add_168 : decode cX6_add 168 = .ok (.iconst 0, 1) := by decide +kernel
theorem dX6_add_169 : decode cX6_add 169 = .ok (.istore 5, 2) := by decide +kernel
theorem dX6_add_171 : decode cX6_add 171 = .ok (.iload 5, 2) := by decide +kernel
theorem dX6_add_173 : decode cX6_add 173 = .ok (.aload_n 0, 1) := by decide +kernel
theorem dX6_add_174 : decode cX6_add 174 = .ok (.getfield 92, 3) := by decide +kernel
theorem dX6_add_177 : decode cX6_add 177 = .ok (.if_icmp .ge 46, 3) := by decide +kernel
theorem dX6_add_180 : decode cX6_add 180 = .ok (.aload_n 0, 1) := by decide +kernel
theorem dX6_add_181 : decode cX6_add 181 = .ok (.getfield 56, 3) := by decide +kernel
theorem dX6_add_184 : decode cX6_add 184 = .ok (.iload 5, 2) := by decide +kernel
theorem dX6_add_186 : decode cX6_add 186 = .ok (.iaload, 1) := by decide +kernel
theorem dX6_add_187 : decode cX6_add 187 = .ok (.ifCond .le 30, 3) := by decide +kernel
theorem dX6_add_190 : decode cX6_add 190 = .ok (.iload 4, 2) := by decide +kernel
theorem dX6_add_192 : decode cX6_add 192 = .ok (.ifCond .lt 21, 3) := by decide +kernel
theorem dX6_add_195 : decode cX6_add 195 = .ok (.aload_n 0, 1) := by decide +kernel
theorem dX6_add_196 : decode cX6_add 196 = .ok (.getfield 59, 3) := by decide +kernel
theorem dX6_add_199 : decode cX6_add 199 = .ok (.iload 5, 2) := by decide +kernel
theorem dX6_add_201 : decode cX6_add 201 = .ok (.laload, 1) := by decide +kernel
theorem dX6_add_202 : decode cX6_add 202 = .ok (.aload_n 0, 1) := by decide +kernel
theorem dX6_add_203 : decode cX6_add 203 = .ok (.getfield 59, 3) := by decide +kernel
theorem dX6_add_206 : decode cX6_add 206 = .ok (.iload 4, 2) := by decide +kernel
theorem dX6_add_208 : decode cX6_add 208 = .ok (.laload, 1) := by decide +kernel
theorem dX6_add_209 : decode cX6_add 209 = .ok (.lcmp, 1) := by decide +kernel
theorem dX6_add_210 : decode cX6_add 210 = .ok (.ifCond .ge 7, 3) := by decide +kernel
theorem dX6_add_213 : decode cX6_add 213 = .ok (.iload 5, 2) := by decide +kernel
theorem dX6_add_215 : decode cX6_add 215 = .ok (.istore 4, 2) := by decide +kernel
theorem dX6_add_217 : decode cX6_add 217 = .ok (.iinc 5 1, 3) := by decide +kernel
theorem dX6_add_220 : decode cX6_add 220 = .ok (.goto (-49), 3) := by decide +kernel
theorem dX6_add_223 : decode cX6_add 223 = .ok (.aload_n 0, 1) := by decide +kernel
theorem dX6_add_224 : decode cX6_add 224 = .ok (.getfield 56, 3) := by decide +kernel
theorem dX6_add_227 : decode cX6_add 227 = .ok (.iload 4, 2) := by decide +kernel
theorem dX6_add_229 : decode cX6_add 229 = .ok (.dup2, 1) := by decide +kernel
theorem dX6_add_230 : decode cX6_add 230 = .ok (.iaload, 1) := by decide +kernel
theorem dX6_add_231 : decode cX6_add 231 = .ok (.iconst 1, 1) := by decide +kernel
theorem dX6_add_232 : decode cX6_add 232 = .ok (.isub, 1) := by decide +kernel
theorem dX6_add_233 : decode cX6_add 233 = .ok (.iastore, 1) := by decide +kernel
theorem dX6_add_234 : decode cX6_add 234 = .ok (.aload_n 0, 1) := by decide +kernel
theorem dX6_add_235 : decode cX6_add 235 = .ok (.getfield 59, 3) := by decide +kernel
theorem dX6_add_238 : decode cX6_add 238 = .ok (.iload 4, 2) := by decide +kernel
theorem dX6_add_240 : decode cX6_add 240 = .ok (.laload, 1) := by decide +kernel
theorem dX6_add_241 : decode cX6_add 241 = .ok (.lstore 5, 2) := by decide +kernel
theorem dX6_add_243 : decode cX6_add 243 = .ok (.iload 4, 2) := by decide +kernel
theorem dX6_add_245 : decode cX6_add 245 = .ok (.istore 7, 2) := by decide +kernel
theorem dX6_add_247 : decode cX6_add 247 = .ok (.aload_n 0, 1) := by decide +kernel
theorem dX6_add_248 : decode cX6_add 248 = .ok (.getfield 63, 3) := by decide +kernel
theorem dX6_add_251 : decode cX6_add 251 = .ok (.iload 7, 2) := by decide +kernel
theorem dX6_add_253 : decode cX6_add 253 = .ok (.iaload, 1) := by decide +kernel
theorem dX6_add_254 : decode cX6_add 254 = .ok (.ifCond .lt 37, 3) := by decide +kernel
theorem dX6_add_257 : decode cX6_add 257 = .ok (.aload_n 0, 1) := by decide +kernel
theorem dX6_add_258 : decode cX6_add 258 = .ok (.getfield 63, 3) := by decide +kernel
theorem dX6_add_261 : decode cX6_add 261 = .ok (.iload 7, 2) := by decide +kernel
theorem dX6_add_263 : decode cX6_add 263 = .ok (.iaload, 1) := by decide +kernel
theorem dX6_add_264 : decode cX6_add 264 = .ok (.istore 8, 2) := by decide +kernel
theorem dX6_add_266 : decode cX6_add 266 = .ok (.aload_n 0, 1) := by decide +kernel
theorem dX6_add_267 : decode cX6_add 267 = .ok (.getfield 53, 3) := by decide +kernel
theorem dX6_add_270 : decode cX6_add 270 = .ok (.iload 8, 2) := by decide +kernel
theorem dX6_add_272 : decode cX6_add 272 = .ok (.iaload, 1) := by decide +kernel
theorem dX6_add_273 : decode cX6_add 273 = .ok (.istore 9, 2) := by decide +kernel
theorem dX6_add_275 : decode cX6_add 275 = .ok (.aload_n 0, 1) := by decide +kernel
theorem dX6_add_276 : decode cX6_add 276 = .ok (.getfield 53, 3) := by decide +kernel
theorem dX6_add_279 : decode cX6_add 279 = .ok (.iload 8, 2) := by decide +kernel
theorem dX6_add_281 : decode cX6_add 281 = .ok (.iload 7, 2) := by decide +kernel
theorem dX6_add_283 : decode cX6_add 283 = .ok (.iastore, 1) := by decide +kernel
theorem dX6_add_284 : decode cX6_add 284 = .ok (.iload 9, 2) := by decide +kernel
theorem dX6_add_286 : decode cX6_add 286 = .ok (.istore 7, 2) := by decide +kernel
theorem dX6_add_288 : decode cX6_add 288 = .ok (.goto (-41), 3) := by decide +kernel
theorem dX6_add_291 : decode cX6_add 291 = .ok (.aload_n 0, 1) := by decide +kernel
theorem dX6_add_292 : decode cX6_add 292 = .ok (.getfield 53, 3) := by decide +kernel
theorem dX6_add_295 : decode cX6_add 295 = .ok (.iload_n 1, 1) := by decide +kernel
theorem dX6_add_296 : decode cX6_add 296 = .ok (.iload 7, 2) := by decide +kernel
theorem dX6_add_298 : decode cX6_add 298 = .ok (.iastore, 1) := by decide +kernel
theorem dX6_add_299 : decode cX6_add 299 = .ok (.lload 5, 2) := by decide +kernel
theorem dX6_add_301 : decode cX6_add 301 = .ok (.lreturn, 1) := by decide +kernel
set_option maxRecDepth 20000 in
theorem ggX6_leastAll_X6_leastOf : GoodIn wsX6_leastAll wsX6_leastOf := goodIn_r _ [6, 7, 8, 9, 10, 11, 12, 13, 14, 15, 5, 16, 17, 18, 19, 20, 21, 22, 23, 24, 25, 26, 27, 28, 29, 30, 31, 32, 33, 34, 35, 36, 37, 38, 39, 40, 41, 42, 43, 44, 45, 46, 47, 48, 49, 50, 51, 52, 53, 54, 55, 56, 57, 58, 59, 60, 61, 62, 63, 64, 65, 66, 67, 68, 69] (by decide +kernel) (by decide +kernel)
set_option maxRecDepth 20000 in
theorem gX6_leastAll_X6_leastOf : GoodIn wsX6_leastAll (wsV RX6 159 RX6 yX6_leastOf wsX6_leastOf) := goodIn_app (goodIn_of _ (by decide +kernel)) ggX6_leastAll_X6_leastOf
theorem dX6_leastAll_0 : decode cX6_leastAll 0 = .ok (.lconst 0, 1) := by decide +kernel
theorem dX6_leastAll_1 : decode cX6_leastAll 1 = .ok (.lstore_n 1, 1) := by decide +kernel
theorem dX6_leastAll_2 : decode cX6_leastAll 2 = .ok (.iconst 0, 1) := by decide +kernel
theorem dX6_leastAll_3 : decode cX6_leastAll 3 = .ok (.istore_n 3, 1) := by decide +kernel
theorem dX6_leastAll_4 : decode cX6_leastAll 4 = .ok (.iload_n 3, 1) := by decide +kernel
theorem dX6_leastAll_5 : decode cX6_leastAll 5 = .ok (.aload_n 0, 1) := by decide +kernel
theorem dX6_leastAll_6 : decode cX6_leastAll 6 = .ok (.getfield 86, 3) := by decide +kernel
theorem dX6_leastAll_9 : decode cX6_leastAll 9 = .ok (.if_icmp .ge 19, 3) := by decide +kernel
theorem dX6_leastAll_12 : decode cX6_leastAll 12 = .ok (.lload_n 1, 1) := by decide +kernel
theorem dX6_leastAll_13 : decode cX6_leastAll 13 = .ok (.aload_n 0, 1) := by decide +kernel
theorem dX6_leastAll_14 : decode cX6_leastAll 14 = .ok (.iload_n 3, 1) := by decide +kernel
theorem dX6_leastAll_15 : decode cX6_leastAll 15 = .ok (.iconst 0, 1) := by decide +kernel
theorem dX6_leastAll_16 : decode cX6_leastAll 16 = .ok (.iconst 0, 1) := by decide +kernel
theorem dX6_leastAll_17 : decode cX6_leastAll 17 = .ok (.invokevirtual 159, 3) := by decide +kernel
theorem dX6_leastAll_20 : decode cX6_leastAll 20 = .ok (.ladd, 1) := by decide +kernel
theorem dX6_leastAll_21 : decode cX6_leastAll 21 = .ok (.lstore_n 1, 1) := by decide +kernel
theorem dX6_leastAll_22 : decode cX6_leastAll 22 = .ok (.iinc 3 1, 3) := by decide +kernel
theorem dX6_leastAll_25 : decode cX6_leastAll 25 = .ok (.goto (-21), 3) := by decide +kernel
theorem dX6_leastAll_28 : decode cX6_leastAll 28 = .ok (.lload_n 1, 1) := by decide +kernel
theorem dX6_leastAll_29 : decode cX6_leastAll 29 = .ok (.lreturn, 1) := by decide +kernel
set_option maxRecDepth 20000 in
theorem ggX6_least_X6_leastAll : GoodIn wsX6_least wsX6_leastAll := goodIn_r _ [8, 9, 10, 11, 12, 7, 13, 14, 15, 16, 17, 18, 19, 20, 21, 22, 23, 24, 25, 26, 27, 28, 29, 30, 31, 32, 33, 34, 35, 36, 37, 38, 39, 40, 41, 42, 43, 44, 45, 46, 47, 48, 49, 50, 51, 52, 53, 54, 55, 56, 57, 58, 59, 60, 61, 62, 63, 64, 65, 66, 67, 68, 69, 70, 71, 72, 73, 74, 75, 76] (by decide +kernel) (by decide +kernel)
set_option maxRecDepth 20000 in
theorem gX6_least_X6_leastAll : GoodIn wsX6_least (wsV RX6 163 RX6 yX6_leastAll wsX6_leastAll) := goodIn_app (goodIn_of _ (by decide +kernel)) ggX6_least_X6_leastAll
theorem dX6_least_0 : decode cX6_least 0 = .ok (.aload_n 0, 1) := by decide +kernel
theorem dX6_least_1 : decode cX6_least 1 = .ok (.iconst 0, 1) := by decide +kernel
theorem dX6_least_2 : decode cX6_least 2 = .ok (.putfield 72, 3) := by decide +kernel
theorem dX6_least_5 : decode cX6_least 5 = .ok (.aload_n 0, 1) := by decide +kernel
theorem dX6_least_6 : decode cX6_least 6 = .ok (.getfield 76, 3) := by decide +kernel
theorem dX6_least_9 : decode cX6_least 9 = .ok (.ifCond .eq 10, 3) := by decide +kernel
theorem dX6_least_12 : decode cX6_least 12 = .ok (.aload_n 0, 1) := by decide +kernel
theorem dX6_least_13 : decode cX6_least 13 = .ok (.invokevirtual 163, 3) := by decide +kernel
theorem dX6_least_16 : decode cX6_least 16 = .ok (.goto 6, 3) := by decide +kernel
theorem dX6_least_19 : decode cX6_least 19 = .ok (.ldc2_w 167, 3) := by decide +kernel
theorem dX6_least_22 : decode cX6_least 22 = .ok (.lreturn, 1) := by decide +kernel
set_option maxRecDepth 20000 in
theorem ggX6_saved_X6_leastOf : GoodIn wsX6_saved wsX6_leastOf := goodIn_r _ [10, 3, 11, 12, 13, 14, 15, 16, 17, 18, 9, 19, 20, 21, 22, 23, 24, 25, 26, 27, 28, 29, 30, 31, 32, 33, 34, 35, 36, 37, 38, 39, 40, 41, 42, 43, 44, 45, 46, 47, 48, 49, 50, 51, 52, 53, 54, 55, 56, 57, 58, 59, 60, 61, 62, 63, 64, 65, 66, 67, 68, 69, 70, 71, 72] (by decide +kernel) (by decide +kernel)
set_option maxRecDepth 20000 in
theorem gX6_saved_X6_leastOf : GoodIn wsX6_saved (wsV RX6 159 RX6 yX6_leastOf wsX6_leastOf) := goodIn_app (goodIn_of _ (by decide +kernel)) ggX6_saved_X6_leastOf
theorem dX6_saved_0 : decode cX6_saved 0 = .ok (.aload_n 0, 1) := by decide +kernel
theorem dX6_saved_1 : decode cX6_saved 1 = .ok (.iconst 0, 1) := by decide +kernel
theorem dX6_saved_2 : decode cX6_saved 2 = .ok (.putfield 72, 3) := by decide +kernel
theorem dX6_saved_5 : decode cX6_saved 5 = .ok (.aload_n 0, 1) := by decide +kernel
theorem dX6_saved_6 : decode cX6_saved 6 = .ok (.getfield 76, 3) := by decide +kernel
theorem dX6_saved_9 : decode cX6_saved 9 = .ok (.ifCond .eq 27, 3) := by decide +kernel
theorem dX6_saved_12 : decode cX6_saved 12 = .ok (.iload_n 1, 1) := by decide +kernel
theorem dX6_saved_13 : decode cX6_saved 13 = .ok (.ifCond .lt 23, 3) := by decide +kernel
theorem dX6_saved_16 : decode cX6_saved 16 = .ok (.iload_n 1, 1) := by decide +kernel
theorem dX6_saved_17 : decode cX6_saved 17 = .ok (.aload_n 0, 1) := by decide +kernel
theorem dX6_saved_18 : decode cX6_saved 18 = .ok (.getfield 92, 3) := by decide +kernel
theorem dX6_saved_21 : decode cX6_saved 21 = .ok (.if_icmp .ge 15, 3) := by decide +kernel
theorem dX6_saved_24 : decode cX6_saved 24 = .ok (.iload_n 2, 1) := by decide +kernel
theorem dX6_saved_25 : decode cX6_saved 25 = .ok (.ifCond .lt 11, 3) := by decide +kernel
theorem dX6_saved_28 : decode cX6_saved 28 = .ok (.iload_n 2, 1) := by decide +kernel
theorem dX6_saved_29 : decode cX6_saved 29 = .ok (.aload_n 0, 1) := by decide +kernel
theorem dX6_saved_30 : decode cX6_saved 30 = .ok (.getfield 86, 3) := by decide +kernel
theorem dX6_saved_33 : decode cX6_saved 33 = .ok (.if_icmp .lt 7, 3) := by decide +kernel
theorem dX6_saved_36 : decode cX6_saved 36 = .ok (.ldc2_w 167, 3) := by decide +kernel
theorem dX6_saved_39 : decode cX6_saved 39 = .ok (.lreturn, 1) := by decide +kernel
theorem dX6_saved_40 : decode cX6_saved 40 = .ok (.aload_n 0, 1) := by decide +kernel
theorem dX6_saved_41 : decode cX6_saved 41 = .ok (.iload_n 2, 1) := by decide +kernel
theorem dX6_saved_42 : decode cX6_saved 42 = .ok (.iconst 0, 1) := by decide +kernel
theorem dX6_saved_43 : decode cX6_saved 43 = .ok (.iconst 0, 1) := by decide +kernel
theorem dX6_saved_44 : decode cX6_saved 44 = .ok (.invokevirtual 159, 3) := by decide +kernel
theorem dX6_saved_47 : decode cX6_saved 47 = .ok (.aload_n 0, 1) := by decide +kernel
theorem dX6_saved_48 : decode cX6_saved 48 = .ok (.iload_n 2, 1) := by decide +kernel
theorem dX6_saved_49 : decode cX6_saved 49 = .ok (.iconst 1, 1) := by decide +kernel
theorem dX6_saved_50 : decode cX6_saved 50 = .ok (.iload_n 1, 1) := by decide +kernel
theorem dX6_saved_51 : decode cX6_saved 51 = .ok (.invokevirtual 159, 3) := by decide +kernel
theorem dX6_saved_54 : decode cX6_saved 54 = .ok (.lsub, 1) := by decide +kernel
theorem dX6_saved_55 : decode cX6_saved 55 = .ok (.lreturn, 1) := by decide +kernel
set_option maxRecDepth 20000 in
theorem ggX6_build_X6_toil : GoodIn wsX6_build wsX6_toil := goodIn_r _ [17, 9, 18, 19, 20, 21, 22, 23, 24, 25, 26, 16, 27, 28, 29, 30, 31, 32, 33, 34, 35, 36, 37, 38, 39, 40, 41, 42, 43, 44, 45, 46, 47, 48, 49, 50, 51, 52, 53, 54, 55, 56, 57, 58, 59, 60, 61, 62, 63, 64] (by decide +kernel) (by decide +kernel)
set_option maxRecDepth 20000 in
theorem gX6_build_X6_toil : GoodIn wsX6_build (wsV RX6 156 RX6 yX6_toil wsX6_toil) := goodIn_app (goodIn_of _ (by decide +kernel)) ggX6_build_X6_toil
theorem dX6_build_0 : decode cX6_build 0 = .ok (.aload_n 0, 1) := by decide +kernel
theorem dX6_build_1 : decode cX6_build 1 = .ok (.iconst 0, 1) := by decide +kernel
theorem dX6_build_2 : decode cX6_build 2 = .ok (.putfield 72, 3) := by decide +kernel
theorem dX6_build_5 : decode cX6_build 5 = .ok (.aload_n 0, 1) := by decide +kernel
theorem dX6_build_6 : decode cX6_build 6 = .ok (.getfield 76, 3) := by decide +kernel
theorem dX6_build_9 : decode cX6_build 9 = .ok (.ifCond .eq 10, 3) := by decide +kernel
theorem dX6_build_12 : decode cX6_build 12 = .ok (.aload_n 0, 1) := by decide +kernel
theorem dX6_build_13 : decode cX6_build 13 = .ok (.getfield 83, 3) := by decide +kernel
theorem dX6_build_16 : decode cX6_build 16 = .ok (.ifCond .eq 7, 3) := by decide +kernel
theorem dX6_build_19 : decode cX6_build 19 = .ok (.ldc2_w 167, 3) := by decide +kernel
theorem dX6_build_22 : decode cX6_build 22 = .ok (.lreturn, 1) := by decide +kernel
theorem dX6_build_23 : decode cX6_build 23 = .ok (.aload_n 0, 1) := by decide +kernel
theorem dX6_build_24 : decode cX6_build 24 = .ok (.iconst 1, 1) := by decide +kernel
theorem dX6_build_25 : decode cX6_build 25 = .ok (.putfield 83, 3) := by decide +kernel
theorem dX6_build_28 : decode cX6_build 28 = .ok (.aload_n 0, 1) := by decide +kernel
theorem dX6_build_29 : decode cX6_build 29 = .ok (.iconst 0, 1) := by decide +kernel
theorem dX6_build_30 : decode cX6_build 30 = .ok (.putfield 169, 3) := by decide +kernel
theorem dX6_build_33 : decode cX6_build 33 = .ok (.lconst 0, 1) := by decide +kernel
theorem dX6_build_34 : decode cX6_build 34 = .ok (.lstore_n 1, 1) := by decide +kernel
theorem dX6_build_35 : decode cX6_build 35 = .ok (.iconst 0, 1) := by decide +kernel
theorem dX6_build_36 : decode cX6_build 36 = .ok (.istore_n 3, 1) := by decide +kernel
theorem dX6_build_37 : decode cX6_build 37 = .ok (.iload_n 3, 1) := by decide +kernel
theorem dX6_build_38 : decode cX6_build 38 = .ok (.aload_n 0, 1) := by decide +kernel
theorem dX6_build_39 : decode cX6_build 39 = .ok (.getfield 80, 3) := by decide +kernel
theorem dX6_build_42 : decode cX6_build 42 = .ok (.if_icmp .ge 131, 3) := by decide +kernel
theorem dX6_build_45 : decode cX6_build 45 = .ok (.iconst (-1), 1) := by decide +kernel
theorem dX6_build_46 : decode cX6_build 46 = .ok (.istore 4, 2) := by decide +kernel
theorem dX6_build_48 : decode cX6_build 48 = .ok (.iconst 0, 1) := by decide +kernel
theorem dX6_build_49 : decode cX6_build 49 = .ok (.istore 5, 2) := by decide +kernel
theorem dX6_build_51 : decode cX6_build 51 = .ok (.iload 5, 2) := by decide +kernel
theorem dX6_build_53 : decode cX6_build 53 = .ok (.aload_n 0, 1) := by decide +kernel
theorem dX6_build_54 : decode cX6_build 54 = .ok (.getfield 92, 3) := by decide +kernel
theorem dX6_build_57 : decode cX6_build 57 = .ok (.if_icmp .ge 56, 3) := by decide +kernel
theorem dX6_build_60 : decode cX6_build 60 = .ok (.aload_n 0, 1) := by decide +kernel
theorem dX6_build_61 : decode cX6_build 61 = .ok (.getfield 22, 3) := by decide +kernel
theorem dX6_build_64 : decode cX6_build 64 = .ok (.bipush 8, 2) := by decide +kernel
theorem dX6_build_66 : decode cX6_build 66 = .ok (.iload 5, 2) := by decide +kernel
theorem dX6_build_68 : decode cX6_build 68 = .ok (.imul, 1) := by decide +kernel
theorem dX6_build_69 : decode cX6_build 69 = .ok (.aload_n 0, 1) := by decide +kernel
theorem dX6_build_70 : decode cX6_build 70 = .ok (.getfield 28, 3) := by decide +kernel
theorem dX6_build_73 : decode cX6_build 73 = .ok (.iload_n 3, 1) := by decide +kernel
theorem dX6_build_74 : decode cX6_build 74 = .ok (.iaload, 1) := by decide +kernel
theorem dX6_build_75 : decode cX6_build 75 = .ok (.iadd, 1) := by decide +kernel
theorem dX6_build_76 : decode cX6_build 76 = .ok (.iaload, 1) := by decide +kernel
theorem dX6_build_77 : decode cX6_build 77 = .ok (.ifCond .le 30, 3) := by decide +kernel
theorem dX6_build_80 : decode cX6_build 80 = .ok (.iload 4, 2) := by decide +kernel
theorem dX6_build_82 : decode cX6_build 82 = .ok (.ifCond .lt 21, 3) := by decide +kernel
theorem dX6_build_85 : decode cX6_build 85 = .ok (.aload_n 0, 1) := by decide +kernel
theorem dX6_build_86 : decode cX6_build 86 = .ok (.iload_n 3, 1) := by decide +kernel
theorem dX6_build_87 : decode cX6_build 87 = .ok (.iload 5, 2) := by decide +kernel
theorem dX6_build_89 : decode cX6_build 89 = .ok (.invokevirtual 156, 3) := by decide +kernel
theorem dX6_build_92 : decode cX6_build 92 = .ok (.aload_n 0, 1) := by decide +kernel
theorem dX6_build_93 : decode cX6_build 93 = .ok (.iload_n 3, 1) := by decide +kernel
theorem dX6_build_94 : decode cX6_build 94 = .ok (.iload 4, 2) := by decide +kernel
theorem dX6_build_96 : decode cX6_build 96 = .ok (.invokevirtual 156, 3) := by decide +kernel
theorem dX6_build_99 : decode cX6_build 99 = .ok (.lcmp, 1) := by decide +kernel
theorem dX6_build_100 : decode cX6_build 100 = .ok (.ifCond .ge 7, 3) := by decide +kernel
theorem dX6_build_103 : decode cX6_build 103 = .ok (.iload 5, 2) := by decide +kernel
theorem dX6_build_105 : decode cX6_build 105 = .ok (.istore 4, 2) := by decide +kernel
theorem dX6_build_107 : decode cX6_build 107 = .ok (.iinc 5 1, 3) := by decide +kernel
theorem dX6_build_110 : decode cX6_build 110 = .ok (.goto (-59), 3) := by decide +kernel
theorem dX6_build_113 : decode cX6_build 113 = .ok (.aload_n 0, 1) := by decide +kernel
theorem dX6_build_114 : decode cX6_build 114 = .ok (.getfield 22, 3) := by decide +kernel
theorem dX6_build_117 : decode cX6_build 117 = .ok (.bipush 8, 2) := by decide +kernel
theorem dX6_build_119 : decode cX6_build 119 = .ok (.iload 4, 2) := by decide +kernel
theorem dX6_build_121 : decode cX6_build 121 = .ok (.imul, 1) := by decide +kernel
theorem dX6_build_122 : decode cX6_build 122 = .ok (.aload_n 0, 1) := by decide +kernel
theorem dX6_build_123 : decode cX6_build 123 = .ok (.getfield 28, 3) := by decide +kernel
theorem dX6_build_126 : decode cX6_build 126 = .ok (.iload_n 3, 1) := by decide +kernel
theorem dX6_build_127 : decode cX6_build 127 = .ok (.iaload, 1) := by decide +kernel
theorem dX6_build_128 : decode cX6_build 128 = .ok (.iadd, 1) := by decide +kernel
theorem dX6_build_129 : decode cX6_build 129 = .ok (.dup2, 1) := by decide +kernel
theorem dX6_build_130 : decode cX6_build 130 = .ok (.iaload, 1) := by decide +kernel
theorem dX6_build_131 : decode cX6_build 131 = .ok (.iconst 1, 1) := by decide +kernel
theorem dX6_build_132 : decode cX6_build 132 = .ok (.isub, 1) := by decide +kernel
theorem dX6_build_133 : decode cX6_build 133 = .ok (.iastore, 1) := by decide +kernel
theorem dX6_build_134 : decode cX6_build 134 = .ok (.aload_n 0, 1) := by decide +kernel
theorem dX6_build_135 : decode cX6_build 135 = .ok (.getfield 44, 3) := by decide +kernel
theorem dX6_build_138 : decode cX6_build 138 = .ok (.iload_n 3, 1) := by decide +kernel
theorem dX6_build_139 : decode cX6_build 139 = .ok (.iload 4, 2) := by decide +kernel
theorem dX6_build_141 : decode cX6_build 141 = .ok (.iastore, 1) := by decide +kernel
theorem dX6_build_142 : decode cX6_build 142 = .ok (.aload_n 0, 1) := by decide +kernel
theorem dX6_build_143 : decode cX6_build 143 = .ok (.getfield 37, 3) := by decide +kernel
theorem dX6_build_146 : decode cX6_build 146 = .ok (.iload_n 3, 1) := by decide +kernel
theorem dX6_build_147 : decode cX6_build 147 = .ok (.bipush 99, 2) := by decide +kernel
theorem dX6_build_149 : decode cX6_build 149 = .ok (.iastore, 1) := by decide +kernel
theorem dX6_build_150 : decode cX6_build 150 = .ok (.aload_n 0, 1) := by decide +kernel
theorem dX6_build_151 : decode cX6_build 151 = .ok (.getfield 40, 3) := by decide +kernel
theorem dX6_build_154 : decode cX6_build 154 = .ok (.iload_n 3, 1) := by decide +kernel
theorem dX6_build_155 : decode cX6_build 155 = .ok (.iconst 1, 1) := by decide +kernel
theorem dX6_build_156 : decode cX6_build 156 = .ok (.bastore, 1) := by decide +kernel
theorem dX6_build_157 : decode cX6_build 157 = .ok (.lload_n 1, 1) := by decide +kernel
theorem dX6_build_158 : decode cX6_build 158 = .ok (.aload_n 0, 1) := by decide +kernel
theorem dX6_build_159 : decode cX6_build 159 = .ok (.iload_n 3, 1) := by decide +kernel
theorem dX6_build_160 : decode cX6_build 160 = .ok (.iload 4, 2) := by decide +kernel
theorem dX6_build_162 : decode cX6_build 162 = .ok (.invokevirtual 156, 3) := by decide +kernel
theorem dX6_build_165 : decode cX6_build 165 = .ok (.ladd, 1) := by decide +kernel
theorem dX6_build_166 : decode cX6_build 166 = .ok (.lstore_n 1, 1) := by decide +kernel
theorem dX6_build_167 : decode cX6_build 167 = .ok (.iinc 3 1, 3) := by decide +kernel
theorem dX6_build_170 : decode cX6_build 170 = .ok (.goto (-133), 3) := by decide +kernel
theorem dX6_build_173 : decode cX6_build 173 = .ok (.lload_n 1, 1) := by decide +kernel
theorem dX6_build_174 : decode cX6_build 174 = .ok (.lreturn, 1) := by decide +kernel
theorem dX6_beside_0 : decode cX6_beside 0 = .ok (.iconst 0, 1) := by decide +kernel
theorem dX6_beside_1 : decode cX6_beside 1 = .ok (.istore_n 3, 1) := by decide +kernel
theorem dX6_beside_2 : decode cX6_beside 2 = .ok (.iload_n 3, 1) := by decide +kernel
theorem dX6_beside_3 : decode cX6_beside 3 = .ok (.aload_n 0, 1) := by decide +kernel
theorem dX6_beside_4 : decode cX6_beside 4 = .ok (.getfield 80, 3) := by decide +kernel
theorem dX6_beside_7 : decode cX6_beside 7 = .ok (.if_icmp .ge 99, 3) := by decide +kernel
theorem dX6_beside_10 : decode cX6_beside 10 = .ok (.aload_n 0, 1) := by decide +kernel
theorem dX6_beside_11 : decode cX6_beside 11 = .ok (.getfield 31, 3) := by decide +kernel
theorem dX6_beside_14 : decode cX6_beside 14 = .ok (.iload_n 3, 1) := by decide +kernel
theorem dX6_beside_15 : decode cX6_beside 15 = .ok (.iaload, 1) := by decide +kernel
theorem dX6_beside_16 : decode cX6_beside 16 = .ok (.aload_n 0, 1) := by decide +kernel
theorem dX6_beside_17 : decode cX6_beside 17 = .ok (.getfield 31, 3) := by decide +kernel
theorem dX6_beside_20 : decode cX6_beside 20 = .ok (.iload_n 1, 1) := by decide +kernel
theorem dX6_beside_21 : decode cX6_beside 21 = .ok (.iaload, 1) := by decide +kernel
theorem dX6_beside_22 : decode cX6_beside 22 = .ok (.if_icmp .ne 78, 3) := by decide +kernel
theorem dX6_beside_25 : decode cX6_beside 25 = .ok (.aload_n 0, 1) := by decide +kernel
theorem dX6_beside_26 : decode cX6_beside 26 = .ok (.getfield 40, 3) := by decide +kernel
theorem dX6_beside_29 : decode cX6_beside 29 = .ok (.iload_n 3, 1) := by decide +kernel
theorem dX6_beside_30 : decode cX6_beside 30 = .ok (.baload, 1) := by decide +kernel
theorem dX6_beside_31 : decode cX6_beside 31 = .ok (.ifCond .ne 6, 3) := by decide +kernel
theorem dX6_beside_34 : decode cX6_beside 34 = .ok (.goto 66, 3) := by decide +kernel
theorem dX6_beside_37 : decode cX6_beside 37 = .ok (.iload_n 2, 1) := by decide +kernel
theorem dX6_beside_38 : decode cX6_beside 38 = .ok (.ifCond .eq 33, 3) := by decide +kernel
theorem dX6_beside_41 : decode cX6_beside 41 = .ok (.aload_n 0, 1) := by decide +kernel
theorem dX6_beside_42 : decode cX6_beside 42 = .ok (.getfield 34, 3) := by decide +kernel
theorem dX6_beside_45 : decode cX6_beside 45 = .ok (.iload_n 3, 1) := by decide +kernel
theorem dX6_beside_46 : decode cX6_beside 46 = .ok (.iaload, 1) := by decide +kernel
theorem dX6_beside_47 : decode cX6_beside 47 = .ok (.aload_n 0, 1) := by decide +kernel
theorem dX6_beside_48 : decode cX6_beside 48 = .ok (.getfield 34, 3) := by decide +kernel
theorem dX6_beside_51 : decode cX6_beside 51 = .ok (.iload_n 1, 1) := by decide +kernel
theorem dX6_beside_52 : decode cX6_beside 52 = .ok (.iaload, 1) := by decide +kernel
theorem dX6_beside_53 : decode cX6_beside 53 = .ok (.aload_n 0, 1) := by decide +kernel
theorem dX6_beside_54 : decode cX6_beside 54 = .ok (.getfield 7, 3) := by decide +kernel
theorem dX6_beside_57 : decode cX6_beside 57 = .ok (.aload_n 0, 1) := by decide +kernel
theorem dX6_beside_58 : decode cX6_beside 58 = .ok (.getfield 28, 3) := by decide +kernel
theorem dX6_beside_61 : decode cX6_beside 61 = .ok (.iload_n 1, 1) := by decide +kernel
theorem dX6_beside_62 : decode cX6_beside 62 = .ok (.iaload, 1) := by decide +kernel
theorem dX6_beside_63 : decode cX6_beside 63 = .ok (.iaload, 1) := by decide +kernel
theorem dX6_beside_64 : decode cX6_beside 64 = .ok (.iadd, 1) := by decide +kernel
theorem dX6_beside_65 : decode cX6_beside 65 = .ok (.if_icmp .ne 35, 3) := by decide +kernel
theorem dX6_beside_68 : decode cX6_beside 68 = .ok (.goto 30, 3) := by decide +kernel
theorem dX6_beside_71 : decode cX6_beside 71 = .ok (.aload_n 0, 1) := by decide +kernel
theorem dX6_beside_72 : decode cX6_beside 72 = .ok (.getfield 34, 3) := by decide +kernel
theorem dX6_beside_75 : decode cX6_beside 75 = .ok (.iload_n 3, 1) := by decide +kernel
theorem dX6_beside_76 : decode cX6_beside 76 = .ok (.iaload, 1) := by decide +kernel
theorem dX6_beside_77 : decode cX6_beside 77 = .ok (.aload_n 0, 1) := by decide +kernel
theorem dX6_beside_78 : decode cX6_beside 78 = .ok (.getfield 7, 3) := by decide +kernel
theorem dX6_beside_81 : decode cX6_beside 81 = .ok (.aload_n 0, 1) := by decide +kernel
theorem dX6_beside_82 : decode cX6_beside 82 = .ok (.getfield 28, 3) := by decide +kernel
theorem dX6_beside_85 : decode cX6_beside 85 = .ok (.iload_n 3, 1) := by decide +kernel
theorem dX6_beside_86 : decode cX6_beside 86 = .ok (.iaload, 1) := by decide +kernel
theorem dX6_beside_87 : decode cX6_beside 87 = .ok (.iaload, 1) := by decide +kernel
theorem dX6_beside_88 : decode cX6_beside 88 = .ok (.iadd, 1) := by decide +kernel
theorem dX6_beside_89 : decode cX6_beside 89 = .ok (.aload_n 0, 1) := by decide +kernel
theorem dX6_beside_90 : decode cX6_beside 90 = .ok (.getfield 34, 3) := by decide +kernel
theorem dX6_beside_93 : decode cX6_beside 93 = .ok (.iload_n 1, 1) := by decide +kernel
theorem dX6_beside_94 : decode cX6_beside 94 = .ok (.iaload, 1) := by decide +kernel
theorem dX6_beside_95 : decode cX6_beside 95 = .ok (.if_icmp .ne 5, 3) := by decide +kernel
theorem dX6_beside_98 : decode cX6_beside 98 = .ok (.iconst 1, 1) := by decide +kernel
theorem dX6_beside_99 : decode cX6_beside 99 = .ok (.ireturn, 1) := by decide +kernel
theorem dX6_beside_100 : decode cX6_beside 100 = .ok (.iinc 3 1, 3) := by decide +kernel
theorem dX6_beside_103 : decode cX6_beside 103 = .ok (.goto (-101), 3) := by decide +kernel
theorem dX6_beside_106 : decode cX6_beside 106 = .ok (.iconst 0, 1) := by decide +kernel
theorem dX6_beside_107 : decode cX6_beside 107 = .ok (.ireturn, 1) := by decide +kernel
theorem dX6_lies_0 : decode cX6_lies 0 = .ok (.aload_n 0, 1) := by decide +kernel
theorem dX6_lies_1 : decode cX6_lies 1 = .ok (.getfield 34, 3) := by decide +kernel
theorem dX6_lies_4 : decode cX6_lies 4 = .ok (.iload_n 1, 1) := by decide +kernel
theorem dX6_lies_5 : decode cX6_lies 5 = .ok (.iaload, 1) := by decide +kernel
theorem dX6_lies_6 : decode cX6_lies 6 = .ok (.istore_n 2, 1) := by decide +kernel
theorem dX6_lies_7 : decode cX6_lies 7 = .ok (.iload_n 2, 1) := by decide +kernel
theorem dX6_lies_8 : decode cX6_lies 8 = .ok (.aload_n 0, 1) := by decide +kernel
theorem dX6_lies_9 : decode cX6_lies 9 = .ok (.getfield 7, 3) := by decide +kernel
theorem dX6_lies_12 : decode cX6_lies 12 = .ok (.aload_n 0, 1) := by decide +kernel
theorem dX6_lies_13 : decode cX6_lies 13 = .ok (.getfield 28, 3) := by decide +kernel
theorem dX6_lies_16 : decode cX6_lies 16 = .ok (.iload_n 1, 1) := by decide +kernel
theorem dX6_lies_17 : decode cX6_lies 17 = .ok (.iaload, 1) := by decide +kernel
theorem dX6_lies_18 : decode cX6_lies 18 = .ok (.iaload, 1) := by decide +kernel
theorem dX6_lies_19 : decode cX6_lies 19 = .ok (.iadd, 1) := by decide +kernel
theorem dX6_lies_20 : decode cX6_lies 20 = .ok (.istore_n 3, 1) := by decide +kernel
theorem dX6_lies_21 : decode cX6_lies 21 = .ok (.iconst 0, 1) := by decide +kernel
theorem dX6_lies_22 : decode cX6_lies 22 = .ok (.istore 4, 2) := by decide +kernel
theorem dX6_lies_24 : decode cX6_lies 24 = .ok (.iconst 0, 1) := by decide +kernel
theorem dX6_lies_25 : decode cX6_lies 25 = .ok (.istore 5, 2) := by decide +kernel
theorem dX6_lies_27 : decode cX6_lies 27 = .ok (.iload 5, 2) := by decide +kernel
theorem dX6_lies_29 : decode cX6_lies 29 = .ok (.aload_n 0, 1) := by decide +kernel
theorem dX6_lies_30 : decode cX6_lies 30 = .ok (.getfield 80, 3) := by decide +kernel
theorem dX6_lies_33 : decode cX6_lies 33 = .ok (.if_icmp .ge 121, 3) := by decide +kernel
theorem dX6_lies_36 : decode cX6_lies 36 = .ok (.aload_n 0, 1) := by decide +kernel
theorem dX6_lies_37 : decode cX6_lies 37 = .ok (.getfield 31, 3) := by decide +kernel
theorem dX6_lies_40 : decode cX6_lies 40 = .ok (.iload 5, 2) := by decide +kernel
theorem dX6_lies_42 : decode cX6_lies 42 = .ok (.iaload, 1) := by decide +kernel
theorem dX6_lies_43 : decode cX6_lies 43 = .ok (.aload_n 0, 1) := by decide +kernel
theorem dX6_lies_44 : decode cX6_lies 44 = .ok (.getfield 31, 3) := by decide +kernel
theorem dX6_lies_47 : decode cX6_lies 47 = .ok (.iload_n 1, 1) := by decide +kernel
theorem dX6_lies_48 : decode cX6_lies 48 = .ok (.iaload, 1) := by decide +kernel
theorem dX6_lies_49 : decode cX6_lies 49 = .ok (.iconst 1, 1) := by decide +kernel
theorem dX6_lies_50 : decode cX6_lies 50 = .ok (.isub, 1) := by decide +kernel
theorem dX6_lies_51 : decode cX6_lies 51 = .ok (.if_icmp .ne 97, 3) := by decide +kernel
theorem dX6_lies_54 : decode cX6_lies 54 = .ok (.aload_n 0, 1) := by decide +kernel
theorem dX6_lies_55 : decode cX6_lies 55 = .ok (.getfield 40, 3) := by decide +kernel
theorem dX6_lies_58 : decode cX6_lies 58 = .ok (.iload 5, 2) := by decide +kernel
theorem dX6_lies_60 : decode cX6_lies 60 = .ok (.baload, 1) := by decide +kernel
theorem dX6_lies_61 : decode cX6_lies 61 = .ok (.ifCond .ne 6, 3) := by decide +kernel
theorem dX6_lies_64 : decode cX6_lies 64 = .ok (.goto 84, 3) := by decide +kernel
theorem dX6_lies_67 : decode cX6_lies 67 = .ok (.aload_n 0, 1) := by decide +kernel
theorem dX6_lies_68 : decode cX6_lies 68 = .ok (.getfield 34, 3) := by decide +kernel
theorem dX6_lies_71 : decode cX6_lies 71 = .ok (.iload 5, 2) := by decide +kernel
theorem dX6_lies_73 : decode cX6_lies 73 = .ok (.iaload, 1) := by decide +kernel
theorem dX6_lies_74 : decode cX6_lies 74 = .ok (.iload_n 2, 1) := by decide +kernel
theorem dX6_lies_75 : decode cX6_lies 75 = .ok (.if_icmp .le 13, 3) := by decide +kernel
theorem dX6_lies_78 : decode cX6_lies 78 = .ok (.aload_n 0, 1) := by decide +kernel
theorem dX6_lies_79 : decode cX6_lies 79 = .ok (.getfield 34, 3) := by decide +kernel
theorem dX6_lies_82 : decode cX6_lies 82 = .ok (.iload 5, 2) := by decide +kernel
theorem dX6_lies_84 : decode cX6_lies 84 = .ok (.iaload, 1) := by decide +kernel
theorem dX6_lies_85 : decode cX6_lies 85 = .ok (.goto 4, 3) := by decide +kernel
theorem dX6_lies_88 : decode cX6_lies 88 = .ok (.iload_n 2, 1) := by decide +kernel
theorem dX6_lies_89 : decode cX6_lies 89 = .ok (.istore 6, 2) := by decide +kernel
theorem dX6_lies_91 : decode cX6_lies 91 = .ok (.aload_n 0, 1) := by decide +kernel
theorem dX6_lies_92 : decode cX6_lies 92 = .ok (.getfield 34, 3) := by decide +kernel
theorem dX6_lies_95 : decode cX6_lies 95 = .ok (.iload 5, 2) := by decide +kernel
theorem dX6_lies_97 : decode cX6_lies 97 = .ok (.iaload, 1) := by decide +kernel
theorem dX6_lies_98 : decode cX6_lies 98 = .ok (.aload_n 0, 1) := by decide +kernel
theorem dX6_lies_99 : decode cX6_lies 99 = .ok (.getfield 7, 3) := by decide +kernel
theorem dX6_lies_102 : decode cX6_lies 102 = .ok (.aload_n 0, 1) := by decide +kernel
theorem dX6_lies_103 : decode cX6_lies 103 = .ok (.getfield 28, 3) := by decide +kernel
theorem dX6_lies_106 : decode cX6_lies 106 = .ok (.iload 5, 2) := by decide +kernel
theorem dX6_lies_108 : decode cX6_lies 108 = .ok (.iaload, 1) := by decide +kernel
theorem dX6_lies_109 : decode cX6_lies 109 = .ok (.iaload, 1) := by decide +kernel
theorem dX6_lies_110 : decode cX6_lies 110 = .ok (.iadd, 1) := by decide +kernel
theorem dX6_lies_111 : decode cX6_lies 111 = .ok (.istore 7, 2) := by decide +kernel
theorem dX6_lies_113 : decode cX6_lies 113 = .ok (.iload 7, 2) := by decide +kernel
theorem dX6_lies_115 : decode cX6_lies 115 = .ok (.iload_n 3, 1) := by decide +kernel
theorem dX6_lies_116 : decode cX6_lies 116 = .ok (.if_icmp .ge 8, 3) := by decide +kernel
theorem dX6_lies_119 : decode cX6_lies 119 = .ok (.iload 7, 2) := by decide +kernel
theorem dX6_lies_121 : decode cX6_lies 121 = .ok (.goto 4, 3) := by decide +kernel
theorem dX6_lies_124 : decode cX6_lies 124 = .ok (.iload_n 3, 1) := by decide +kernel
theorem dX6_lies_125 : decode cX6_lies 125 = .ok (.istore 8, 2) := by decide +kernel
theorem dX6_lies_127 : decode cX6_lies 127 = .ok (.iload 4, 2) := by decide +kernel
theorem dX6_lies_129 : decode cX6_lies 129 = .ok (.iload 8, 2) := by decide +kernel
theorem dX6_lies_131 : decode cX6_lies 131 = .ok (.iload 6, 2) := by decide +kernel
theorem dX6_lies_133 : decode cX6_lies 133 = .ok (.if_icmp .le 11, 3) := by decide +kernel
theorem dX6_lies_136 : decode cX6_lies 136 = .ok (.iload 8, 2) := by decide +kernel
theorem dX6_lies_138 : decode cX6_lies 138 = .ok (.iload 6, 2) := by decide +kernel
theorem dX6_lies_140 : decode cX6_lies 140 = .ok (.isub, 1) := by decide +kernel
theorem dX6_lies_141 : decode cX6_lies 141 = .ok (.goto 4, 3) := by decide +kernel
theorem dX6_lies_144 : decode cX6_lies 144 = .ok (.iconst 0, 1) := by decide +kernel
theorem dX6_lies_145 : decode cX6_lies 145 = .ok (.iadd, 1) := by decide +kernel
theorem dX6_lies_146 : decode cX6_lies 146 = .ok (.istore 4, 2) := by decide +kernel
theorem dX6_lies_148 : decode cX6_lies 148 = .ok (.iinc 5 1, 3) := by decide +kernel
theorem dX6_lies_151 : decode cX6_lies 151 = .ok (.goto (-124), 3) := by decide +kernel
theorem dX6_lies_154 : decode cX6_lies 154 = .ok (.iload 4, 2) := by decide +kernel
theorem dX6_lies_156 : decode cX6_lies 156 = .ok (.ireturn, 1) := by decide +kernel
set_option maxRecDepth 20000 in
theorem ggX6_frost_X6_beside : GoodIn wsX6_frost wsX6_beside := goodIn_r _ [16, 4, 9, 6, 17, 10, 11, 22, 23, 24, 25, 26, 27, 28, 29, 30, 31, 32, 33, 34, 35, 36, 37, 38, 39, 40, 41, 42, 43, 44, 45, 46, 47, 48, 49, 50, 51, 52, 53, 54, 55, 56, 57, 58] (by decide +kernel) (by decide +kernel)
set_option maxRecDepth 20000 in
theorem gX6_frost_X6_beside : GoodIn wsX6_frost (wsV RX6 172 RX6 yX6_beside wsX6_beside) := goodIn_app (goodIn_of _ (by decide +kernel)) ggX6_frost_X6_beside
set_option maxRecDepth 20000 in
theorem ggX6_frost_X6_lies : GoodIn wsX6_frost wsX6_lies := goodIn_r _ [21, 17, 10, 11, 4, 9, 6, 22, 23, 24, 25, 26, 27, 28, 29, 30, 31, 32, 33, 34, 35, 36, 37, 38, 39, 40, 41, 42, 43, 44, 45, 46, 47, 48, 49, 50, 51, 52, 53, 54, 55, 56, 57, 58] (by decide +kernel) (by decide +kernel)
set_option maxRecDepth 20000 in
theorem gX6_frost_X6_lies : GoodIn wsX6_frost (wsV RX6 176 RX6 yX6_lies wsX6_lies) := goodIn_app (goodIn_of _ (by decide +kernel)) ggX6_frost_X6_lies
theorem dX6_frost_0 : decode cX6_frost 0 = .ok (.aload_n 0, 1) := by decide +kernel
theorem dX6_frost_1 : decode cX6_frost 1 = .ok (.iconst 0, 1) := by decide +kernel
theorem dX6_frost_2 : decode cX6_frost 2 = .ok (.putfield 72, 3) := by decide +kernel
theorem dX6_frost_5 : decode cX6_frost 5 = .ok (.aload_n 0, 1) := by decide +kernel
theorem dX6_frost_6 : decode cX6_frost 6 = .ok (.getfield 83, 3) := by decide +kernel
theorem dX6_frost_9 : decode cX6_frost 9 = .ok (.ifCond .eq 13, 3) := by decide +kernel
theorem dX6_frost_12 : decode cX6_frost 12 = .ok (.iload_n 1, 1) := by decide +kernel
theorem dX6_frost_13 : decode cX6_frost 13 = .ok (.ifCond .lt 9, 3) := by decide +kernel
theorem dX6_frost_16 : decode cX6_frost 16 = .ok (.iload_n 1, 1) := by decide +kernel
theorem dX6_frost_17 : decode cX6_frost 17 = .ok (.bipush 50, 2) := by decide +kernel
theorem dX6_frost_19 : decode cX6_frost 19 = .ok (.if_icmp .le 5, 3) := by decide +kernel
theorem dX6_frost_22 : decode cX6_frost 22 = .ok (.iconst (-1), 1) := by decide +kernel
theorem dX6_frost_23 : decode cX6_frost 23 = .ok (.ireturn, 1) := by decide +kernel
theorem dX6_frost_24 : decode cX6_frost 24 = .ok (.aload_n 0, 1) := by decide +kernel
theorem dX6_frost_25 : decode cX6_frost 25 = .ok (.dup, 1) := by decide +kernel
theorem dX6_frost_26 : decode cX6_frost 26 = .ok (.getfield 169, 3) := by decide +kernel
theorem dX6_frost_29 : decode cX6_frost 29 = .ok (.iconst 1, 1) := by decide +kernel
theorem dX6_frost_30 : decode cX6_frost 30 = .ok (.iadd, 1) := by decide +kernel
theorem dX6_frost_31 : decode cX6_frost 31 = .ok (.putfield 169, 3) := by decide +kernel
theorem dX6_frost_34 : decode cX6_frost 34 = .ok (.iconst 0, 1) := by decide +kernel
theorem dX6_frost_35 : decode cX6_frost 35 = .ok (.istore_n 2, 1) := by decide +kernel
theorem dX6_frost_36 : decode cX6_frost 36 = .ok (.iload_n 2, 1) := by decide +kernel
theorem dX6_frost_37 : decode cX6_frost 37 = .ok (.aload_n 0, 1) := by decide +kernel
theorem dX6_frost_38 : decode cX6_frost 38 = .ok (.getfield 80, 3) := by decide +kernel
theorem dX6_frost_41 : decode cX6_frost 41 = .ok (.if_icmp .ge 61, 3) := by decide +kernel
theorem dX6_frost_44 : decode cX6_frost 44 = .ok (.aload_n 0, 1) := by decide +kernel
theorem dX6_frost_45 : decode cX6_frost 45 = .ok (.getfield 69, 3) := by decide +kernel
theorem dX6_frost_48 : decode cX6_frost 48 = .ok (.iload_n 2, 1) := by decide +kernel
theorem dX6_frost_49 : decode cX6_frost 49 = .ok (.aload_n 0, 1) := by decide +kernel
theorem dX6_frost_50 : decode cX6_frost 50 = .ok (.getfield 40, 3) := by decide +kernel
theorem dX6_frost_53 : decode cX6_frost 53 = .ok (.iload_n 2, 1) := by decide +kernel
theorem dX6_frost_54 : decode cX6_frost 54 = .ok (.baload, 1) := by decide +kernel
theorem dX6_frost_55 : decode cX6_frost 55 = .ok (.ifCond .eq 39, 3) := by decide +kernel
theorem dX6_frost_58 : decode cX6_frost 58 = .ok (.iload_n 1, 1) := by decide +kernel
theorem dX6_frost_59 : decode cX6_frost 59 = .ok (.iconst 1, 1) := by decide +kernel
theorem dX6_frost_60 : decode cX6_frost 60 = .ok (.aload_n 0, 1) := by decide +kernel
theorem dX6_frost_61 : decode cX6_frost 61 = .ok (.iload_n 2, 1) := by decide +kernel
theorem dX6_frost_62 : decode cX6_frost 62 = .ok (.iconst 0, 1) := by decide +kernel
theorem dX6_frost_63 : decode cX6_frost 63 = .ok (.invokevirtual 172, 3) := by decide +kernel
theorem dX6_frost_66 : decode cX6_frost 66 = .ok (.ifCond .eq 7, 3) := by decide +kernel
theorem dX6_frost_69 : decode cX6_frost 69 = .ok (.iconst 0, 1) := by decide +kernel
theorem dX6_frost_70 : decode cX6_frost 70 = .ok (.goto 4, 3) := by decide +kernel
theorem dX6_frost_73 : decode cX6_frost 73 = .ok (.iconst 1, 1) := by decide +kernel
theorem dX6_frost_74 : decode cX6_frost 74 = .ok (.iadd, 1) := by decide +kernel
theorem dX6_frost_75 : decode cX6_frost 75 = .ok (.aload_n 0, 1) := by decide +kernel
theorem dX6_frost_76 : decode cX6_frost 76 = .ok (.iload_n 2, 1) := by decide +kernel
theorem dX6_frost_77 : decode cX6_frost 77 = .ok (.iconst 1, 1) := by decide +kernel
theorem dX6_frost_78 : decode cX6_frost 78 = .ok (.invokevirtual 172, 3) := by decide +kernel
theorem dX6_frost_81 : decode cX6_frost 81 = .ok (.ifCond .eq 7, 3) := by decide +kernel
theorem dX6_frost_84 : decode cX6_frost 84 = .ok (.iconst 0, 1) := by decide +kernel
theorem dX6_frost_85 : decode cX6_frost 85 = .ok (.goto 4, 3) := by decide +kernel
theorem dX6_frost_88 : decode cX6_frost 88 = .ok (.iconst 1, 1) := by decide +kernel
theorem dX6_frost_89 : decode cX6_frost 89 = .ok (.iadd, 1) := by decide +kernel
theorem dX6_frost_90 : decode cX6_frost 90 = .ok (.imul, 1) := by decide +kernel
theorem dX6_frost_91 : decode cX6_frost 91 = .ok (.goto 4, 3) := by decide +kernel
theorem dX6_frost_94 : decode cX6_frost 94 = .ok (.iconst 0, 1) := by decide +kernel
theorem dX6_frost_95 : decode cX6_frost 95 = .ok (.iastore, 1) := by decide +kernel
theorem dX6_frost_96 : decode cX6_frost 96 = .ok (.iinc 2 1, 3) := by decide +kernel
theorem dX6_frost_99 : decode cX6_frost 99 = .ok (.goto (-63), 3) := by decide +kernel
theorem dX6_frost_102 : decode cX6_frost 102 = .ok (.iconst 0, 1) := by decide +kernel
theorem dX6_frost_103 : decode cX6_frost 103 = .ok (.istore_n 2, 1) := by decide +kernel
theorem dX6_frost_104 : decode cX6_frost 104 = .ok (.iload_n 2, 1) := by decide +kernel
theorem dX6_frost_105 : decode cX6_frost 105 = .ok (.aload_n 0, 1) := by decide +kernel
theorem dX6_frost_106 : decode cX6_frost 106 = .ok (.getfield 80, 3) := by decide +kernel
theorem dX6_frost_109 : decode cX6_frost 109 = .ok (.if_icmp .ge 47, 3) := by decide +kernel
theorem dX6_frost_112 : decode cX6_frost 112 = .ok (.aload_n 0, 1) := by decide +kernel
theorem dX6_frost_113 : decode cX6_frost 113 = .ok (.getfield 37, 3) := by decide +kernel
theorem dX6_frost_116 : decode cX6_frost 116 = .ok (.iload_n 2, 1) := by decide +kernel
theorem dX6_frost_117 : decode cX6_frost 117 = .ok (.aload_n 0, 1) := by decide +kernel
theorem dX6_frost_118 : decode cX6_frost 118 = .ok (.getfield 37, 3) := by decide +kernel
theorem dX6_frost_121 : decode cX6_frost 121 = .ok (.iload_n 2, 1) := by decide +kernel
theorem dX6_frost_122 : decode cX6_frost 122 = .ok (.iaload, 1) := by decide +kernel
theorem dX6_frost_123 : decode cX6_frost 123 = .ok (.aload_n 0, 1) := by decide +kernel
theorem dX6_frost_124 : decode cX6_frost 124 = .ok (.getfield 69, 3) := by decide +kernel
theorem dX6_frost_127 : decode cX6_frost 127 = .ok (.iload_n 2, 1) := by decide +kernel
theorem dX6_frost_128 : decode cX6_frost 128 = .ok (.iaload, 1) := by decide +kernel
theorem dX6_frost_129 : decode cX6_frost 129 = .ok (.if_icmp .ge 7, 3) := by decide +kernel
theorem dX6_frost_132 : decode cX6_frost 132 = .ok (.iconst 0, 1) := by decide +kernel
theorem dX6_frost_133 : decode cX6_frost 133 = .ok (.goto 16, 3) := by decide +kernel
theorem dX6_frost_136 : decode cX6_frost 136 = .ok (.aload_n 0, 1) := by decide +kernel
theorem dX6_frost_137 : decode cX6_frost 137 = .ok (.getfield 37, 3) := by decide +kernel
theorem dX6_frost_140 : decode cX6_frost 140 = .ok (.iload_n 2, 1) := by decide +kernel
theorem dX6_frost_141 : decode cX6_frost 141 = .ok (.iaload, 1) := by decide +kernel
theorem dX6_frost_142 : decode cX6_frost 142 = .ok (.aload_n 0, 1) := by decide +kernel
theorem dX6_frost_143 : decode cX6_frost 143 = .ok (.getfield 69, 3) := by decide +kernel
theorem dX6_frost_146 : decode cX6_frost 146 = .ok (.iload_n 2, 1) := by decide +kernel
theorem dX6_frost_147 : decode cX6_frost 147 = .ok (.iaload, 1) := by decide +kernel
theorem dX6_frost_148 : decode cX6_frost 148 = .ok (.isub, 1) := by decide +kernel
theorem dX6_frost_149 : decode cX6_frost 149 = .ok (.iastore, 1) := by decide +kernel
theorem dX6_frost_150 : decode cX6_frost 150 = .ok (.iinc 2 1, 3) := by decide +kernel
theorem dX6_frost_153 : decode cX6_frost 153 = .ok (.goto (-49), 3) := by decide +kernel
theorem dX6_frost_156 : decode cX6_frost 156 = .ok (.iconst 0, 1) := by decide +kernel
theorem dX6_frost_157 : decode cX6_frost 157 = .ok (.istore_n 2, 1) := by decide +kernel
theorem dX6_frost_158 : decode cX6_frost 158 = .ok (.iconst 1, 1) := by decide +kernel
theorem dX6_frost_159 : decode cX6_frost 159 = .ok (.istore_n 3, 1) := by decide +kernel
theorem dX6_frost_160 : decode cX6_frost 160 = .ok (.iload_n 3, 1) := by decide +kernel
theorem dX6_frost_161 : decode cX6_frost 161 = .ok (.ifCond .eq 135, 3) := by decide +kernel
theorem dX6_frost_164 : decode cX6_frost 164 = .ok (.iconst 0, 1) := by decide +kernel
theorem dX6_frost_165 : decode cX6_frost 165 = .ok (.istore_n 3, 1) := by decide +kernel
theorem dX6_frost_166 : decode cX6_frost 166 = .ok (.iconst 0, 1) := by decide +kernel
theorem dX6_frost_167 : decode cX6_frost 167 = .ok (.istore 4, 2) := by decide +kernel
theorem dX6_frost_169 : decode cX6_frost 169 = .ok (.iload 4, 2) := by decide +kernel
theorem dX6_frost_171 : decode cX6_frost 171 = .ok (.aload_n 0, 1) := by decide +kernel
theorem dX6_frost_172 : decode cX6_frost 172 = .ok (.getfield 80, 3) := by decide +kernel
theorem dX6_frost_175 : decode cX6_frost 175 = .ok (.if_icmp .ge 74, 3) := by decide +kernel
theorem dX6_frost_178 : decode cX6_frost 178 = .ok (.aload_n 0, 1) := by decide +kernel
theorem dX6_frost_179 : decode cX6_frost 179 = .ok (.getfield 66, 3) := by decide +kernel
theorem dX6_frost_182 : decode cX6_frost 182 = .ok (.iload 4, 2) := by decide +kernel
theorem dX6_frost_184 : decode cX6_frost 184 = .ok (.aload_n 0, 1) := by decide +kernel
theorem dX6_frost_185 : decode cX6_frost 185 = .ok (.getfield 40, 3) := by decide +kernel
theorem dX6_frost_188 : decode cX6_frost 188 = .ok (.iload 4, 2) := by decide +kernel
theorem dX6_frost_190 : decode cX6_frost 190 = .ok (.baload, 1) := by decide +kernel
theorem dX6_frost_191 : decode cX6_frost 191 = .ok (.ifCond .eq 50, 3) := by decide +kernel
theorem dX6_frost_194 : decode cX6_frost 194 = .ok (.aload_n 0, 1) := by decide +kernel
theorem dX6_frost_195 : decode cX6_frost 195 = .ok (.getfield 37, 3) := by decide +kernel
theorem dX6_frost_198 : decode cX6_frost 198 = .ok (.iload 4, 2) := by decide +kernel
theorem dX6_frost_200 : decode cX6_frost 200 = .ok (.iaload, 1) := by decide +kernel
theorem dX6_frost_201 : decode cX6_frost 201 = .ok (.ifCond .eq 36, 3) := by decide +kernel
theorem dX6_frost_204 : decode cX6_frost 204 = .ok (.aload_n 0, 1) := by decide +kernel
theorem dX6_frost_205 : decode cX6_frost 205 = .ok (.getfield 31, 3) := by decide +kernel
theorem dX6_frost_208 : decode cX6_frost 208 = .ok (.iload 4, 2) := by decide +kernel
theorem dX6_frost_210 : decode cX6_frost 210 = .ok (.iaload, 1) := by decide +kernel
theorem dX6_frost_211 : decode cX6_frost 211 = .ok (.ifCond .le 30, 3) := by decide +kernel
theorem dX6_frost_214 : decode cX6_frost 214 = .ok (.iconst 2, 1) := by decide +kernel
theorem dX6_frost_215 : decode cX6_frost 215 = .ok (.aload_n 0, 1) := by decide +kernel
theorem dX6_frost_216 : decode cX6_frost 216 = .ok (.iload 4, 2) := by decide +kernel
theorem dX6_frost_218 : decode cX6_frost 218 = .ok (.invokevirtual 176, 3) := by decide +kernel
theorem dX6_frost_221 : decode cX6_frost 221 = .ok (.imul, 1) := by decide +kernel
theorem dX6_frost_222 : decode cX6_frost 222 = .ok (.aload_n 0, 1) := by decide +kernel
theorem dX6_frost_223 : decode cX6_frost 223 = .ok (.getfield 7, 3) := by decide +kernel
theorem dX6_frost_226 : decode cX6_frost 226 = .ok (.aload_n 0, 1) := by decide +kernel
theorem dX6_frost_227 : decode cX6_frost 227 = .ok (.getfield 28, 3) := by decide +kernel
theorem dX6_frost_230 : decode cX6_frost 230 = .ok (.iload 4, 2) := by decide +kernel
theorem dX6_frost_232 : decode cX6_frost 232 = .ok (.iaload, 1) := by decide +kernel
theorem dX6_frost_233 : decode cX6_frost 233 = .ok (.iaload, 1) := by decide +kernel
theorem dX6_frost_234 : decode cX6_frost 234 = .ok (.if_icmp .ge 7, 3) := by decide +kernel
theorem dX6_frost_237 : decode cX6_frost 237 = .ok (.iconst 1, 1) := by decide +kernel
theorem dX6_frost_238 : decode cX6_frost 238 = .ok (.goto 4, 3) := by decide +kernel
theorem dX6_frost_241 : decode cX6_frost 241 = .ok (.iconst 0, 1) := by decide +kernel
theorem dX6_frost_242 : decode cX6_frost 242 = .ok (.bastore, 1) := by decide +kernel
theorem dX6_frost_243 : decode cX6_frost 243 = .ok (.iinc 4 1, 3) := by decide +kernel
theorem dX6_frost_246 : decode cX6_frost 246 = .ok (.goto (-77), 3) := by decide +kernel
theorem dX6_frost_249 : decode cX6_frost 249 = .ok (.iconst 0, 1) := by decide +kernel
theorem dX6_frost_250 : decode cX6_frost 250 = .ok (.istore 4, 2) := by decide +kernel
theorem dX6_frost_252 : decode cX6_frost 252 = .ok (.iload 4, 2) := by decide +kernel
theorem dX6_frost_254 : decode cX6_frost 254 = .ok (.aload_n 0, 1) := by decide +kernel
theorem dX6_frost_255 : decode cX6_frost 255 = .ok (.getfield 80, 3) := by decide +kernel
theorem dX6_frost_258 : decode cX6_frost 258 = .ok (.if_icmp .ge 35, 3) := by decide +kernel
theorem dX6_frost_261 : decode cX6_frost 261 = .ok (.aload_n 0, 1) := by decide +kernel
theorem dX6_frost_262 : decode cX6_frost 262 = .ok (.getfield 66, 3) := by decide +kernel
theorem dX6_frost_265 : decode cX6_frost 265 = .ok (.iload 4, 2) := by decide +kernel
theorem dX6_frost_267 : decode cX6_frost 267 = .ok (.baload, 1) := by decide +kernel
theorem dX6_frost_268 : decode cX6_frost 268 = .ok (.ifCond .ne 6, 3) := by decide +kernel
theorem dX6_frost_271 : decode cX6_frost 271 = .ok (.goto 16, 3) := by decide +kernel
theorem dX6_frost_274 : decode cX6_frost 274 = .ok (.aload_n 0, 1) := by decide +kernel
theorem dX6_frost_275 : decode cX6_frost 275 = .ok (.getfield 40, 3) := by decide +kernel
theorem dX6_frost_278 : decode cX6_frost 278 = .ok (.iload 4, 2) := by decide +kernel
theorem dX6_frost_280 : decode cX6_frost 280 = .ok (.iconst 0, 1) := by decide +kernel
theorem dX6_frost_281 : decode cX6_frost 281 = .ok (.bastore, 1) := by decide +kernel
theorem dX6_frost_282 : decode cX6_frost 282 = .ok (.iinc 2 1, 3) := by decide +kernel
theorem dX6_frost_285 : decode cX6_frost 285 = .ok (.iconst 1, 1) := by decide +kernel
theorem dX6_frost_286 : decode cX6_frost 286 = .ok (.istore_n 3, 1) := by decide +kernel
theorem dX6_frost_287 : decode cX6_frost 287 = .ok (.iinc 4 1, 3) := by decide +kernel
theorem dX6_frost_290 : decode cX6_frost 290 = .ok (.goto (-38), 3) := by decide +kernel
theorem dX6_frost_293 : decode cX6_frost 293 = .ok (.goto (-133), 3) := by decide +kernel
theorem dX6_frost_296 : decode cX6_frost 296 = .ok (.iload_n 2, 1) := by decide +kernel
theorem dX6_frost_297 : decode cX6_frost 297 = .ok (.ireturn, 1) := by decide +kernel
theorem dX6_mend_0 : decode cX6_mend 0 = .ok (.aload_n 0, 1) := by decide +kernel
theorem dX6_mend_1 : decode cX6_mend 1 = .ok (.iconst 0, 1) := by decide +kernel
theorem dX6_mend_2 : decode cX6_mend 2 = .ok (.putfield 72, 3) := by decide +kernel
theorem dX6_mend_5 : decode cX6_mend 5 = .ok (.aload_n 0, 1) := by decide +kernel
theorem dX6_mend_6 : decode cX6_mend 6 = .ok (.getfield 83, 3) := by decide +kernel
theorem dX6_mend_9 : decode cX6_mend 9 = .ok (.ifCond .ne 5, 3) := by decide +kernel
theorem dX6_mend_12 : decode cX6_mend 12 = .ok (.iconst (-1), 1) := by decide +kernel
theorem dX6_mend_13 : decode cX6_mend 13 = .ok (.ireturn, 1) := by decide +kernel
theorem dX6_mend_14 : decode cX6_mend 14 = .ok (.iconst 0, 1) := by decide +kernel
theorem dX6_mend_15 : decode cX6_mend 15 = .ok (.istore_n 1, 1) := by decide +kernel
theorem dX6_mend_16 : decode cX6_mend 16 = .ok (.iconst 0, 1) := by decide +kernel
theorem dX6_mend_17 : decode cX6_mend 17 = .ok (.istore_n 2, 1) := by decide +kernel
theorem dX6_mend_18 : decode cX6_mend 18 = .ok (.iload_n 2, 1) := by decide +kernel
theorem dX6_mend_19 : decode cX6_mend 19 = .ok (.aload_n 0, 1) := by decide +kernel
theorem dX6_mend_20 : decode cX6_mend 20 = .ok (.getfield 80, 3) := by decide +kernel
theorem dX6_mend_23 : decode cX6_mend 23 = .ok (.if_icmp .ge 39, 3) := by decide +kernel
theorem dX6_mend_26 : decode cX6_mend 26 = .ok (.aload_n 0, 1) := by decide +kernel
theorem dX6_mend_27 : decode cX6_mend 27 = .ok (.getfield 40, 3) := by decide +kernel
theorem dX6_mend_30 : decode cX6_mend 30 = .ok (.iload_n 2, 1) := by decide +kernel
theorem dX6_mend_31 : decode cX6_mend 31 = .ok (.baload, 1) := by decide +kernel
theorem dX6_mend_32 : decode cX6_mend 32 = .ok (.ifCond .eq 6, 3) := by decide +kernel
theorem dX6_mend_35 : decode cX6_mend 35 = .ok (.goto 21, 3) := by decide +kernel
theorem dX6_mend_38 : decode cX6_mend 38 = .ok (.aload_n 0, 1) := by decide +kernel
theorem dX6_mend_39 : decode cX6_mend 39 = .ok (.getfield 40, 3) := by decide +kernel
theorem dX6_mend_42 : decode cX6_mend 42 = .ok (.iload_n 2, 1) := by decide +kernel
theorem dX6_mend_43 : decode cX6_mend 43 = .ok (.iconst 1, 1) := by decide +kernel
theorem dX6_mend_44 : decode cX6_mend 44 = .ok (.bastore, 1) := by decide +kernel
theorem dX6_mend_45 : decode cX6_mend 45 = .ok (.aload_n 0, 1) := by decide +kernel
theorem dX6_mend_46 : decode cX6_mend 46 = .ok (.getfield 37, 3) := by decide +kernel
theorem dX6_mend_49 : decode cX6_mend 49 = .ok (.iload_n 2, 1) := by decide +kernel
theorem dX6_mend_50 : decode cX6_mend 50 = .ok (.bipush 99, 2) := by decide +kernel
theorem dX6_mend_52 : decode cX6_mend 52 = .ok (.iastore, 1) := by decide +kernel
theorem dX6_mend_53 : decode cX6_mend 53 = .ok (.iinc 1 1, 3) := by decide +kernel
theorem dX6_mend_56 : decode cX6_mend 56 = .ok (.iinc 2 1, 3) := by decide +kernel
theorem dX6_mend_59 : decode cX6_mend 59 = .ok (.goto (-41), 3) := by decide +kernel
theorem dX6_mend_62 : decode cX6_mend 62 = .ok (.iload_n 1, 1) := by decide +kernel
theorem dX6_mend_63 : decode cX6_mend 63 = .ok (.ireturn, 1) := by decide +kernel
set_option maxRecDepth 20000 in
theorem ggX6_take_X6_noPlan : GoodIn wsX6_take wsX6_noPlan := goodIn_r _ [13, 14, 6, 15, 16, 17, 18, 19, 20, 21, 22, 23, 24, 25, 26, 27, 28, 29, 30, 31, 32, 33, 34, 35, 36, 37, 38, 39, 40, 41, 42, 43, 44, 45, 46, 47, 48, 49, 50, 51] (by decide +kernel) (by decide +kernel)
set_option maxRecDepth 20000 in
theorem gX6_take_X6_noPlan : GoodIn wsX6_take (wsV RX6 89 RX6 yX6_noPlan wsX6_noPlan) := goodIn_app (goodIn_of _ (by decide +kernel)) ggX6_take_X6_noPlan
theorem dX6_take_0 : decode cX6_take 0 = .ok (.aload_n 0, 1) := by decide +kernel
theorem dX6_take_1 : decode cX6_take 1 = .ok (.iconst 0, 1) := by decide +kernel
theorem dX6_take_2 : decode cX6_take 2 = .ok (.putfield 72, 3) := by decide +kernel
theorem dX6_take_5 : decode cX6_take 5 = .ok (.aload_n 0, 1) := by decide +kernel
theorem dX6_take_6 : decode cX6_take 6 = .ok (.getfield 83, 3) := by decide +kernel
theorem dX6_take_9 : decode cX6_take 9 = .ok (.ifCond .eq 15, 3) := by decide +kernel
theorem dX6_take_12 : decode cX6_take 12 = .ok (.iload_n 1, 1) := by decide +kernel
theorem dX6_take_13 : decode cX6_take 13 = .ok (.ifCond .lt 11, 3) := by decide +kernel
theorem dX6_take_16 : decode cX6_take 16 = .ok (.iload_n 1, 1) := by decide +kernel
theorem dX6_take_17 : decode cX6_take 17 = .ok (.aload_n 0, 1) := by decide +kernel
theorem dX6_take_18 : decode cX6_take 18 = .ok (.getfield 92, 3) := by decide +kernel
theorem dX6_take_21 : decode cX6_take 21 = .ok (.if_icmp .lt 5, 3) := by decide +kernel
theorem dX6_take_24 : decode cX6_take 24 = .ok (.iconst (-1), 1) := by decide +kernel
theorem dX6_take_25 : decode cX6_take 25 = .ok (.ireturn, 1) := by decide +kernel
theorem dX6_take_26 : decode cX6_take 26 = .ok (.iconst 0, 1) := by decide +kernel
theorem dX6_take_27 : decode cX6_take 27 = .ok (.istore_n 2, 1) := by decide +kernel
theorem dX6_take_28 : decode cX6_take 28 = .ok (.iload_n 2, 1) := by decide +kernel
theorem dX6_take_29 : decode cX6_take 29 = .ok (.aload_n 0, 1) := by decide +kernel
theorem dX6_take_30 : decode cX6_take 30 = .ok (.getfield 86, 3) := by decide +kernel
theorem dX6_take_33 : decode cX6_take 33 = .ok (.if_icmp .ge 66, 3) := by decide +kernel
theorem dX6_take_36 : decode cX6_take 36 = .ok (.aload_n 0, 1) := by decide +kernel
theorem dX6_take_37 : decode cX6_take 37 = .ok (.getfield 22, 3) := by decide +kernel
theorem dX6_take_40 : decode cX6_take 40 = .ok (.bipush 8, 2) := by decide +kernel
theorem dX6_take_42 : decode cX6_take 42 = .ok (.iload_n 1, 1) := by decide +kernel
theorem dX6_take_43 : decode cX6_take 43 = .ok (.imul, 1) := by decide +kernel
theorem dX6_take_44 : decode cX6_take 44 = .ok (.iload_n 2, 1) := by decide +kernel
theorem dX6_take_45 : decode cX6_take 45 = .ok (.iadd, 1) := by decide +kernel
theorem dX6_take_46 : decode cX6_take 46 = .ok (.iaload, 1) := by decide +kernel
theorem dX6_take_47 : decode cX6_take 47 = .ok (.istore_n 3, 1) := by decide +kernel
theorem dX6_take_48 : decode cX6_take 48 = .ok (.iconst 0, 1) := by decide +kernel
theorem dX6_take_49 : decode cX6_take 49 = .ok (.istore 4, 2) := by decide +kernel
theorem dX6_take_51 : decode cX6_take 51 = .ok (.iload 4, 2) := by decide +kernel
theorem dX6_take_53 : decode cX6_take 53 = .ok (.aload_n 0, 1) := by decide +kernel
theorem dX6_take_54 : decode cX6_take 54 = .ok (.getfield 80, 3) := by decide +kernel
theorem dX6_take_57 : decode cX6_take 57 = .ok (.if_icmp .ge 28, 3) := by decide +kernel
theorem dX6_take_60 : decode cX6_take 60 = .ok (.iload_n 3, 1) := by decide +kernel
theorem dX6_take_61 : decode cX6_take 61 = .ok (.aload_n 0, 1) := by decide +kernel
theorem dX6_take_62 : decode cX6_take 62 = .ok (.getfield 28, 3) := by decide +kernel
theorem dX6_take_65 : decode cX6_take 65 = .ok (.iload 4, 2) := by decide +kernel
theorem dX6_take_67 : decode cX6_take 67 = .ok (.iaload, 1) := by decide +kernel
theorem dX6_take_68 : decode cX6_take 68 = .ok (.iload_n 2, 1) := by decide +kernel
theorem dX6_take_69 : decode cX6_take 69 = .ok (.if_icmp .ne 7, 3) := by decide +kernel
theorem dX6_take_72 : decode cX6_take 72 = .ok (.iconst 1, 1) := by decide +kernel
theorem dX6_take_73 : decode cX6_take 73 = .ok (.goto 4, 3) := by decide +kernel
theorem dX6_take_76 : decode cX6_take 76 = .ok (.iconst 0, 1) := by decide +kernel
theorem dX6_take_77 : decode cX6_take 77 = .ok (.iadd, 1) := by decide +kernel
theorem dX6_take_78 : decode cX6_take 78 = .ok (.istore_n 3, 1) := by decide +kernel
theorem dX6_take_79 : decode cX6_take 79 = .ok (.iinc 4 1, 3) := by decide +kernel
theorem dX6_take_82 : decode cX6_take 82 = .ok (.goto (-31), 3) := by decide +kernel
theorem dX6_take_85 : decode cX6_take 85 = .ok (.iload_n 3, 1) := by decide +kernel
theorem dX6_take_86 : decode cX6_take 86 = .ok (.bipush 60, 2) := by decide +kernel
theorem dX6_take_88 : decode cX6_take 88 = .ok (.if_icmp .le 5, 3) := by decide +kernel
theorem dX6_take_91 : decode cX6_take 91 = .ok (.iconst (-1), 1) := by decide +kernel
theorem dX6_take_92 : decode cX6_take 92 = .ok (.ireturn, 1) := by decide +kernel
theorem dX6_take_93 : decode cX6_take 93 = .ok (.iinc 2 1, 3) := by decide +kernel
theorem dX6_take_96 : decode cX6_take 96 = .ok (.goto (-68), 3) := by decide +kernel
theorem dX6_take_99 : decode cX6_take 99 = .ok (.aload_n 0, 1) := by decide +kernel
theorem dX6_take_100 : decode cX6_take 100 = .ok (.getfield 80, 3) := by decide +kernel
theorem dX6_take_103 : decode cX6_take 103 = .ok (.istore_n 2, 1) := by decide +kernel
theorem dX6_take_104 : decode cX6_take 104 = .ok (.iconst 0, 1) := by decide +kernel
theorem dX6_take_105 : decode cX6_take 105 = .ok (.istore_n 3, 1) := by decide +kernel
theorem dX6_take_106 : decode cX6_take 106 = .ok (.iload_n 3, 1) := by decide +kernel
theorem dX6_take_107 : decode cX6_take 107 = .ok (.aload_n 0, 1) := by decide +kernel
theorem dX6_take_108 : decode cX6_take 108 = .ok (.getfield 80, 3) := by decide +kernel
theorem dX6_take_111 : decode cX6_take 111 = .ok (.if_icmp .ge 29, 3) := by decide +kernel
theorem dX6_take_114 : decode cX6_take 114 = .ok (.aload_n 0, 1) := by decide +kernel
theorem dX6_take_115 : decode cX6_take 115 = .ok (.getfield 22, 3) := by decide +kernel
theorem dX6_take_118 : decode cX6_take 118 = .ok (.bipush 8, 2) := by decide +kernel
theorem dX6_take_120 : decode cX6_take 120 = .ok (.iload_n 1, 1) := by decide +kernel
theorem dX6_take_121 : decode cX6_take 121 = .ok (.imul, 1) := by decide +kernel
theorem dX6_take_122 : decode cX6_take 122 = .ok (.aload_n 0, 1) := by decide +kernel
theorem dX6_take_123 : decode cX6_take 123 = .ok (.getfield 28, 3) := by decide +kernel
theorem dX6_take_126 : decode cX6_take 126 = .ok (.iload_n 3, 1) := by decide +kernel
theorem dX6_take_127 : decode cX6_take 127 = .ok (.iaload, 1) := by decide +kernel
theorem dX6_take_128 : decode cX6_take 128 = .ok (.iadd, 1) := by decide +kernel
theorem dX6_take_129 : decode cX6_take 129 = .ok (.dup2, 1) := by decide +kernel
theorem dX6_take_130 : decode cX6_take 130 = .ok (.iaload, 1) := by decide +kernel
theorem dX6_take_131 : decode cX6_take 131 = .ok (.iconst 1, 1) := by decide +kernel
theorem dX6_take_132 : decode cX6_take 132 = .ok (.iadd, 1) := by decide +kernel
theorem dX6_take_133 : decode cX6_take 133 = .ok (.iastore, 1) := by decide +kernel
theorem dX6_take_134 : decode cX6_take 134 = .ok (.iinc 3 1, 3) := by decide +kernel
theorem dX6_take_137 : decode cX6_take 137 = .ok (.goto (-31), 3) := by decide +kernel
theorem dX6_take_140 : decode cX6_take 140 = .ok (.aload_n 0, 1) := by decide +kernel
theorem dX6_take_141 : decode cX6_take 141 = .ok (.iconst 0, 1) := by decide +kernel
theorem dX6_take_142 : decode cX6_take 142 = .ok (.putfield 83, 3) := by decide +kernel
theorem dX6_take_145 : decode cX6_take 145 = .ok (.aload_n 0, 1) := by decide +kernel
theorem dX6_take_146 : decode cX6_take 146 = .ok (.iconst 0, 1) := by decide +kernel
theorem dX6_take_147 : decode cX6_take 147 = .ok (.putfield 169, 3) := by decide +kernel
theorem dX6_take_150 : decode cX6_take 150 = .ok (.aload_n 0, 1) := by decide +kernel
theorem dX6_take_151 : decode cX6_take 151 = .ok (.invokevirtual 89, 3) := by decide +kernel
theorem dX6_take_154 : decode cX6_take 154 = .ok (.iload_n 2, 1) := by decide +kernel
theorem dX6_take_155 : decode cX6_take 155 = .ok (.ireturn, 1) := by decide +kernel
theorem dX6_there_0 : decode cX6_there 0 = .ok (.iconst 0, 1) := by decide +kernel
theorem dX6_there_1 : decode cX6_there 1 = .ok (.istore_n 3, 1) := by decide +kernel
theorem dX6_there_2 : decode cX6_there 2 = .ok (.iconst 0, 1) := by decide +kernel
theorem dX6_there_3 : decode cX6_there 3 = .ok (.istore 4, 2) := by decide +kernel
theorem dX6_there_5 : decode cX6_there 5 = .ok (.iload 4, 2) := by decide +kernel
theorem dX6_there_7 : decode cX6_there 7 = .ok (.aload_n 0, 1) := by decide +kernel
theorem dX6_there_8 : decode cX6_there 8 = .ok (.getfield 80, 3) := by decide +kernel
theorem dX6_there_11 : decode cX6_there 11 = .ok (.if_icmp .ge 46, 3) := by decide +kernel
theorem dX6_there_14 : decode cX6_there 14 = .ok (.iload_n 3, 1) := by decide +kernel
theorem dX6_there_15 : decode cX6_there 15 = .ok (.aload_n 0, 1) := by decide +kernel
theorem dX6_there_16 : decode cX6_there 16 = .ok (.getfield 83, 3) := by decide +kernel
theorem dX6_there_19 : decode cX6_there 19 = .ok (.ifCond .eq 29, 3) := by decide +kernel
theorem dX6_there_22 : decode cX6_there 22 = .ok (.aload_n 0, 1) := by decide +kernel
theorem dX6_there_23 : decode cX6_there 23 = .ok (.getfield 28, 3) := by decide +kernel
theorem dX6_there_26 : decode cX6_there 26 = .ok (.iload 4, 2) := by decide +kernel
theorem dX6_there_28 : decode cX6_there 28 = .ok (.iaload, 1) := by decide +kernel
theorem dX6_there_29 : decode cX6_there 29 = .ok (.iload_n 1, 1) := by decide +kernel
theorem dX6_there_30 : decode cX6_there 30 = .ok (.if_icmp .ne 18, 3) := by decide +kernel
theorem dX6_there_33 : decode cX6_there 33 = .ok (.aload_n 0, 1) := by decide +kernel
theorem dX6_there_34 : decode cX6_there 34 = .ok (.getfield 40, 3) := by decide +kernel
theorem dX6_there_37 : decode cX6_there 37 = .ok (.iload 4, 2) := by decide +kernel
theorem dX6_there_39 : decode cX6_there 39 = .ok (.baload, 1) := by decide +kernel
theorem dX6_there_40 : decode cX6_there 40 = .ok (.iload_n 2, 1) := by decide +kernel
theorem dX6_there_41 : decode cX6_there 41 = .ok (.if_icmp .ne 7, 3) := by decide +kernel
theorem dX6_there_44 : decode cX6_there 44 = .ok (.iconst 1, 1) := by decide +kernel
theorem dX6_there_45 : decode cX6_there 45 = .ok (.goto 4, 3) := by decide +kernel
theorem dX6_there_48 : decode cX6_there 48 = .ok (.iconst 0, 1) := by decide +kernel
theorem dX6_there_49 : decode cX6_there 49 = .ok (.iadd, 1) := by decide +kernel
theorem dX6_there_50 : decode cX6_there 50 = .ok (.istore_n 3, 1) := by decide +kernel
theorem dX6_there_51 : decode cX6_there 51 = .ok (.iinc 4 1, 3) := by decide +kernel
theorem dX6_there_54 : decode cX6_there 54 = .ok (.goto (-49), 3) := by decide +kernel
theorem dX6_there_57 : decode cX6_there 57 = .ok (.iload_n 3, 1) := by decide +kernel
theorem dX6_there_58 : decode cX6_there 58 = .ok (.ireturn, 1) := by decide +kernel
set_option maxRecDepth 20000 in
theorem ggX6_count_X6_there : GoodIn wsX6_count wsX6_there := goodIn_r _ [9, 10, 11, 12, 13, 18, 19, 20, 21, 22, 23, 24, 25, 26, 27, 28, 29, 30, 31, 32, 33, 34, 35, 36, 37, 38, 39, 40, 41, 42, 43, 44, 45, 46, 47, 48, 49, 50, 51, 52, 53, 54] (by decide +kernel) (by decide +kernel)
set_option maxRecDepth 20000 in
theorem gX6_count_X6_there : GoodIn wsX6_count (wsV RX6 179 RX6 yX6_there wsX6_there) := goodIn_app (goodIn_of _ (by decide +kernel)) ggX6_count_X6_there
set_option maxRecDepth 20000 in
theorem ggX6_count_X6_inHeaps : GoodIn wsX6_count wsX6_inHeaps := goodIn_r _ [17, 3, 4, 18, 19, 20, 21, 22, 23, 24, 25, 26, 27, 28, 29, 30, 31, 32, 33, 34, 35, 36, 37, 38, 39, 40, 41, 42, 43, 44, 45, 46, 47, 48, 49, 50, 51, 52, 53, 54] (by decide +kernel) (by decide +kernel)
set_option maxRecDepth 20000 in
theorem gX6_count_X6_inHeaps : GoodIn wsX6_count (wsV RX6 130 RX6 yX6_inHeaps wsX6_inHeaps) := goodIn_app (goodIn_of _ (by decide +kernel)) ggX6_count_X6_inHeaps
theorem dX6_count_0 : decode cX6_count 0 = .ok (.aload_n 0, 1) := by decide +kernel
theorem dX6_count_1 : decode cX6_count 1 = .ok (.iconst 0, 1) := by decide +kernel
theorem dX6_count_2 : decode cX6_count 2 = .ok (.putfield 72, 3) := by decide +kernel
theorem dX6_count_5 : decode cX6_count 5 = .ok (.iload_n 2, 1) := by decide +kernel
theorem dX6_count_6 : decode cX6_count 6 = .ok (.ifCond .lt 34, 3) := by decide +kernel
theorem dX6_count_9 : decode cX6_count 9 = .ok (.iload_n 2, 1) := by decide +kernel
theorem dX6_count_10 : decode cX6_count 10 = .ok (.aload_n 0, 1) := by decide +kernel
theorem dX6_count_11 : decode cX6_count 11 = .ok (.getfield 86, 3) := by decide +kernel
theorem dX6_count_14 : decode cX6_count 14 = .ok (.if_icmp .ge 26, 3) := by decide +kernel
theorem dX6_count_17 : decode cX6_count 17 = .ok (.iload_n 1, 1) := by decide +kernel
theorem dX6_count_18 : decode cX6_count 18 = .ok (.ifCond .lt 22, 3) := by decide +kernel
theorem dX6_count_21 : decode cX6_count 21 = .ok (.iload_n 1, 1) := by decide +kernel
theorem dX6_count_22 : decode cX6_count 22 = .ok (.bipush 7, 2) := by decide +kernel
theorem dX6_count_24 : decode cX6_count 24 = .ok (.if_icmp .gt 16, 3) := by decide +kernel
theorem dX6_count_27 : decode cX6_count 27 = .ok (.iload_n 1, 1) := by decide +kernel
theorem dX6_count_28 : decode cX6_count 28 = .ok (.iconst 5, 1) := by decide +kernel
theorem dX6_count_29 : decode cX6_count 29 = .ok (.if_icmp .ge 13, 3) := by decide +kernel
theorem dX6_count_32 : decode cX6_count 32 = .ok (.iload_n 1, 1) := by decide +kernel
theorem dX6_count_33 : decode cX6_count 33 = .ok (.aload_n 0, 1) := by decide +kernel
theorem dX6_count_34 : decode cX6_count 34 = .ok (.getfield 92, 3) := by decide +kernel
theorem dX6_count_37 : decode cX6_count 37 = .ok (.if_icmp .lt 5, 3) := by decide +kernel
theorem dX6_count_40 : decode cX6_count 40 = .ok (.iconst (-1), 1) := by decide +kernel
theorem dX6_count_41 : decode cX6_count 41 = .ok (.ireturn, 1) := by decide +kernel
theorem dX6_count_42 : decode cX6_count 42 = .ok (.iload_n 1, 1) := by decide +kernel
theorem dX6_count_43 : decode cX6_count 43 = .ok (.iconst 5, 1) := by decide +kernel
theorem dX6_count_44 : decode cX6_count 44 = .ok (.if_icmp .ge 15, 3) := by decide +kernel
theorem dX6_count_47 : decode cX6_count 47 = .ok (.aload_n 0, 1) := by decide +kernel
theorem dX6_count_48 : decode cX6_count 48 = .ok (.getfield 22, 3) := by decide +kernel
theorem dX6_count_51 : decode cX6_count 51 = .ok (.bipush 8, 2) := by decide +kernel
theorem dX6_count_53 : decode cX6_count 53 = .ok (.iload_n 1, 1) := by decide +kernel
theorem dX6_count_54 : decode cX6_count 54 = .ok (.imul, 1) := by decide +kernel
theorem dX6_count_55 : decode cX6_count 55 = .ok (.iload_n 2, 1) := by decide +kernel
theorem dX6_count_56 : decode cX6_count 56 = .ok (.iadd, 1) := by decide +kernel
theorem dX6_count_57 : decode cX6_count 57 = .ok (.iaload, 1) := by decide +kernel
theorem dX6_count_58 : decode cX6_count 58 = .ok (.ireturn, 1) := by decide +kernel
theorem dX6_count_59 : decode cX6_count 59 = .ok (.iload_n 1, 1) := by decide +kernel
theorem dX6_count_60 : decode cX6_count 60 = .ok (.bipush 7, 2) := by decide +kernel
theorem dX6_count_62 : decode cX6_count 62 = .ok (.if_icmp .ge 19, 3) := by decide +kernel
theorem dX6_count_65 : decode cX6_count 65 = .ok (.aload_n 0, 1) := by decide +kernel
theorem dX6_count_66 : decode cX6_count 66 = .ok (.iload_n 2, 1) := by decide +kernel
theorem dX6_count_67 : decode cX6_count 67 = .ok (.iload_n 1, 1) := by decide +kernel
theorem dX6_count_68 : decode cX6_count 68 = .ok (.iconst 5, 1) := by decide +kernel
theorem dX6_count_69 : decode cX6_count 69 = .ok (.if_icmp .ne 7, 3) := by decide +kernel
theorem dX6_count_72 : decode cX6_count 72 = .ok (.iconst 1, 1) := by decide +kernel
theorem dX6_count_73 : decode cX6_count 73 = .ok (.goto 4, 3) := by decide +kernel
theorem dX6_count_76 : decode cX6_count 76 = .ok (.iconst 0, 1) := by decide +kernel
theorem dX6_count_77 : decode cX6_count 77 = .ok (.invokevirtual 179, 3) := by decide +kernel
theorem dX6_count_80 : decode cX6_count 80 = .ok (.ireturn, 1) := by decide +kernel
theorem dX6_count_81 : decode cX6_count 81 = .ok (.aload_n 0, 1) := by decide +kernel
theorem dX6_count_82 : decode cX6_count 82 = .ok (.iload_n 2, 1) := by decide +kernel
theorem dX6_count_83 : decode cX6_count 83 = .ok (.invokevirtual 130, 3) := by decide +kernel
theorem dX6_count_86 : decode cX6_count 86 = .ok (.aload_n 0, 1) := by decide +kernel
theorem dX6_count_87 : decode cX6_count 87 = .ok (.iload_n 2, 1) := by decide +kernel
theorem dX6_count_88 : decode cX6_count 88 = .ok (.iconst 1, 1) := by decide +kernel
theorem dX6_count_89 : decode cX6_count 89 = .ok (.invokevirtual 179, 3) := by decide +kernel
theorem dX6_count_92 : decode cX6_count 92 = .ok (.iadd, 1) := by decide +kernel
theorem dX6_count_93 : decode cX6_count 93 = .ok (.aload_n 0, 1) := by decide +kernel
theorem dX6_count_94 : decode cX6_count 94 = .ok (.iload_n 2, 1) := by decide +kernel
theorem dX6_count_95 : decode cX6_count 95 = .ok (.iconst 0, 1) := by decide +kernel
theorem dX6_count_96 : decode cX6_count 96 = .ok (.invokevirtual 179, 3) := by decide +kernel
theorem dX6_count_99 : decode cX6_count 99 = .ok (.iadd, 1) := by decide +kernel
theorem dX6_count_100 : decode cX6_count 100 = .ok (.ireturn, 1) := by decide +kernel
set_option maxRecDepth 20000 in
theorem ggX6_look_X6_hearting : GoodIn wsX6_look wsX6_hearting := goodIn_r _ [12, 13, 14, 15, 16, 17, 18, 19, 11, 20, 21, 22, 28, 29, 30, 31, 32, 33, 34, 35, 36, 37, 38, 39, 40, 41, 42, 43, 44, 45, 46, 47, 48, 49, 50, 51, 52, 53, 54, 55, 56, 57, 58, 59, 60, 61, 62, 63, 64] (by decide +kernel) (by decide +kernel)
set_option maxRecDepth 20000 in
theorem gX6_look_X6_hearting : GoodIn wsX6_look (wsV RX6 146 RX6 yX6_hearting wsX6_hearting) := goodIn_app (goodIn_of _ (by decide +kernel)) ggX6_look_X6_hearting
set_option maxRecDepth 20000 in
theorem ggX6_look_X6_there : GoodIn wsX6_look wsX6_there := goodIn_r _ [26, 4, 5, 15, 27, 28, 29, 30, 31, 32, 33, 34, 35, 36, 37, 38, 39, 40, 41, 42, 43, 44, 45, 46, 47, 48, 49, 50, 51, 52, 53, 54, 55, 56, 57, 58, 59, 60, 61, 62, 63, 64] (by decide +kernel) (by decide +kernel)
set_option maxRecDepth 20000 in
theorem gX6_look_X6_there : GoodIn wsX6_look (wsV RX6 179 RX6 yX6_there wsX6_there) := goodIn_app (goodIn_of _ (by decide +kernel)) ggX6_look_X6_there
theorem dX6_look_0 : decode cX6_look 0 = .ok (.aload_n 0, 1) := by decide +kernel
theorem dX6_look_1 : decode cX6_look 1 = .ok (.iconst 0, 1) := by decide +kernel
theorem dX6_look_2 : decode cX6_look 2 = .ok (.putfield 72, 3) := by decide +kernel
theorem dX6_look_5 : decode cX6_look 5 = .ok (.iconst 0, 1) := by decide +kernel
theorem dX6_look_6 : decode cX6_look 6 = .ok (.istore_n 2, 1) := by decide +kernel
theorem dX6_look_7 : decode cX6_look 7 = .ok (.iload_n 1, 1) := by decide +kernel
theorem dX6_look_8 : decode cX6_look 8 = .ok (.tableswitch 150 0 7 #[48, 53, 58, 63, 76, 81, 107, 134], 48) := by decide +kernel
theorem dX6_look_56 : decode cX6_look 56 = .ok (.aload_n 0, 1) := by decide +kernel
theorem dX6_look_57 : decode cX6_look 57 = .ok (.getfield 86, 3) := by decide +kernel
theorem dX6_look_60 : decode cX6_look 60 = .ok (.ireturn, 1) := by decide +kernel
theorem dX6_look_61 : decode cX6_look 61 = .ok (.aload_n 0, 1) := by decide +kernel
theorem dX6_look_62 : decode cX6_look 62 = .ok (.getfield 92, 3) := by decide +kernel
theorem dX6_look_65 : decode cX6_look 65 = .ok (.ireturn, 1) := by decide +kernel
theorem dX6_look_66 : decode cX6_look 66 = .ok (.aload_n 0, 1) := by decide +kernel
theorem dX6_look_67 : decode cX6_look 67 = .ok (.getfield 80, 3) := by decide +kernel
theorem dX6_look_70 : decode cX6_look 70 = .ok (.ireturn, 1) := by decide +kernel
theorem dX6_look_71 : decode cX6_look 71 = .ok (.aload_n 0, 1) := by decide +kernel
theorem dX6_look_72 : decode cX6_look 72 = .ok (.getfield 83, 3) := by decide +kernel
theorem dX6_look_75 : decode cX6_look 75 = .ok (.ifCond .eq 7, 3) := by decide +kernel
theorem dX6_look_78 : decode cX6_look 78 = .ok (.iconst 1, 1) := by decide +kernel
theorem dX6_look_79 : decode cX6_look 79 = .ok (.goto 4, 3) := by decide +kernel
theorem dX6_look_82 : decode cX6_look 82 = .ok (.iconst 0, 1) := by decide +kernel
theorem dX6_look_83 : decode cX6_look 83 = .ok (.ireturn, 1) := by decide +kernel
theorem dX6_look_84 : decode cX6_look 84 = .ok (.aload_n 0, 1) := by decide +kernel
theorem dX6_look_85 : decode cX6_look 85 = .ok (.getfield 133, 3) := by decide +kernel
theorem dX6_look_88 : decode cX6_look 88 = .ok (.ireturn, 1) := by decide +kernel
theorem dX6_look_89 : decode cX6_look 89 = .ok (.iconst 0, 1) := by decide +kernel
theorem dX6_look_90 : decode cX6_look 90 = .ok (.istore_n 3, 1) := by decide +kernel
theorem dX6_look_91 : decode cX6_look 91 = .ok (.iload_n 3, 1) := by decide +kernel
theorem dX6_look_92 : decode cX6_look 92 = .ok (.aload_n 0, 1) := by decide +kernel
theorem dX6_look_93 : decode cX6_look 93 = .ok (.getfield 80, 3) := by decide +kernel
theorem dX6_look_96 : decode cX6_look 96 = .ok (.if_icmp .ge 17, 3) := by decide +kernel
theorem dX6_look_99 : decode cX6_look 99 = .ok (.iload_n 2, 1) := by decide +kernel
theorem dX6_look_100 : decode cX6_look 100 = .ok (.aload_n 0, 1) := by decide +kernel
theorem dX6_look_101 : decode cX6_look 101 = .ok (.iload_n 3, 1) := by decide +kernel
theorem dX6_look_102 : decode cX6_look 102 = .ok (.invokevirtual 146, 3) := by decide +kernel
theorem dX6_look_105 : decode cX6_look 105 = .ok (.iadd, 1) := by decide +kernel
theorem dX6_look_106 : decode cX6_look 106 = .ok (.istore_n 2, 1) := by decide +kernel
theorem dX6_look_107 : decode cX6_look 107 = .ok (.iinc 3 1, 3) := by decide +kernel
theorem dX6_look_110 : decode cX6_look 110 = .ok (.goto (-19), 3) := by decide +kernel
theorem dX6_look_113 : decode cX6_look 113 = .ok (.iload_n 2, 1) := by decide +kernel
theorem dX6_look_114 : decode cX6_look 114 = .ok (.ireturn, 1) := by decide +kernel
theorem dX6_look_115 : decode cX6_look 115 = .ok (.iconst 0, 1) := by decide +kernel
theorem dX6_look_116 : decode cX6_look 116 = .ok (.istore_n 3, 1) := by decide +kernel
theorem dX6_look_117 : decode cX6_look 117 = .ok (.iload_n 3, 1) := by decide +kernel
theorem dX6_look_118 : decode cX6_look 118 = .ok (.aload_n 0, 1) := by decide +kernel
theorem dX6_look_119 : decode cX6_look 119 = .ok (.getfield 86, 3) := by decide +kernel
theorem dX6_look_122 : decode cX6_look 122 = .ok (.if_icmp .ge 18, 3) := by decide +kernel
theorem dX6_look_125 : decode cX6_look 125 = .ok (.iload_n 2, 1) := by decide +kernel
theorem dX6_look_126 : decode cX6_look 126 = .ok (.aload_n 0, 1) := by decide +kernel
theorem dX6_look_127 : decode cX6_look 127 = .ok (.iload_n 3, 1) := by decide +kernel
theorem dX6_look_128 : decode cX6_look 128 = .ok (.iconst 0, 1) := by decide +kernel
theorem dX6_look_129 : decode cX6_look 129 = .ok (.invokevirtual 179, 3) := by decide +kernel
theorem dX6_look_132 : decode cX6_look 132 = .ok (.iadd, 1) := by decide +kernel
theorem dX6_look_133 : decode cX6_look 133 = .ok (.istore_n 2, 1) := by decide +kernel
theorem dX6_look_134 : decode cX6_look 134 = .ok (.iinc 3 1, 3) := by decide +kernel
theorem dX6_look_137 : decode cX6_look 137 = .ok (.goto (-20), 3) := by decide +kernel
theorem dX6_look_140 : decode cX6_look 140 = .ok (.iload_n 2, 1) := by decide +kernel
theorem dX6_look_141 : decode cX6_look 141 = .ok (.ireturn, 1) := by decide +kernel
theorem dX6_look_142 : decode cX6_look 142 = .ok (.aload_n 0, 1) := by decide +kernel
theorem dX6_look_143 : decode cX6_look 143 = .ok (.getfield 83, 3) := by decide +kernel
theorem dX6_look_146 : decode cX6_look 146 = .ok (.ifCond .eq 10, 3) := by decide +kernel
theorem dX6_look_149 : decode cX6_look 149 = .ok (.aload_n 0, 1) := by decide +kernel
theorem dX6_look_150 : decode cX6_look 150 = .ok (.getfield 169, 3) := by decide +kernel
theorem dX6_look_153 : decode cX6_look 153 = .ok (.goto 4, 3) := by decide +kernel
theorem dX6_look_156 : decode cX6_look 156 = .ok (.iconst 0, 1) := by decide +kernel
theorem dX6_look_157 : decode cX6_look 157 = .ok (.ireturn, 1) := by decide +kernel
theorem dX6_look_158 : decode cX6_look 158 = .ok (.iconst (-1), 1) := by decide +kernel
theorem dX6_look_159 : decode cX6_look 159 = .ok (.ireturn, 1) := by decide +kernel
