theorem dX1_init_0 : decode cX1_init 0 = .ok (.aload_n 0, 1) := by decide +kernel
theorem dX1_init_1 : decode cX1_init 1 = .ok (.invokespecial 3, 3) := by decide +kernel
theorem dX1_init_4 : decode cX1_init 4 = .ok (.aload_n 0, 1) := by decide +kernel
theorem dX1_init_5 : decode cX1_init 5 = .ok (.sipush 144, 3) := by decide +kernel
theorem dX1_init_8 : decode cX1_init 8 = .ok (.newarray .int, 2) := by decide +kernel
theorem dX1_init_10 : decode cX1_init 10 = .ok (.putfield 9, 3) := by decide +kernel
theorem dX1_init_13 : decode cX1_init 13 = .ok (.aload_n 0, 1) := by decide +kernel
theorem dX1_init_14 : decode cX1_init 14 = .ok (.sipush 144, 3) := by decide +kernel
theorem dX1_init_17 : decode cX1_init 17 = .ok (.newarray .int, 2) := by decide +kernel
theorem dX1_init_19 : decode cX1_init 19 = .ok (.putfield 15, 3) := by decide +kernel
theorem dX1_init_22 : decode cX1_init 22 = .ok (.aload_n 0, 1) := by decide +kernel
theorem dX1_init_23 : decode cX1_init 23 = .ok (.sipush 144, 3) := by decide +kernel
theorem dX1_init_26 : decode cX1_init 26 = .ok (.newarray .int, 2) := by decide +kernel
theorem dX1_init_28 : decode cX1_init 28 = .ok (.putfield 18, 3) := by decide +kernel
theorem dX1_init_31 : decode cX1_init 31 = .ok (.aload_n 0, 1) := by decide +kernel
theorem dX1_init_32 : decode cX1_init 32 = .ok (.sipush 144, 3) := by decide +kernel
theorem dX1_init_35 : decode cX1_init 35 = .ok (.newarray .int, 2) := by decide +kernel
theorem dX1_init_37 : decode cX1_init 37 = .ok (.putfield 21, 3) := by decide +kernel
theorem dX1_init_40 : decode cX1_init 40 = .ok (.aload_n 0, 1) := by decide +kernel
theorem dX1_init_41 : decode cX1_init 41 = .ok (.sipush 144, 3) := by decide +kernel
theorem dX1_init_44 : decode cX1_init 44 = .ok (.newarray .int, 2) := by decide +kernel
theorem dX1_init_46 : decode cX1_init 46 = .ok (.putfield 24, 3) := by decide +kernel
theorem dX1_init_49 : decode cX1_init 49 = .ok (.aload_n 0, 1) := by decide +kernel
theorem dX1_init_50 : decode cX1_init 50 = .ok (.sipush 144, 3) := by decide +kernel
theorem dX1_init_53 : decode cX1_init 53 = .ok (.newarray .boolean, 2) := by decide +kernel
theorem dX1_init_55 : decode cX1_init 55 = .ok (.putfield 27, 3) := by decide +kernel
theorem dX1_init_58 : decode cX1_init 58 = .ok (.aload_n 0, 1) := by decide +kernel
theorem dX1_init_59 : decode cX1_init 59 = .ok (.bipush 6, 2) := by decide +kernel
theorem dX1_init_61 : decode cX1_init 61 = .ok (.newarray .int, 2) := by decide +kernel
theorem dX1_init_63 : decode cX1_init 63 = .ok (.putfield 31, 3) := by decide +kernel
theorem dX1_init_66 : decode cX1_init 66 = .ok (.aload_n 0, 1) := by decide +kernel
theorem dX1_init_67 : decode cX1_init 67 = .ok (.aload_n 1, 1) := by decide +kernel
theorem dX1_init_68 : decode cX1_init 68 = .ok (.putfield 34, 3) := by decide +kernel
theorem dX1_init_71 : decode cX1_init 71 = .ok (.aload_n 0, 1) := by decide +kernel
theorem dX1_init_72 : decode cX1_init 72 = .ok (.aload_n 2, 1) := by decide +kernel
theorem dX1_init_73 : decode cX1_init 73 = .ok (.putfield 38, 3) := by decide +kernel
theorem dX1_init_76 : decode cX1_init 76 = .ok (.return_, 1) := by decide +kernel
theorem dX1_forget_0 : decode cX1_forget 0 = .ok (.aload_n 0, 1) := by decide +kernel
theorem dX1_forget_1 : decode cX1_forget 1 = .ok (.iconst 0, 1) := by decide +kernel
theorem dX1_forget_2 : decode cX1_forget 2 = .ok (.putfield 42, 3) := by decide +kernel
theorem dX1_forget_5 : decode cX1_forget 5 = .ok (.aload_n 0, 1) := by decide +kernel
theorem dX1_forget_6 : decode cX1_forget 6 = .ok (.iconst 0, 1) := by decide +kernel
theorem dX1_forget_7 : decode cX1_forget 7 = .ok (.putfield 46, 3) := by decide +kernel
theorem dX1_forget_10 : decode cX1_forget 10 = .ok (.aload_n 0, 1) := by decide +kernel
theorem dX1_forget_11 : decode cX1_forget 11 = .ok (.iconst 0, 1) := by decide +kernel
theorem dX1_forget_12 : decode cX1_forget 12 = .ok (.putfield 50, 3) := by decide +kernel
theorem dX1_forget_15 : decode cX1_forget 15 = .ok (.return_, 1) := by decide +kernel
theorem dX1_add_0 : decode cX1_add 0 = .ok (.aload_n 0, 1) := by decide +kernel
theorem dX1_add_1 : decode cX1_add 1 = .ok (.getfield 42, 3) := by decide +kernel
theorem dX1_add_4 : decode cX1_add 4 = .ok (.sipush 144, 3) := by decide +kernel
theorem dX1_add_7 : decode cX1_add 7 = .ok (.if_icmp .lt 4, 3) := by decide +kernel
theorem dX1_add_10 : decode cX1_add 10 = .ok (.return_, 1) := by decide +kernel
theorem dX1_add_11 : decode cX1_add 11 = .ok (.aload_n 0, 1) := by decide +kernel
theorem dX1_add_12 : decode cX1_add 12 = .ok (.getfield 9, 3) := by decide +kernel
theorem dX1_add_15 : decode cX1_add 15 = .ok (.aload_n 0, 1) := by decide +kernel
theorem dX1_add_16 : decode cX1_add 16 = .ok (.getfield 42, 3) := by decide +kernel
theorem dX1_add_19 : decode cX1_add 19 = .ok (.iload_n 1, 1) := by decide +kernel
theorem dX1_add_20 : decode cX1_add 20 = .ok (.iastore, 1) := by decide +kernel
theorem dX1_add_21 : decode cX1_add 21 = .ok (.aload_n 0, 1) := by decide +kernel
theorem dX1_add_22 : decode cX1_add 22 = .ok (.getfield 15, 3) := by decide +kernel
theorem dX1_add_25 : decode cX1_add 25 = .ok (.aload_n 0, 1) := by decide +kernel
theorem dX1_add_26 : decode cX1_add 26 = .ok (.getfield 42, 3) := by decide +kernel
theorem dX1_add_29 : decode cX1_add 29 = .ok (.iload_n 2, 1) := by decide +kernel
theorem dX1_add_30 : decode cX1_add 30 = .ok (.iastore, 1) := by decide +kernel
theorem dX1_add_31 : decode cX1_add 31 = .ok (.aload_n 0, 1) := by decide +kernel
theorem dX1_add_32 : decode cX1_add 32 = .ok (.getfield 18, 3) := by decide +kernel
theorem dX1_add_35 : decode cX1_add 35 = .ok (.aload_n 0, 1) := by decide +kernel
theorem dX1_add_36 : decode cX1_add 36 = .ok (.getfield 42, 3) := by decide +kernel
theorem dX1_add_39 : decode cX1_add 39 = .ok (.iload_n 3, 1) := by decide +kernel
theorem dX1_add_40 : decode cX1_add 40 = .ok (.iastore, 1) := by decide +kernel
theorem dX1_add_41 : decode cX1_add 41 = .ok (.aload_n 0, 1) := by decide +kernel
theorem dX1_add_42 : decode cX1_add 42 = .ok (.dup, 1) := by decide +kernel
theorem dX1_add_43 : decode cX1_add 43 = .ok (.getfield 42, 3) := by decide +kernel
theorem dX1_add_46 : decode cX1_add 46 = .ok (.iconst 1, 1) := by decide +kernel
theorem dX1_add_47 : decode cX1_add 47 = .ok (.iadd, 1) := by decide +kernel
theorem dX1_add_48 : decode cX1_add 48 = .ok (.putfield 42, 3) := by decide +kernel
theorem dX1_add_51 : decode cX1_add 51 = .ok (.return_, 1) := by decide +kernel
theorem dX1_end_0 : decode cX1_end 0 = .ok (.aload_n 0, 1) := by decide +kernel
theorem dX1_end_1 : decode cX1_end 1 = .ok (.getfield 18, 3) := by decide +kernel
theorem dX1_end_4 : decode cX1_end 4 = .ok (.iload_n 1, 1) := by decide +kernel
theorem dX1_end_5 : decode cX1_end 5 = .ok (.iaload, 1) := by decide +kernel
theorem dX1_end_6 : decode cX1_end 6 = .ok (.aload_n 0, 1) := by decide +kernel
theorem dX1_end_7 : decode cX1_end 7 = .ok (.getfield 34, 3) := by decide +kernel
theorem dX1_end_10 : decode cX1_end 10 = .ok (.getfield 53, 3) := by decide +kernel
theorem dX1_end_13 : decode cX1_end 13 = .ok (.aload_n 0, 1) := by decide +kernel
theorem dX1_end_14 : decode cX1_end 14 = .ok (.getfield 9, 3) := by decide +kernel
theorem dX1_end_17 : decode cX1_end 17 = .ok (.iload_n 1, 1) := by decide +kernel
theorem dX1_end_18 : decode cX1_end 18 = .ok (.iaload, 1) := by decide +kernel
theorem dX1_end_19 : decode cX1_end 19 = .ok (.iaload, 1) := by decide +kernel
theorem dX1_end_20 : decode cX1_end 20 = .ok (.iadd, 1) := by decide +kernel
theorem dX1_end_21 : decode cX1_end 21 = .ok (.ireturn, 1) := by decide +kernel
set_option maxRecDepth 20000 in
theorem ggX1_hearting_X3_width : GoodIn wsX1_hearting wsX3_width := goodIn_r _ [15, 16, 17, 18, 8, 9, 10, 38, 39, 40, 41, 42, 43, 44, 45, 46] (by decide +kernel) (by decide +kernel)
set_option maxRecDepth 20000 in
theorem gX1_hearting_X3_width : GoodIn wsX1_hearting (wsV RX1 58 RX3 yX3_width wsX3_width) := goodIn_app (goodIn_of _ (by decide +kernel)) ggX1_hearting_X3_width
theorem dX1_hearting_0 : decode cX1_hearting 0 = .ok (.aload_n 0, 1) := by decide +kernel
theorem dX1_hearting_1 : decode cX1_hearting 1 = .ok (.getfield 9, 3) := by decide +kernel
theorem dX1_hearting_4 : decode cX1_hearting 4 = .ok (.iload_n 1, 1) := by decide +kernel
theorem dX1_hearting_5 : decode cX1_hearting 5 = .ok (.iaload, 1) := by decide +kernel
theorem dX1_hearting_6 : decode cX1_hearting 6 = .ok (.istore_n 2, 1) := by decide +kernel
theorem dX1_hearting_7 : decode cX1_hearting 7 = .ok (.aload_n 0, 1) := by decide +kernel
theorem dX1_hearting_8 : decode cX1_hearting 8 = .ok (.getfield 34, 3) := by decide +kernel
theorem dX1_hearting_11 : decode cX1_hearting 11 = .ok (.getfield 53, 3) := by decide +kernel
theorem dX1_hearting_14 : decode cX1_hearting 14 = .ok (.iload_n 2, 1) := by decide +kernel
theorem dX1_hearting_15 : decode cX1_hearting 15 = .ok (.iaload, 1) := by decide +kernel
theorem dX1_hearting_16 : decode cX1_hearting 16 = .ok (.iconst 0, 1) := by decide +kernel
theorem dX1_hearting_17 : decode cX1_hearting 17 = .ok (.aload_n 0, 1) := by decide +kernel
theorem dX1_hearting_18 : decode cX1_hearting 18 = .ok (.getfield 38, 3) := by decide +kernel
theorem dX1_hearting_21 : decode cX1_hearting 21 = .ok (.aload_n 0, 1) := by decide +kernel
theorem dX1_hearting_22 : decode cX1_hearting 22 = .ok (.getfield 15, 3) := by decide +kernel
theorem dX1_hearting_25 : decode cX1_hearting 25 = .ok (.iload_n 1, 1) := by decide +kernel
theorem dX1_hearting_26 : decode cX1_hearting 26 = .ok (.iaload, 1) := by decide +kernel
theorem dX1_hearting_27 : decode cX1_hearting 27 = .ok (.invokevirtual 58, 3) := by decide +kernel
theorem dX1_hearting_30 : decode cX1_hearting 30 = .ok (.aload_n 0, 1) := by decide +kernel
theorem dX1_hearting_31 : decode cX1_hearting 31 = .ok (.getfield 34, 3) := by decide +kernel
theorem dX1_hearting_34 : decode cX1_hearting 34 = .ok (.getfield 64, 3) := by decide +kernel
theorem dX1_hearting_37 : decode cX1_hearting 37 = .ok (.iload_n 2, 1) := by decide +kernel
theorem dX1_hearting_38 : decode cX1_hearting 38 = .ok (.iaload, 1) := by decide +kernel
theorem dX1_hearting_39 : decode cX1_hearting 39 = .ok (.isub, 1) := by decide +kernel
theorem dX1_hearting_40 : decode cX1_hearting 40 = .ok (.invokestatic 67, 3) := by decide +kernel
theorem dX1_hearting_43 : decode cX1_hearting 43 = .ok (.imul, 1) := by decide +kernel
theorem dX1_hearting_44 : decode cX1_hearting 44 = .ok (.ireturn, 1) := by decide +kernel
set_option maxRecDepth 20000 in
theorem ggX1_heartingInAll_X1_hearting : GoodIn wsX1_heartingInAll wsX1_hearting := goodIn_r _ [6, 7, 8, 9, 10, 11, 12, 13, 14, 15, 16, 17, 18, 19, 20, 21, 22, 23, 24, 25, 26, 27, 28, 29, 30, 31, 32, 33, 34, 35, 36, 37, 38, 39, 40, 41, 42, 43, 44, 45, 46, 47, 48, 49, 50, 51, 52] (by decide +kernel) (by decide +kernel)
set_option maxRecDepth 20000 in
theorem gX1_heartingInAll_X1_hearting : GoodIn wsX1_heartingInAll (wsV RX1 73 RX1 yX1_hearting wsX1_hearting) := goodIn_app (goodIn_of _ (by decide +kernel)) ggX1_heartingInAll_X1_hearting
theorem dX1_heartingInAll_0 : decode cX1_heartingInAll 0 = .ok (.iconst 0, 1) := by decide +kernel
theorem dX1_heartingInAll_1 : decode cX1_heartingInAll 1 = .ok (.istore_n 1, 1) := by decide +kernel
theorem dX1_heartingInAll_2 : decode cX1_heartingInAll 2 = .ok (.iconst 0, 1) := by decide +kernel
theorem dX1_heartingInAll_3 : decode cX1_heartingInAll 3 = .ok (.istore_n 2, 1) := by decide +kernel
theorem dX1_heartingInAll_4 : decode cX1_heartingInAll 4 = .ok (.iload_n 2, 1) := by decide +kernel
theorem dX1_heartingInAll_5 : decode cX1_heartingInAll 5 = .ok (.aload_n 0, 1) := by decide +kernel
theorem dX1_heartingInAll_6 : decode cX1_heartingInAll 6 = .ok (.getfield 42, 3) := by decide +kernel
theorem dX1_heartingInAll_9 : decode cX1_heartingInAll 9 = .ok (.if_icmp .ge 17, 3) := by decide +kernel
theorem dX1_heartingInAll_12 : decode cX1_heartingInAll 12 = .ok (.iload_n 1, 1) := by decide +kernel
theorem dX1_heartingInAll_13 : decode cX1_heartingInAll 13 = .ok (.aload_n 0, 1) := by decide +kernel
theorem dX1_heartingInAll_14 : decode cX1_heartingInAll 14 = .ok (.iload_n 2, 1) := by decide +kernel
theorem dX1_heartingInAll_15 : decode cX1_heartingInAll 15 = .ok (.invokevirtual 73, 3) := by decide +kernel
theorem dX1_heartingInAll_18 : decode cX1_heartingInAll 18 = .ok (.iadd, 1) := by decide +kernel
theorem dX1_heartingInAll_19 : decode cX1_heartingInAll 19 = .ok (.istore_n 1, 1) := by decide +kernel
theorem dX1_heartingInAll_20 : decode cX1_heartingInAll 20 = .ok (.iinc 2 1, 3) := by decide +kernel
theorem dX1_heartingInAll_23 : decode cX1_heartingInAll 23 = .ok (.goto (-19), 3) := by decide +kernel
theorem dX1_heartingInAll_26 : decode cX1_heartingInAll 26 = .ok (.iload_n 1, 1) := by decide +kernel
theorem dX1_heartingInAll_27 : decode cX1_heartingInAll 27 = .ok (.ireturn, 1) := by decide +kernel
set_option maxRecDepth 20000 in
theorem ggX1_isThroughStone_X3_width : GoodIn wsX1_isThroughStone wsX3_width := goodIn_r _ [10, 11, 12, 13, 14, 15, 16, 36, 37, 38, 39, 40, 41, 42, 43, 44] (by decide +kernel) (by decide +kernel)
set_option maxRecDepth 20000 in
theorem gX1_isThroughStone_X3_width : GoodIn wsX1_isThroughStone (wsV RX1 58 RX3 yX3_width wsX3_width) := goodIn_app (goodIn_of _ (by decide +kernel)) ggX1_isThroughStone_X3_width
theorem dX1_isThroughStone_0 : decode cX1_isThroughStone 0 = .ok (.aload_n 0, 1) := by decide +kernel
theorem dX1_isThroughStone_1 : decode cX1_isThroughStone 1 = .ok (.getfield 34, 3) := by decide +kernel
theorem dX1_isThroughStone_4 : decode cX1_isThroughStone 4 = .ok (.getfield 64, 3) := by decide +kernel
theorem dX1_isThroughStone_7 : decode cX1_isThroughStone 7 = .ok (.aload_n 0, 1) := by decide +kernel
theorem dX1_isThroughStone_8 : decode cX1_isThroughStone 8 = .ok (.getfield 9, 3) := by decide +kernel
theorem dX1_isThroughStone_11 : decode cX1_isThroughStone 11 = .ok (.iload_n 1, 1) := by decide +kernel
theorem dX1_isThroughStone_12 : decode cX1_isThroughStone 12 = .ok (.iaload, 1) := by decide +kernel
theorem dX1_isThroughStone_13 : decode cX1_isThroughStone 13 = .ok (.iaload, 1) := by decide +kernel
theorem dX1_isThroughStone_14 : decode cX1_isThroughStone 14 = .ok (.aload_n 0, 1) := by decide +kernel
theorem dX1_isThroughStone_15 : decode cX1_isThroughStone 15 = .ok (.getfield 38, 3) := by decide +kernel
theorem dX1_isThroughStone_18 : decode cX1_isThroughStone 18 = .ok (.aload_n 0, 1) := by decide +kernel
theorem dX1_isThroughStone_19 : decode cX1_isThroughStone 19 = .ok (.getfield 15, 3) := by decide +kernel
theorem dX1_isThroughStone_22 : decode cX1_isThroughStone 22 = .ok (.iload_n 1, 1) := by decide +kernel
theorem dX1_isThroughStone_23 : decode cX1_isThroughStone 23 = .ok (.iaload, 1) := by decide +kernel
theorem dX1_isThroughStone_24 : decode cX1_isThroughStone 24 = .ok (.invokevirtual 58, 3) := by decide +kernel
theorem dX1_isThroughStone_27 : decode cX1_isThroughStone 27 = .ok (.if_icmp .lt 7, 3) := by decide +kernel
theorem dX1_isThroughStone_30 : decode cX1_isThroughStone 30 = .ok (.iconst 1, 1) := by decide +kernel
theorem dX1_isThroughStone_31 : decode cX1_isThroughStone 31 = .ok (.goto 4, 3) := by decide +kernel
theorem dX1_isThroughStone_34 : decode cX1_isThroughStone 34 = .ok (.iconst 0, 1) := by decide +kernel
theorem dX1_isThroughStone_35 : decode cX1_isThroughStone 35 = .ok (.ireturn, 1) := by decide +kernel
theorem dX1_isStanding_0 : decode cX1_isStanding 0 = .ok (.aload_n 0, 1) := by decide +kernel
theorem dX1_isStanding_1 : decode cX1_isStanding 1 = .ok (.getfield 46, 3) := by decide +kernel
theorem dX1_isStanding_4 : decode cX1_isStanding 4 = .ok (.ifCond .eq 16, 3) := by decide +kernel
theorem dX1_isStanding_7 : decode cX1_isStanding 7 = .ok (.aload_n 0, 1) := by decide +kernel
theorem dX1_isStanding_8 : decode cX1_isStanding 8 = .ok (.getfield 27, 3) := by decide +kernel
theorem dX1_isStanding_11 : decode cX1_isStanding 11 = .ok (.iload_n 1, 1) := by decide +kernel
theorem dX1_isStanding_12 : decode cX1_isStanding 12 = .ok (.baload, 1) := by decide +kernel
theorem dX1_isStanding_13 : decode cX1_isStanding 13 = .ok (.ifCond .eq 7, 3) := by decide +kernel
theorem dX1_isStanding_16 : decode cX1_isStanding 16 = .ok (.iconst 1, 1) := by decide +kernel
theorem dX1_isStanding_17 : decode cX1_isStanding 17 = .ok (.goto 4, 3) := by decide +kernel
theorem dX1_isStanding_20 : decode cX1_isStanding 20 = .ok (.iconst 0, 1) := by decide +kernel
theorem dX1_isStanding_21 : decode cX1_isStanding 21 = .ok (.ireturn, 1) := by decide +kernel
theorem dX1_number_0 : decode cX1_number 0 = .ok (.iconst 0, 1) := by decide +kernel
theorem dX1_number_1 : decode cX1_number 1 = .ok (.istore_n 2, 1) := by decide +kernel
theorem dX1_number_2 : decode cX1_number 2 = .ok (.iconst 0, 1) := by decide +kernel
theorem dX1_number_3 : decode cX1_number 3 = .ok (.istore_n 3, 1) := by decide +kernel
theorem dX1_number_4 : decode cX1_number 4 = .ok (.iload_n 3, 1) := by decide +kernel
theorem dX1_number_5 : decode cX1_number 5 = .ok (.aload_n 0, 1) := by decide +kernel
theorem dX1_number_6 : decode cX1_number 6 = .ok (.getfield 42, 3) := by decide +kernel
theorem dX1_number_9 : decode cX1_number 9 = .ok (.if_icmp .ge 27, 3) := by decide +kernel
theorem dX1_number_12 : decode cX1_number 12 = .ok (.iload_n 2, 1) := by decide +kernel
theorem dX1_number_13 : decode cX1_number 13 = .ok (.aload_n 0, 1) := by decide +kernel
theorem dX1_number_14 : decode cX1_number 14 = .ok (.getfield 9, 3) := by decide +kernel
theorem dX1_number_17 : decode cX1_number 17 = .ok (.iload_n 3, 1) := by decide +kernel
theorem dX1_number_18 : decode cX1_number 18 = .ok (.iaload, 1) := by decide +kernel
theorem dX1_number_19 : decode cX1_number 19 = .ok (.iload_n 1, 1) := by decide +kernel
theorem dX1_number_20 : decode cX1_number 20 = .ok (.if_icmp .ne 7, 3) := by decide +kernel
theorem dX1_number_23 : decode cX1_number 23 = .ok (.iconst 1, 1) := by decide +kernel
theorem dX1_number_24 : decode cX1_number 24 = .ok (.goto 4, 3) := by decide +kernel
theorem dX1_number_27 : decode cX1_number 27 = .ok (.iconst 0, 1) := by decide +kernel
theorem dX1_number_28 : decode cX1_number 28 = .ok (.iadd, 1) := by decide +kernel
theorem dX1_number_29 : decode cX1_number 29 = .ok (.istore_n 2, 1) := by decide +kernel
theorem dX1_number_30 : decode cX1_number 30 = .ok (.iinc 3 1, 3) := by decide +kernel
theorem dX1_number_33 : decode cX1_number 33 = .ok (.goto (-29), 3) := by decide +kernel
theorem dX1_number_36 : decode cX1_number 36 = .ok (.iload_n 2, 1) := by decide +kernel
theorem dX1_number_37 : decode cX1_number 37 = .ok (.ireturn, 1) := by decide +kernel
set_option maxRecDepth 20000 in
theorem ggX1_numberStanding_X1_isStanding : GoodIn wsX1_numberStanding wsX1_isStanding := goodIn_r _ [7, 8, 9, 10, 11, 12, 13, 14, 15, 16, 17, 18, 19, 20, 21] (by decide +kernel) (by decide +kernel)
set_option maxRecDepth 20000 in
theorem gX1_numberStanding_X1_isStanding : GoodIn wsX1_numberStanding (wsV RX1 76 RX1 yX1_isStanding wsX1_isStanding) := goodIn_app (goodIn_of _ (by decide +kernel)) ggX1_numberStanding_X1_isStanding
theorem dX1_numberStanding_0 : decode cX1_numberStanding 0 = .ok (.iconst 0, 1) := by decide +kernel
theorem dX1_numberStanding_1 : decode cX1_numberStanding 1 = .ok (.istore_n 2, 1) := by decide +kernel
theorem dX1_numberStanding_2 : decode cX1_numberStanding 2 = .ok (.iconst 0, 1) := by decide +kernel
theorem dX1_numberStanding_3 : decode cX1_numberStanding 3 = .ok (.istore_n 3, 1) := by decide +kernel
theorem dX1_numberStanding_4 : decode cX1_numberStanding 4 = .ok (.iload_n 3, 1) := by decide +kernel
theorem dX1_numberStanding_5 : decode cX1_numberStanding 5 = .ok (.aload_n 0, 1) := by decide +kernel
theorem dX1_numberStanding_6 : decode cX1_numberStanding 6 = .ok (.getfield 42, 3) := by decide +kernel
theorem dX1_numberStanding_9 : decode cX1_numberStanding 9 = .ok (.if_icmp .ge 35, 3) := by decide +kernel
theorem dX1_numberStanding_12 : decode cX1_numberStanding 12 = .ok (.iload_n 2, 1) := by decide +kernel
theorem dX1_numberStanding_13 : decode cX1_numberStanding 13 = .ok (.aload_n 0, 1) := by decide +kernel
theorem dX1_numberStanding_14 : decode cX1_numberStanding 14 = .ok (.getfield 9, 3) := by decide +kernel
theorem dX1_numberStanding_17 : decode cX1_numberStanding 17 = .ok (.iload_n 3, 1) := by decide +kernel
theorem dX1_numberStanding_18 : decode cX1_numberStanding 18 = .ok (.iaload, 1) := by decide +kernel
theorem dX1_numberStanding_19 : decode cX1_numberStanding 19 = .ok (.iload_n 1, 1) := by decide +kernel
theorem dX1_numberStanding_20 : decode cX1_numberStanding 20 = .ok (.if_icmp .ne 15, 3) := by decide +kernel
theorem dX1_numberStanding_23 : decode cX1_numberStanding 23 = .ok (.aload_n 0, 1) := by decide +kernel
theorem dX1_numberStanding_24 : decode cX1_numberStanding 24 = .ok (.iload_n 3, 1) := by decide +kernel
theorem dX1_numberStanding_25 : decode cX1_numberStanding 25 = .ok (.invokevirtual 76, 3) := by decide +kernel
theorem dX1_numberStanding_28 : decode cX1_numberStanding 28 = .ok (.ifCond .eq 7, 3) := by decide +kernel
theorem dX1_numberStanding_31 : decode cX1_numberStanding 31 = .ok (.iconst 1, 1) := by decide +kernel
theorem dX1_numberStanding_32 : decode cX1_numberStanding 32 = .ok (.goto 4, 3) := by decide +kernel
theorem dX1_numberStanding_35 : decode cX1_numberStanding 35 = .ok (.iconst 0, 1) := by decide +kernel
theorem dX1_numberStanding_36 : decode cX1_numberStanding 36 = .ok (.iadd, 1) := by decide +kernel
theorem dX1_numberStanding_37 : decode cX1_numberStanding 37 = .ok (.istore_n 2, 1) := by decide +kernel
theorem dX1_numberStanding_38 : decode cX1_numberStanding 38 = .ok (.iinc 3 1, 3) := by decide +kernel
theorem dX1_numberStanding_41 : decode cX1_numberStanding 41 = .ok (.goto (-37), 3) := by decide +kernel
theorem dX1_numberStanding_44 : decode cX1_numberStanding 44 = .ok (.iload_n 2, 1) := by decide +kernel
theorem dX1_numberStanding_45 : decode cX1_numberStanding 45 = .ok (.ireturn, 1) := by decide +kernel
set_option maxRecDepth 20000 in
theorem ggX1_numberAtFoot_X1_number : GoodIn wsX1_numberAtFoot wsX1_number := goodIn_r _ [6, 7, 8, 18, 19, 20, 21, 22, 23, 24, 25, 26, 27, 28, 29] (by decide +kernel) (by decide +kernel)
set_option maxRecDepth 20000 in
theorem gX1_numberAtFoot_X1_number : GoodIn wsX1_numberAtFoot (wsV RX1 80 RX1 yX1_number wsX1_number) := goodIn_app (goodIn_of _ (by decide +kernel)) ggX1_numberAtFoot_X1_number
set_option maxRecDepth 20000 in
theorem ggX1_numberAtFoot_X1_numberStanding : GoodIn wsX1_numberAtFoot wsX1_numberStanding := goodIn_r _ [12, 7, 8, 13, 14, 15, 5, 16, 1, 17, 18, 19, 20, 21, 22, 23, 24, 25, 26, 27, 28, 29] (by decide +kernel) (by decide +kernel)
set_option maxRecDepth 20000 in
theorem gX1_numberAtFoot_X1_numberStanding : GoodIn wsX1_numberAtFoot (wsV RX1 83 RX1 yX1_numberStanding wsX1_numberStanding) := goodIn_app (goodIn_of _ (by decide +kernel)) ggX1_numberAtFoot_X1_numberStanding
theorem dX1_numberAtFoot_0 : decode cX1_numberAtFoot 0 = .ok (.aload_n 0, 1) := by decide +kernel
theorem dX1_numberAtFoot_1 : decode cX1_numberAtFoot 1 = .ok (.getfield 46, 3) := by decide +kernel
theorem dX1_numberAtFoot_4 : decode cX1_numberAtFoot 4 = .ok (.ifCond .eq 17, 3) := by decide +kernel
theorem dX1_numberAtFoot_7 : decode cX1_numberAtFoot 7 = .ok (.aload_n 0, 1) := by decide +kernel
theorem dX1_numberAtFoot_8 : decode cX1_numberAtFoot 8 = .ok (.iload_n 1, 1) := by decide +kernel
theorem dX1_numberAtFoot_9 : decode cX1_numberAtFoot 9 = .ok (.invokevirtual 80, 3) := by decide +kernel
theorem dX1_numberAtFoot_12 : decode cX1_numberAtFoot 12 = .ok (.aload_n 0, 1) := by decide +kernel
theorem dX1_numberAtFoot_13 : decode cX1_numberAtFoot 13 = .ok (.iload_n 1, 1) := by decide +kernel
theorem dX1_numberAtFoot_14 : decode cX1_numberAtFoot 14 = .ok (.invokevirtual 83, 3) := by decide +kernel
theorem dX1_numberAtFoot_17 : decode cX1_numberAtFoot 17 = .ok (.isub, 1) := by decide +kernel
theorem dX1_numberAtFoot_18 : decode cX1_numberAtFoot 18 = .ok (.goto 4, 3) := by decide +kernel
theorem dX1_numberAtFoot_21 : decode cX1_numberAtFoot 21 = .ok (.iconst 0, 1) := by decide +kernel
theorem dX1_numberAtFoot_22 : decode cX1_numberAtFoot 22 = .ok (.ireturn, 1) := by decide +kernel
set_option maxRecDepth 20000 in
theorem ggX1_allAtFoot_X1_numberAtFoot : GoodIn wsX1_allAtFoot wsX1_numberAtFoot := goodIn_r _ [7, 8, 9, 10, 11, 6, 12, 13, 14, 15, 16, 17, 18, 19, 20, 21, 22, 23, 24, 25, 26, 27, 28, 29, 30, 31, 32, 33, 34, 35] (by decide +kernel) (by decide +kernel)
set_option maxRecDepth 20000 in
theorem gX1_allAtFoot_X1_numberAtFoot : GoodIn wsX1_allAtFoot (wsV RX1 88 RX1 yX1_numberAtFoot wsX1_numberAtFoot) := goodIn_app (goodIn_of _ (by decide +kernel)) ggX1_allAtFoot_X1_numberAtFoot
theorem dX1_allAtFoot_0 : decode cX1_allAtFoot 0 = .ok (.iconst 0, 1) := by decide +kernel
theorem dX1_allAtFoot_1 : decode cX1_allAtFoot 1 = .ok (.istore_n 1, 1) := by decide +kernel
theorem dX1_allAtFoot_2 : decode cX1_allAtFoot 2 = .ok (.iconst 0, 1) := by decide +kernel
theorem dX1_allAtFoot_3 : decode cX1_allAtFoot 3 = .ok (.istore_n 2, 1) := by decide +kernel
theorem dX1_allAtFoot_4 : decode cX1_allAtFoot 4 = .ok (.iload_n 2, 1) := by decide +kernel
theorem dX1_allAtFoot_5 : decode cX1_allAtFoot 5 = .ok (.aload_n 0, 1) := by decide +kernel
theorem dX1_allAtFoot_6 : decode cX1_allAtFoot 6 = .ok (.getfield 34, 3) := by decide +kernel
theorem dX1_allAtFoot_9 : decode cX1_allAtFoot 9 = .ok (.getfield 86, 3) := by decide +kernel
theorem dX1_allAtFoot_12 : decode cX1_allAtFoot 12 = .ok (.if_icmp .ge 17, 3) := by decide +kernel
theorem dX1_allAtFoot_15 : decode cX1_allAtFoot 15 = .ok (.iload_n 1, 1) := by decide +kernel
theorem dX1_allAtFoot_16 : decode cX1_allAtFoot 16 = .ok (.aload_n 0, 1) := by decide +kernel
theorem dX1_allAtFoot_17 : decode cX1_allAtFoot 17 = .ok (.iload_n 2, 1) := by decide +kernel
theorem dX1_allAtFoot_18 : decode cX1_allAtFoot 18 = .ok (.invokevirtual 88, 3) := by decide +kernel
theorem dX1_allAtFoot_21 : decode cX1_allAtFoot 21 = .ok (.iadd, 1) := by decide +kernel
theorem dX1_allAtFoot_22 : decode cX1_allAtFoot 22 = .ok (.istore_n 1, 1) := by decide +kernel
theorem dX1_allAtFoot_23 : decode cX1_allAtFoot 23 = .ok (.iinc 2 1, 3) := by decide +kernel
theorem dX1_allAtFoot_26 : decode cX1_allAtFoot 26 = .ok (.goto (-22), 3) := by decide +kernel
theorem dX1_allAtFoot_29 : decode cX1_allAtFoot 29 = .ok (.iload_n 1, 1) := by decide +kernel
theorem dX1_allAtFoot_30 : decode cX1_allAtFoot 30 = .ok (.ireturn, 1) := by decide +kernel
set_option maxRecDepth 20000 in
theorem ggX1_raise_X1_layAnew : GoodIn wsX1_raise wsX1_layAnew := goodIn_r _ [8, 2, 3, 9, 10, 11, 12, 13, 14, 15, 16, 17, 18, 19, 20, 21] (by decide +kernel) (by decide +kernel)
set_option maxRecDepth 20000 in
theorem gX1_raise_X1_layAnew : GoodIn wsX1_raise (wsV RX1 91 RX1 yX1_layAnew wsX1_layAnew) := goodIn_app (goodIn_of _ (by decide +kernel)) ggX1_raise_X1_layAnew
theorem dX1_raise_0 : decode cX1_raise 0 = .ok (.aload_n 0, 1) := by decide +kernel
theorem dX1_raise_1 : decode cX1_raise 1 = .ok (.iconst 1, 1) := by decide +kernel
theorem dX1_raise_2 : decode cX1_raise 2 = .ok (.putfield 46, 3) := by decide +kernel
theorem dX1_raise_5 : decode cX1_raise 5 = .ok (.iconst 0, 1) := by decide +kernel
theorem dX1_raise_6 : decode cX1_raise 6 = .ok (.istore_n 1, 1) := by decide +kernel
theorem dX1_raise_7 : decode cX1_raise 7 = .ok (.iload_n 1, 1) := by decide +kernel
theorem dX1_raise_8 : decode cX1_raise 8 = .ok (.aload_n 0, 1) := by decide +kernel
theorem dX1_raise_9 : decode cX1_raise 9 = .ok (.getfield 42, 3) := by decide +kernel
theorem dX1_raise_12 : decode cX1_raise 12 = .ok (.if_icmp .ge 16, 3) := by decide +kernel
theorem dX1_raise_15 : decode cX1_raise 15 = .ok (.aload_n 0, 1) := by decide +kernel
theorem dX1_raise_16 : decode cX1_raise 16 = .ok (.getfield 27, 3) := by decide +kernel
theorem dX1_raise_19 : decode cX1_raise 19 = .ok (.iload_n 1, 1) := by decide +kernel
theorem dX1_raise_20 : decode cX1_raise 20 = .ok (.iconst 0, 1) := by decide +kernel
theorem dX1_raise_21 : decode cX1_raise 21 = .ok (.bastore, 1) := by decide +kernel
theorem dX1_raise_22 : decode cX1_raise 22 = .ok (.iinc 1 1, 3) := by decide +kernel
theorem dX1_raise_25 : decode cX1_raise 25 = .ok (.goto (-18), 3) := by decide +kernel
theorem dX1_raise_28 : decode cX1_raise 28 = .ok (.aload_n 0, 1) := by decide +kernel
theorem dX1_raise_29 : decode cX1_raise 29 = .ok (.invokevirtual 91, 3) := by decide +kernel
theorem dX1_raise_32 : decode cX1_raise 32 = .ok (.pop, 1) := by decide +kernel
theorem dX1_raise_33 : decode cX1_raise 33 = .ok (.return_, 1) := by decide +kernel
theorem dX1_layAnew_0 : decode cX1_layAnew 0 = .ok (.iconst 0, 1) := by decide +kernel
theorem dX1_layAnew_1 : decode cX1_layAnew 1 = .ok (.istore_n 1, 1) := by decide +kernel
theorem dX1_layAnew_2 : decode cX1_layAnew 2 = .ok (.iconst 0, 1) := by decide +kernel
theorem dX1_layAnew_3 : decode cX1_layAnew 3 = .ok (.istore_n 2, 1) := by decide +kernel
theorem dX1_layAnew_4 : decode cX1_layAnew 4 = .ok (.iload_n 2, 1) := by decide +kernel
theorem dX1_layAnew_5 : decode cX1_layAnew 5 = .ok (.aload_n 0, 1) := by decide +kernel
theorem dX1_layAnew_6 : decode cX1_layAnew 6 = .ok (.getfield 42, 3) := by decide +kernel
theorem dX1_layAnew_9 : decode cX1_layAnew 9 = .ok (.if_icmp .ge 36, 3) := by decide +kernel
theorem dX1_layAnew_12 : decode cX1_layAnew 12 = .ok (.aload_n 0, 1) := by decide +kernel
theorem dX1_layAnew_13 : decode cX1_layAnew 13 = .ok (.getfield 27, 3) := by decide +kernel
theorem dX1_layAnew_16 : decode cX1_layAnew 16 = .ok (.iload_n 2, 1) := by decide +kernel
theorem dX1_layAnew_17 : decode cX1_layAnew 17 = .ok (.baload, 1) := by decide +kernel
theorem dX1_layAnew_18 : decode cX1_layAnew 18 = .ok (.ifCond .ne 21, 3) := by decide +kernel
theorem dX1_layAnew_21 : decode cX1_layAnew 21 = .ok (.aload_n 0, 1) := by decide +kernel
theorem dX1_layAnew_22 : decode cX1_layAnew 22 = .ok (.getfield 27, 3) := by decide +kernel
theorem dX1_layAnew_25 : decode cX1_layAnew 25 = .ok (.iload_n 2, 1) := by decide +kernel
theorem dX1_layAnew_26 : decode cX1_layAnew 26 = .ok (.iconst 1, 1) := by decide +kernel
theorem dX1_layAnew_27 : decode cX1_layAnew 27 = .ok (.bastore, 1) := by decide +kernel
theorem dX1_layAnew_28 : decode cX1_layAnew 28 = .ok (.aload_n 0, 1) := by decide +kernel
theorem dX1_layAnew_29 : decode cX1_layAnew 29 = .ok (.getfield 21, 3) := by decide +kernel
theorem dX1_layAnew_32 : decode cX1_layAnew 32 = .ok (.iload_n 2, 1) := by decide +kernel
theorem dX1_layAnew_33 : decode cX1_layAnew 33 = .ok (.bipush 99, 2) := by decide +kernel
theorem dX1_layAnew_35 : decode cX1_layAnew 35 = .ok (.iastore, 1) := by decide +kernel
theorem dX1_layAnew_36 : decode cX1_layAnew 36 = .ok (.iinc 1 1, 3) := by decide +kernel
theorem dX1_layAnew_39 : decode cX1_layAnew 39 = .ok (.iinc 2 1, 3) := by decide +kernel
theorem dX1_layAnew_42 : decode cX1_layAnew 42 = .ok (.goto (-38), 3) := by decide +kernel
theorem dX1_layAnew_45 : decode cX1_layAnew 45 = .ok (.iload_n 1, 1) := by decide +kernel
theorem dX1_layAnew_46 : decode cX1_layAnew 46 = .ok (.ireturn, 1) := by decide +kernel
set_option maxRecDepth 20000 in
theorem ggX1_loosen_X1_standsBeside : GoodIn wsX1_loosen wsX1_standsBeside := goodIn_r _ [12, 1, 13, 2, 14, 15, 16, 17, 18, 19, 20, 21, 22, 23, 24, 25] (by decide +kernel) (by decide +kernel)
set_option maxRecDepth 20000 in
theorem gX1_loosen_X1_standsBeside : GoodIn wsX1_loosen (wsV RX1 95 RX1 yX1_standsBeside wsX1_standsBeside) := goodIn_app (goodIn_of _ (by decide +kernel)) ggX1_loosen_X1_standsBeside
theorem dX1_loosen_0 : decode cX1_loosen 0 = .ok (.iconst 0, 1) := by decide +kernel
theorem dX1_loosen_1 : decode cX1_loosen 1 = .ok (.istore_n 2, 1) := by decide +kernel
theorem dX1_loosen_2 : decode cX1_loosen 2 = .ok (.iload_n 2, 1) := by decide +kernel
theorem dX1_loosen_3 : decode cX1_loosen 3 = .ok (.aload_n 0, 1) := by decide +kernel
theorem dX1_loosen_4 : decode cX1_loosen 4 = .ok (.getfield 42, 3) := by decide +kernel
theorem dX1_loosen_7 : decode cX1_loosen 7 = .ok (.if_icmp .ge 74, 3) := by decide +kernel
theorem dX1_loosen_10 : decode cX1_loosen 10 = .ok (.aload_n 0, 1) := by decide +kernel
theorem dX1_loosen_11 : decode cX1_loosen 11 = .ok (.getfield 27, 3) := by decide +kernel
theorem dX1_loosen_14 : decode cX1_loosen 14 = .ok (.iload_n 2, 1) := by decide +kernel
theorem dX1_loosen_15 : decode cX1_loosen 15 = .ok (.baload, 1) := by decide +kernel
theorem dX1_loosen_16 : decode cX1_loosen 16 = .ok (.ifCond .eq 59, 3) := by decide +kernel
theorem dX1_loosen_19 : decode cX1_loosen 19 = .ok (.aload_n 0, 1) := by decide +kernel
theorem dX1_loosen_20 : decode cX1_loosen 20 = .ok (.iload_n 2, 1) := by decide +kernel
theorem dX1_loosen_21 : decode cX1_loosen 21 = .ok (.iload_n 2, 1) := by decide +kernel
theorem dX1_loosen_22 : decode cX1_loosen 22 = .ok (.iconst 1, 1) := by decide +kernel
theorem dX1_loosen_23 : decode cX1_loosen 23 = .ok (.isub, 1) := by decide +kernel
theorem dX1_loosen_24 : decode cX1_loosen 24 = .ok (.invokevirtual 95, 3) := by decide +kernel
theorem dX1_loosen_27 : decode cX1_loosen 27 = .ok (.ifCond .eq 7, 3) := by decide +kernel
theorem dX1_loosen_30 : decode cX1_loosen 30 = .ok (.iconst 0, 1) := by decide +kernel
theorem dX1_loosen_31 : decode cX1_loosen 31 = .ok (.goto 4, 3) := by decide +kernel
theorem dX1_loosen_34 : decode cX1_loosen 34 = .ok (.iconst 1, 1) := by decide +kernel
theorem dX1_loosen_35 : decode cX1_loosen 35 = .ok (.aload_n 0, 1) := by decide +kernel
theorem dX1_loosen_36 : decode cX1_loosen 36 = .ok (.iload_n 2, 1) := by decide +kernel
theorem dX1_loosen_37 : decode cX1_loosen 37 = .ok (.iload_n 2, 1) := by decide +kernel
theorem dX1_loosen_38 : decode cX1_loosen 38 = .ok (.iconst 1, 1) := by decide +kernel
theorem dX1_loosen_39 : decode cX1_loosen 39 = .ok (.iadd, 1) := by decide +kernel
theorem dX1_loosen_40 : decode cX1_loosen 40 = .ok (.invokevirtual 95, 3) := by decide +kernel
theorem dX1_loosen_43 : decode cX1_loosen 43 = .ok (.ifCond .eq 7, 3) := by decide +kernel
theorem dX1_loosen_46 : decode cX1_loosen 46 = .ok (.iconst 0, 1) := by decide +kernel
theorem dX1_loosen_47 : decode cX1_loosen 47 = .ok (.goto 4, 3) := by decide +kernel
theorem dX1_loosen_50 : decode cX1_loosen 50 = .ok (.iconst 1, 1) := by decide +kernel
theorem dX1_loosen_51 : decode cX1_loosen 51 = .ok (.iadd, 1) := by decide +kernel
theorem dX1_loosen_52 : decode cX1_loosen 52 = .ok (.istore_n 3, 1) := by decide +kernel
theorem dX1_loosen_53 : decode cX1_loosen 53 = .ok (.aload_n 0, 1) := by decide +kernel
theorem dX1_loosen_54 : decode cX1_loosen 54 = .ok (.getfield 21, 3) := by decide +kernel
theorem dX1_loosen_57 : decode cX1_loosen 57 = .ok (.iload_n 2, 1) := by decide +kernel
theorem dX1_loosen_58 : decode cX1_loosen 58 = .ok (.iconst 0, 1) := by decide +kernel
theorem dX1_loosen_59 : decode cX1_loosen 59 = .ok (.aload_n 0, 1) := by decide +kernel
theorem dX1_loosen_60 : decode cX1_loosen 60 = .ok (.getfield 21, 3) := by decide +kernel
theorem dX1_loosen_63 : decode cX1_loosen 63 = .ok (.iload_n 2, 1) := by decide +kernel
theorem dX1_loosen_64 : decode cX1_loosen 64 = .ok (.iaload, 1) := by decide +kernel
theorem dX1_loosen_65 : decode cX1_loosen 65 = .ok (.iload_n 1, 1) := by decide +kernel
theorem dX1_loosen_66 : decode cX1_loosen 66 = .ok (.iconst 1, 1) := by decide +kernel
theorem dX1_loosen_67 : decode cX1_loosen 67 = .ok (.iload_n 3, 1) := by decide +kernel
theorem dX1_loosen_68 : decode cX1_loosen 68 = .ok (.iadd, 1) := by decide +kernel
theorem dX1_loosen_69 : decode cX1_loosen 69 = .ok (.imul, 1) := by decide +kernel
theorem dX1_loosen_70 : decode cX1_loosen 70 = .ok (.isub, 1) := by decide +kernel
theorem dX1_loosen_71 : decode cX1_loosen 71 = .ok (.invokestatic 67, 3) := by decide +kernel
theorem dX1_loosen_74 : decode cX1_loosen 74 = .ok (.iastore, 1) := by decide +kernel
theorem dX1_loosen_75 : decode cX1_loosen 75 = .ok (.iinc 2 1, 3) := by decide +kernel
theorem dX1_loosen_78 : decode cX1_loosen 78 = .ok (.goto (-76), 3) := by decide +kernel
theorem dX1_loosen_81 : decode cX1_loosen 81 = .ok (.return_, 1) := by decide +kernel
theorem dX1_standsBeside_0 : decode cX1_standsBeside 0 = .ok (.iload_n 2, 1) := by decide +kernel
theorem dX1_standsBeside_1 : decode cX1_standsBeside 1 = .ok (.ifCond .lt 39, 3) := by decide +kernel
theorem dX1_standsBeside_4 : decode cX1_standsBeside 4 = .ok (.iload_n 2, 1) := by decide +kernel
theorem dX1_standsBeside_5 : decode cX1_standsBeside 5 = .ok (.aload_n 0, 1) := by decide +kernel
theorem dX1_standsBeside_6 : decode cX1_standsBeside 6 = .ok (.getfield 42, 3) := by decide +kernel
theorem dX1_standsBeside_9 : decode cX1_standsBeside 9 = .ok (.if_icmp .ge 31, 3) := by decide +kernel
theorem dX1_standsBeside_12 : decode cX1_standsBeside 12 = .ok (.aload_n 0, 1) := by decide +kernel
theorem dX1_standsBeside_13 : decode cX1_standsBeside 13 = .ok (.getfield 15, 3) := by decide +kernel
theorem dX1_standsBeside_16 : decode cX1_standsBeside 16 = .ok (.iload_n 2, 1) := by decide +kernel
theorem dX1_standsBeside_17 : decode cX1_standsBeside 17 = .ok (.iaload, 1) := by decide +kernel
theorem dX1_standsBeside_18 : decode cX1_standsBeside 18 = .ok (.aload_n 0, 1) := by decide +kernel
theorem dX1_standsBeside_19 : decode cX1_standsBeside 19 = .ok (.getfield 15, 3) := by decide +kernel
theorem dX1_standsBeside_22 : decode cX1_standsBeside 22 = .ok (.iload_n 1, 1) := by decide +kernel
theorem dX1_standsBeside_23 : decode cX1_standsBeside 23 = .ok (.iaload, 1) := by decide +kernel
theorem dX1_standsBeside_24 : decode cX1_standsBeside 24 = .ok (.if_icmp .ne 16, 3) := by decide +kernel
theorem dX1_standsBeside_27 : decode cX1_standsBeside 27 = .ok (.aload_n 0, 1) := by decide +kernel
theorem dX1_standsBeside_28 : decode cX1_standsBeside 28 = .ok (.getfield 27, 3) := by decide +kernel
theorem dX1_standsBeside_31 : decode cX1_standsBeside 31 = .ok (.iload_n 2, 1) := by decide +kernel
theorem dX1_standsBeside_32 : decode cX1_standsBeside 32 = .ok (.baload, 1) := by decide +kernel
theorem dX1_standsBeside_33 : decode cX1_standsBeside 33 = .ok (.ifCond .eq 7, 3) := by decide +kernel
theorem dX1_standsBeside_36 : decode cX1_standsBeside 36 = .ok (.iconst 1, 1) := by decide +kernel
theorem dX1_standsBeside_37 : decode cX1_standsBeside 37 = .ok (.goto 4, 3) := by decide +kernel
theorem dX1_standsBeside_40 : decode cX1_standsBeside 40 = .ok (.iconst 0, 1) := by decide +kernel
theorem dX1_standsBeside_41 : decode cX1_standsBeside 41 = .ok (.ireturn, 1) := by decide +kernel
set_option maxRecDepth 20000 in
theorem ggX1_letSlip_J7_fill_53178 : GoodIn wsX1_letSlip wsJ7_fill_53178 := goodIn_r _ [9] (by decide +kernel) (by decide +kernel)
set_option maxRecDepth 20000 in
theorem gX1_letSlip_J7_fill_53178 : GoodIn wsX1_letSlip (va_wsS RX1 99 yJ7_fill_53178 wsJ7_fill_53178) := goodIn_app (goodIn_of _ (by decide +kernel)) ggX1_letSlip_J7_fill_53178
set_option maxRecDepth 20000 in
theorem ggX1_letSlip_X1_isBorne : GoodIn wsX1_letSlip wsX1_isBorne := goodIn_r _ [14, 5, 1, 15, 16, 17, 18, 13, 19, 20, 21, 22, 23, 24, 25, 26, 27, 28, 29, 30, 31, 32, 33, 34, 35, 36, 37, 38, 39, 40, 41, 42, 43, 44, 45, 46, 47, 48, 49, 50, 51, 52] (by decide +kernel) (by decide +kernel)
set_option maxRecDepth 20000 in
theorem gX1_letSlip_X1_isBorne : GoodIn wsX1_letSlip (wsV RX1 105 RX1 yX1_isBorne wsX1_isBorne) := goodIn_app (goodIn_of _ (by decide +kernel)) ggX1_letSlip_X1_isBorne
set_option maxRecDepth 20000 in
theorem ggX1_letSlip_X1_placesOf : GoodIn wsX1_letSlip wsX1_placesOf := goodIn_r _ [19, 15, 20, 21, 22, 13, 23, 24, 25, 26, 34, 35, 36, 37, 38, 39, 40, 41, 42, 43, 44, 45, 46, 47, 48, 49, 50, 51, 52] (by decide +kernel) (by decide +kernel)
set_option maxRecDepth 20000 in
theorem gX1_letSlip_X1_placesOf : GoodIn wsX1_letSlip (wsV RX1 108 RX1 yX1_placesOf wsX1_placesOf) := goodIn_app (goodIn_of _ (by decide +kernel)) ggX1_letSlip_X1_placesOf
theorem dX1_letSlip_0 : decode cX1_letSlip 0 = .ok (.iconst 0, 1) := by decide +kernel
theorem dX1_letSlip_1 : decode cX1_letSlip 1 = .ok (.istore_n 1, 1) := by decide +kernel
theorem dX1_letSlip_2 : decode cX1_letSlip 2 = .ok (.aload_n 0, 1) := by decide +kernel
theorem dX1_letSlip_3 : decode cX1_letSlip 3 = .ok (.getfield 31, 3) := by decide +kernel
theorem dX1_letSlip_6 : decode cX1_letSlip 6 = .ok (.iconst 0, 1) := by decide +kernel
theorem dX1_letSlip_7 : decode cX1_letSlip 7 = .ok (.invokestatic 99, 3) := by decide +kernel
theorem dX1_letSlip_10 : decode cX1_letSlip 10 = .ok (.iconst 0, 1) := by decide +kernel
theorem dX1_letSlip_11 : decode cX1_letSlip 11 = .ok (.istore_n 2, 1) := by decide +kernel
theorem dX1_letSlip_12 : decode cX1_letSlip 12 = .ok (.iload_n 2, 1) := by decide +kernel
theorem dX1_letSlip_13 : decode cX1_letSlip 13 = .ok (.aload_n 0, 1) := by decide +kernel
theorem dX1_letSlip_14 : decode cX1_letSlip 14 = .ok (.getfield 42, 3) := by decide +kernel
theorem dX1_letSlip_17 : decode cX1_letSlip 17 = .ok (.if_icmp .ge 73, 3) := by decide +kernel
theorem dX1_letSlip_20 : decode cX1_letSlip 20 = .ok (.aload_n 0, 1) := by decide +kernel
theorem dX1_letSlip_21 : decode cX1_letSlip 21 = .ok (.getfield 27, 3) := by decide +kernel
theorem dX1_letSlip_24 : decode cX1_letSlip 24 = .ok (.iload_n 2, 1) := by decide +kernel
theorem dX1_letSlip_25 : decode cX1_letSlip 25 = .ok (.baload, 1) := by decide +kernel
theorem dX1_letSlip_26 : decode cX1_letSlip 26 = .ok (.ifCond .eq 30, 3) := by decide +kernel
theorem dX1_letSlip_29 : decode cX1_letSlip 29 = .ok (.aload_n 0, 1) := by decide +kernel
theorem dX1_letSlip_30 : decode cX1_letSlip 30 = .ok (.getfield 21, 3) := by decide +kernel
theorem dX1_letSlip_33 : decode cX1_letSlip 33 = .ok (.iload_n 2, 1) := by decide +kernel
theorem dX1_letSlip_34 : decode cX1_letSlip 34 = .ok (.iaload, 1) := by decide +kernel
theorem dX1_letSlip_35 : decode cX1_letSlip 35 = .ok (.ifCond .eq 11, 3) := by decide +kernel
theorem dX1_letSlip_38 : decode cX1_letSlip 38 = .ok (.aload_n 0, 1) := by decide +kernel
theorem dX1_letSlip_39 : decode cX1_letSlip 39 = .ok (.iload_n 2, 1) := by decide +kernel
theorem dX1_letSlip_40 : decode cX1_letSlip 40 = .ok (.invokevirtual 105, 3) := by decide +kernel
theorem dX1_letSlip_43 : decode cX1_letSlip 43 = .ok (.ifCond .ne 13, 3) := by decide +kernel
theorem dX1_letSlip_46 : decode cX1_letSlip 46 = .ok (.aload_n 0, 1) := by decide +kernel
theorem dX1_letSlip_47 : decode cX1_letSlip 47 = .ok (.getfield 27, 3) := by decide +kernel
theorem dX1_letSlip_50 : decode cX1_letSlip 50 = .ok (.iload_n 2, 1) := by decide +kernel
theorem dX1_letSlip_51 : decode cX1_letSlip 51 = .ok (.iconst 0, 1) := by decide +kernel
theorem dX1_letSlip_52 : decode cX1_letSlip 52 = .ok (.bastore, 1) := by decide +kernel
theorem dX1_letSlip_53 : decode cX1_letSlip 53 = .ok (.iinc 1 1, 3) := by decide +kernel
theorem dX1_letSlip_56 : decode cX1_letSlip 56 = .ok (.aload_n 0, 1) := by decide +kernel
theorem dX1_letSlip_57 : decode cX1_letSlip 57 = .ok (.getfield 27, 3) := by decide +kernel
theorem dX1_letSlip_60 : decode cX1_letSlip 60 = .ok (.iload_n 2, 1) := by decide +kernel
theorem dX1_letSlip_61 : decode cX1_letSlip 61 = .ok (.baload, 1) := by decide +kernel
theorem dX1_letSlip_62 : decode cX1_letSlip 62 = .ok (.ifCond .eq 22, 3) := by decide +kernel
theorem dX1_letSlip_65 : decode cX1_letSlip 65 = .ok (.aload_n 0, 1) := by decide +kernel
theorem dX1_letSlip_66 : decode cX1_letSlip 66 = .ok (.getfield 31, 3) := by decide +kernel
theorem dX1_letSlip_69 : decode cX1_letSlip 69 = .ok (.aload_n 0, 1) := by decide +kernel
theorem dX1_letSlip_70 : decode cX1_letSlip 70 = .ok (.getfield 15, 3) := by decide +kernel
theorem dX1_letSlip_73 : decode cX1_letSlip 73 = .ok (.iload_n 2, 1) := by decide +kernel
theorem dX1_letSlip_74 : decode cX1_letSlip 74 = .ok (.iaload, 1) := by decide +kernel
theorem dX1_letSlip_75 : decode cX1_letSlip 75 = .ok (.dup2, 1) := by decide +kernel
theorem dX1_letSlip_76 : decode cX1_letSlip 76 = .ok (.iaload, 1) := by decide +kernel
theorem dX1_letSlip_77 : decode cX1_letSlip 77 = .ok (.aload_n 0, 1) := by decide +kernel
theorem dX1_letSlip_78 : decode cX1_letSlip 78 = .ok (.iload_n 2, 1) := by decide +kernel
theorem dX1_letSlip_79 : decode cX1_letSlip 79 = .ok (.invokevirtual 108, 3) := by decide +kernel
theorem dX1_letSlip_82 : decode cX1_letSlip 82 = .ok (.ior, 1) := by decide +kernel
theorem dX1_letSlip_83 : decode cX1_letSlip 83 = .ok (.iastore, 1) := by decide +kernel
theorem dX1_letSlip_84 : decode cX1_letSlip 84 = .ok (.iinc 2 1, 3) := by decide +kernel
theorem dX1_letSlip_87 : decode cX1_letSlip 87 = .ok (.goto (-75), 3) := by decide +kernel
theorem dX1_letSlip_90 : decode cX1_letSlip 90 = .ok (.iload_n 1, 1) := by decide +kernel
theorem dX1_letSlip_91 : decode cX1_letSlip 91 = .ok (.ireturn, 1) := by decide +kernel
set_option maxRecDepth 20000 in
theorem ggX1_isBorne_X1_placesOf : GoodIn wsX1_isBorne wsX1_placesOf := goodIn_r _ [8, 3, 9, 10, 11, 7, 12, 13, 14, 15, 23, 24, 25, 26, 27, 28, 29, 30, 31, 32, 33, 34, 35, 36, 37, 38, 39, 40, 41] (by decide +kernel) (by decide +kernel)
set_option maxRecDepth 20000 in
theorem gX1_isBorne_X1_placesOf : GoodIn wsX1_isBorne (wsV RX1 108 RX1 yX1_placesOf wsX1_placesOf) := goodIn_app (goodIn_of _ (by decide +kernel)) ggX1_isBorne_X1_placesOf
set_option maxRecDepth 20000 in
theorem ggX1_isBorne_J6_bitCount_0f7a4 : GoodIn wsX1_isBorne wsJ6_bitCount_0f7a4 := goodIn_r _ [19, 20, 21, 22] (by decide +kernel) (by decide +kernel)
set_option maxRecDepth 20000 in
theorem gX1_isBorne_J6_bitCount_0f7a4 : GoodIn wsX1_isBorne (va_wsS RX1 111 yJ6_bitCount_0f7a4 wsJ6_bitCount_0f7a4) := goodIn_app (goodIn_of _ (by decide +kernel)) ggX1_isBorne_J6_bitCount_0f7a4
set_option maxRecDepth 20000 in
theorem ggX1_isBorne_X1_end : GoodIn wsX1_isBorne wsX1_end := goodIn_r _ [12, 3, 13, 14, 15, 23, 24, 25, 26, 27, 28, 29, 30, 31, 32, 33, 34, 35, 36, 37, 38, 39, 40, 41] (by decide +kernel) (by decide +kernel)
set_option maxRecDepth 20000 in
theorem gX1_isBorne_X1_end : GoodIn wsX1_isBorne (wsV RX1 116 RX1 yX1_end wsX1_end) := goodIn_app (goodIn_of _ (by decide +kernel)) ggX1_isBorne_X1_end
theorem dX1_isBorne_0 : decode cX1_isBorne 0 = .ok (.aload_n 0, 1) := by decide +kernel
theorem dX1_isBorne_1 : decode cX1_isBorne 1 = .ok (.getfield 15, 3) := by decide +kernel
theorem dX1_isBorne_4 : decode cX1_isBorne 4 = .ok (.iload_n 1, 1) := by decide +kernel
theorem dX1_isBorne_5 : decode cX1_isBorne 5 = .ok (.iaload, 1) := by decide +kernel
theorem dX1_isBorne_6 : decode cX1_isBorne 6 = .ok (.iconst 1, 1) := by decide +kernel
theorem dX1_isBorne_7 : decode cX1_isBorne 7 = .ok (.isub, 1) := by decide +kernel
theorem dX1_isBorne_8 : decode cX1_isBorne 8 = .ok (.istore_n 2, 1) := by decide +kernel
theorem dX1_isBorne_9 : decode cX1_isBorne 9 = .ok (.iload_n 2, 1) := by decide +kernel
theorem dX1_isBorne_10 : decode cX1_isBorne 10 = .ok (.ifCond .lt 35, 3) := by decide +kernel
theorem dX1_isBorne_13 : decode cX1_isBorne 13 = .ok (.iconst 2, 1) := by decide +kernel
theorem dX1_isBorne_14 : decode cX1_isBorne 14 = .ok (.aload_n 0, 1) := by decide +kernel
theorem dX1_isBorne_15 : decode cX1_isBorne 15 = .ok (.iload_n 1, 1) := by decide +kernel
theorem dX1_isBorne_16 : decode cX1_isBorne 16 = .ok (.invokevirtual 108, 3) := by decide +kernel
theorem dX1_isBorne_19 : decode cX1_isBorne 19 = .ok (.aload_n 0, 1) := by decide +kernel
theorem dX1_isBorne_20 : decode cX1_isBorne 20 = .ok (.getfield 31, 3) := by decide +kernel
theorem dX1_isBorne_23 : decode cX1_isBorne 23 = .ok (.iload_n 2, 1) := by decide +kernel
theorem dX1_isBorne_24 : decode cX1_isBorne 24 = .ok (.iaload, 1) := by decide +kernel
theorem dX1_isBorne_25 : decode cX1_isBorne 25 = .ok (.iand, 1) := by decide +kernel
theorem dX1_isBorne_26 : decode cX1_isBorne 26 = .ok (.invokestatic 111, 3) := by decide +kernel
theorem dX1_isBorne_29 : decode cX1_isBorne 29 = .ok (.imul, 1) := by decide +kernel
theorem dX1_isBorne_30 : decode cX1_isBorne 30 = .ok (.aload_n 0, 1) := by decide +kernel
theorem dX1_isBorne_31 : decode cX1_isBorne 31 = .ok (.iload_n 1, 1) := by decide +kernel
theorem dX1_isBorne_32 : decode cX1_isBorne 32 = .ok (.invokevirtual 116, 3) := by decide +kernel
theorem dX1_isBorne_35 : decode cX1_isBorne 35 = .ok (.aload_n 0, 1) := by decide +kernel
theorem dX1_isBorne_36 : decode cX1_isBorne 36 = .ok (.getfield 18, 3) := by decide +kernel
theorem dX1_isBorne_39 : decode cX1_isBorne 39 = .ok (.iload_n 1, 1) := by decide +kernel
theorem dX1_isBorne_40 : decode cX1_isBorne 40 = .ok (.iaload, 1) := by decide +kernel
theorem dX1_isBorne_41 : decode cX1_isBorne 41 = .ok (.isub, 1) := by decide +kernel
theorem dX1_isBorne_42 : decode cX1_isBorne 42 = .ok (.if_icmp .lt 7, 3) := by decide +kernel
theorem dX1_isBorne_45 : decode cX1_isBorne 45 = .ok (.iconst 1, 1) := by decide +kernel
theorem dX1_isBorne_46 : decode cX1_isBorne 46 = .ok (.goto 4, 3) := by decide +kernel
theorem dX1_isBorne_49 : decode cX1_isBorne 49 = .ok (.iconst 0, 1) := by decide +kernel
theorem dX1_isBorne_50 : decode cX1_isBorne 50 = .ok (.ireturn, 1) := by decide +kernel
set_option maxRecDepth 20000 in
theorem ggX1_placesOf_X1_end : GoodIn wsX1_placesOf wsX1_end := goodIn_r _ [6, 1, 7, 8, 9, 10, 11, 12, 13, 14, 15, 16, 17, 18, 19, 20, 21, 22, 23, 24, 25, 26, 27, 28] (by decide +kernel) (by decide +kernel)
set_option maxRecDepth 20000 in
theorem gX1_placesOf_X1_end : GoodIn wsX1_placesOf (wsV RX1 116 RX1 yX1_end wsX1_end) := goodIn_app (goodIn_of _ (by decide +kernel)) ggX1_placesOf_X1_end
theorem dX1_placesOf_0 : decode cX1_placesOf 0 = .ok (.iconst 1, 1) := by decide +kernel
theorem dX1_placesOf_1 : decode cX1_placesOf 1 = .ok (.aload_n 0, 1) := by decide +kernel
theorem dX1_placesOf_2 : decode cX1_placesOf 2 = .ok (.iload_n 1, 1) := by decide +kernel
theorem dX1_placesOf_3 : decode cX1_placesOf 3 = .ok (.invokevirtual 116, 3) := by decide +kernel
theorem dX1_placesOf_6 : decode cX1_placesOf 6 = .ok (.ishl, 1) := by decide +kernel
theorem dX1_placesOf_7 : decode cX1_placesOf 7 = .ok (.iconst 1, 1) := by decide +kernel
theorem dX1_placesOf_8 : decode cX1_placesOf 8 = .ok (.aload_n 0, 1) := by decide +kernel
theorem dX1_placesOf_9 : decode cX1_placesOf 9 = .ok (.getfield 18, 3) := by decide +kernel
theorem dX1_placesOf_12 : decode cX1_placesOf 12 = .ok (.iload_n 1, 1) := by decide +kernel
theorem dX1_placesOf_13 : decode cX1_placesOf 13 = .ok (.iaload, 1) := by decide +kernel
theorem dX1_placesOf_14 : decode cX1_placesOf 14 = .ok (.ishl, 1) := by decide +kernel
theorem dX1_placesOf_15 : decode cX1_placesOf 15 = .ok (.isub, 1) := by decide +kernel
theorem dX1_placesOf_16 : decode cX1_placesOf 16 = .ok (.ireturn, 1) := by decide +kernel
theorem dX2_init_0 : decode cX2_init 0 = .ok (.aload_n 0, 1) := by decide +kernel
theorem dX2_init_1 : decode cX2_init 1 = .ok (.invokespecial 3, 3) := by decide +kernel
theorem dX2_init_4 : decode cX2_init 4 = .ok (.aload_n 0, 1) := by decide +kernel
theorem dX2_init_5 : decode cX2_init 5 = .ok (.bipush 8, 2) := by decide +kernel
theorem dX2_init_7 : decode cX2_init 7 = .ok (.newarray .int, 2) := by decide +kernel
theorem dX2_init_9 : decode cX2_init 9 = .ok (.putfield 9, 3) := by decide +kernel
theorem dX2_init_12 : decode cX2_init 12 = .ok (.aload_n 0, 1) := by decide +kernel
theorem dX2_init_13 : decode cX2_init 13 = .ok (.bipush 6, 2) := by decide +kernel
theorem dX2_init_15 : decode cX2_init 15 = .ok (.newarray .int, 2) := by decide +kernel
theorem dX2_init_17 : decode cX2_init 17 = .ok (.putfield 15, 3) := by decide +kernel
theorem dX2_init_20 : decode cX2_init 20 = .ok (.aload_n 0, 1) := by decide +kernel
theorem dX2_init_21 : decode cX2_init 21 = .ok (.aload_n 1, 1) := by decide +kernel
theorem dX2_init_22 : decode cX2_init 22 = .ok (.putfield 18, 3) := by decide +kernel
theorem dX2_init_25 : decode cX2_init 25 = .ok (.aload_n 0, 1) := by decide +kernel
theorem dX2_init_26 : decode cX2_init 26 = .ok (.aload_n 2, 1) := by decide +kernel
theorem dX2_init_27 : decode cX2_init 27 = .ok (.putfield 22, 3) := by decide +kernel
theorem dX2_init_30 : decode cX2_init 30 = .ok (.aload_n 0, 1) := by decide +kernel
theorem dX2_init_31 : decode cX2_init 31 = .ok (.aload_n 3, 1) := by decide +kernel
theorem dX2_init_32 : decode cX2_init 32 = .ok (.putfield 26, 3) := by decide +kernel
theorem dX2_init_35 : decode cX2_init 35 = .ok (.return_, 1) := by decide +kernel
set_option maxRecDepth 20000 in
theorem ggX2_firstWhole_X2_begin : GoodIn wsX2_firstWhole wsX2_begin := goodIn_r _ [14, 2, 4, 8, 5, 15, 16, 17, 18, 19, 20, 21, 22, 23, 24, 25, 26, 27, 28, 29, 30, 31, 32, 33, 34, 35, 36, 37, 104, 105, 106, 107, 108, 109, 110, 111, 133, 134, 135, 136, 137, 138, 139, 112, 113, 114, 115, 116, 117, 118, 119, 120, 121, 122, 123] (by decide +kernel) (by decide +kernel)
set_option maxRecDepth 20000 in
theorem gX2_firstWhole_X2_begin : GoodIn wsX2_firstWhole (wsV RX2 30 RX2 yX2_begin wsX2_begin) := goodIn_app (goodIn_of _ (by decide +kernel)) ggX2_firstWhole_X2_begin
set_option maxRecDepth 20000 in
theorem ggX2_firstWhole_X2_nextToTry : GoodIn wsX2_firstWhole wsX2_nextToTry := goodIn_r _ [41, 16, 17, 18, 42, 6, 8, 43, 44, 45, 46, 47, 48, 49, 50, 51, 52, 53, 54, 55, 56, 13, 57, 5, 58, 15, 7, 104, 105, 106, 107, 108, 109, 110, 111, 133, 134, 135, 136, 137, 138, 139, 124, 125, 126, 127, 128, 129, 130, 131, 132] (by decide +kernel) (by decide +kernel)
set_option maxRecDepth 20000 in
theorem gX2_firstWhole_X2_nextToTry : GoodIn wsX2_firstWhole (wsV RX2 33 RX2 yX2_nextToTry wsX2_nextToTry) := goodIn_app (goodIn_of _ (by decide +kernel)) ggX2_firstWhole_X2_nextToTry
set_option maxRecDepth 20000 in
theorem ggX2_firstWhole_X2_takeUp : GoodIn wsX2_firstWhole wsX2_takeUp := goodIn_r _ [62, 2, 3, 63, 64, 8, 65, 5, 15, 18, 66, 67, 68, 22, 69, 70, 71, 72, 73, 74, 75, 76, 13, 77, 6, 7, 104, 105, 106, 107, 108, 109, 110, 111, 112, 113, 114, 115, 116, 117, 118, 119, 120, 121, 122, 123, 133, 134, 135, 136, 137, 138, 139, 124, 125, 126, 127, 128, 129, 130, 131, 132] (by decide +kernel) (by decide +kernel)
set_option maxRecDepth 20000 in
theorem gX2_firstWhole_X2_takeUp : GoodIn wsX2_firstWhole (wsV RX2 44 RX2 yX2_takeUp wsX2_takeUp) := goodIn_app (goodIn_of _ (by decide +kernel)) ggX2_firstWhole_X2_takeUp
set_option maxRecDepth 20000 in
theorem ggX2_firstWhole_X2_lay : GoodIn wsX2_firstWhole wsX2_lay := goodIn_r _ [81, 2, 8, 5, 18, 16, 58, 15, 82, 83, 84, 22, 85, 24, 73, 86, 70, 74, 75, 76, 13, 77, 6, 7, 104, 105, 106, 107, 108, 109, 110, 111, 133, 134, 135, 136, 137, 138, 139, 112, 113, 114, 115, 116, 117, 118, 119, 120, 121, 122, 123, 124, 125, 126, 127, 128, 129, 130, 131, 132] (by decide +kernel) (by decide +kernel)
set_option maxRecDepth 20000 in
theorem gX2_firstWhole_X2_lay : GoodIn wsX2_firstWhole (wsV RX2 51 RX2 yX2_lay wsX2_lay) := goodIn_app (goodIn_of _ (by decide +kernel)) ggX2_firstWhole_X2_lay
set_option maxRecDepth 20000 in
theorem ggX2_firstWhole_X2_hasThroughsAsked : GoodIn wsX2_firstWhole wsX2_hasThroughsAsked := goodIn_r _ [90, 2, 3, 64, 8, 6, 91, 92, 93, 22, 94, 71, 95, 73, 96, 86, 97, 44, 45, 46, 47, 48, 49, 50, 51, 52, 53, 98, 99, 100, 101, 102, 103, 104, 105, 106, 107, 108, 109, 110, 111, 112, 113, 114, 115, 116, 117, 118, 119, 120, 121, 122, 123, 133, 134, 135, 136, 137, 138, 139, 124, 125, 126, 127, 128, 129, 130, 131, 132] (by decide +kernel) (by decide +kernel)
set_option maxRecDepth 20000 in
theorem gX2_firstWhole_X2_hasThroughsAsked : GoodIn wsX2_firstWhole (wsV RX2 63 RX2 yX2_hasThroughsAsked wsX2_hasThroughsAsked) := goodIn_app (goodIn_of _ (by decide +kernel)) ggX2_firstWhole_X2_hasThroughsAsked
theorem dX2_firstWhole_0 : decode cX2_firstWhole 0 = .ok (.aload_n 0, 1) := by decide +kernel
theorem dX2_firstWhole_1 : decode cX2_firstWhole 1 = .ok (.invokevirtual 30, 3) := by decide +kernel
theorem dX2_firstWhole_4 : decode cX2_firstWhole 4 = .ok (.aload_n 0, 1) := by decide +kernel
theorem dX2_firstWhole_5 : decode cX2_firstWhole 5 = .ok (.iconst 0, 1) := by decide +kernel
theorem dX2_firstWhole_6 : decode cX2_firstWhole 6 = .ok (.invokevirtual 33, 3) := by decide +kernel
theorem dX2_firstWhole_9 : decode cX2_firstWhole 9 = .ok (.istore_n 1, 1) := by decide +kernel
theorem dX2_firstWhole_10 : decode cX2_firstWhole 10 = .ok (.iconst 0, 1) := by decide +kernel
theorem dX2_firstWhole_11 : decode cX2_firstWhole 11 = .ok (.istore_n 2, 1) := by decide +kernel
theorem dX2_firstWhole_12 : decode cX2_firstWhole 12 = .ok (.iload_n 2, 1) := by decide +kernel
theorem dX2_firstWhole_13 : decode cX2_firstWhole 13 = .ok (.ldc 37, 2) := by decide +kernel
theorem dX2_firstWhole_15 : decode cX2_firstWhole 15 = .ok (.if_icmp .ge 148, 3) := by decide +kernel
theorem dX2_firstWhole_18 : decode cX2_firstWhole 18 = .ok (.iload_n 1, 1) := by decide +kernel
theorem dX2_firstWhole_19 : decode cX2_firstWhole 19 = .ok (.iconst (-1), 1) := by decide +kernel
theorem dX2_firstWhole_20 : decode cX2_firstWhole 20 = .ok (.if_icmp .ne 29, 3) := by decide +kernel
theorem dX2_firstWhole_23 : decode cX2_firstWhole 23 = .ok (.aload_n 0, 1) := by decide +kernel
theorem dX2_firstWhole_24 : decode cX2_firstWhole 24 = .ok (.getfield 26, 3) := by decide +kernel
theorem dX2_firstWhole_27 : decode cX2_firstWhole 27 = .ok (.getfield 38, 3) := by decide +kernel
theorem dX2_firstWhole_30 : decode cX2_firstWhole 30 = .ok (.ifCond .ne 5, 3) := by decide +kernel
theorem dX2_firstWhole_33 : decode cX2_firstWhole 33 = .ok (.iconst 0, 1) := by decide +kernel
theorem dX2_firstWhole_34 : decode cX2_firstWhole 34 = .ok (.ireturn, 1) := by decide +kernel
theorem dX2_firstWhole_35 : decode cX2_firstWhole 35 = .ok (.aload_n 0, 1) := by decide +kernel
theorem dX2_firstWhole_36 : decode cX2_firstWhole 36 = .ok (.aload_n 0, 1) := by decide +kernel
theorem dX2_firstWhole_37 : decode cX2_firstWhole 37 = .ok (.invokevirtual 44, 3) := by decide +kernel
theorem dX2_firstWhole_40 : decode cX2_firstWhole 40 = .ok (.iconst 1, 1) := by decide +kernel
theorem dX2_firstWhole_41 : decode cX2_firstWhole 41 = .ok (.iadd, 1) := by decide +kernel
theorem dX2_firstWhole_42 : decode cX2_firstWhole 42 = .ok (.invokevirtual 33, 3) := by decide +kernel
theorem dX2_firstWhole_45 : decode cX2_firstWhole 45 = .ok (.istore_n 1, 1) := by decide +kernel
theorem dX2_firstWhole_46 : decode cX2_firstWhole 46 = .ok (.goto 111, 3) := by decide +kernel
theorem dX2_firstWhole_49 : decode cX2_firstWhole 49 = .ok (.aload_n 0, 1) := by decide +kernel
theorem dX2_firstWhole_50 : decode cX2_firstWhole 50 = .ok (.getfield 48, 3) := by decide +kernel
theorem dX2_firstWhole_53 : decode cX2_firstWhole 53 = .ok (.sipush 20000, 3) := by decide +kernel
theorem dX2_firstWhole_56 : decode cX2_firstWhole 56 = .ok (.if_icmp .lt 6, 3) := by decide +kernel
theorem dX2_firstWhole_59 : decode cX2_firstWhole 59 = .ok (.bipush (-2), 2) := by decide +kernel
theorem dX2_firstWhole_61 : decode cX2_firstWhole 61 = .ok (.ireturn, 1) := by decide +kernel
theorem dX2_firstWhole_62 : decode cX2_firstWhole 62 = .ok (.aload_n 0, 1) := by decide +kernel
theorem dX2_firstWhole_63 : decode cX2_firstWhole 63 = .ok (.dup, 1) := by decide +kernel
theorem dX2_firstWhole_64 : decode cX2_firstWhole 64 = .ok (.getfield 48, 3) := by decide +kernel
theorem dX2_firstWhole_67 : decode cX2_firstWhole 67 = .ok (.iconst 1, 1) := by decide +kernel
theorem dX2_firstWhole_68 : decode cX2_firstWhole 68 = .ok (.iadd, 1) := by decide +kernel
theorem dX2_firstWhole_69 : decode cX2_firstWhole 69 = .ok (.putfield 48, 3) := by decide +kernel
theorem dX2_firstWhole_72 : decode cX2_firstWhole 72 = .ok (.aload_n 0, 1) := by decide +kernel
theorem dX2_firstWhole_73 : decode cX2_firstWhole 73 = .ok (.iload_n 1, 1) := by decide +kernel
theorem dX2_firstWhole_74 : decode cX2_firstWhole 74 = .ok (.invokevirtual 51, 3) := by decide +kernel
theorem dX2_firstWhole_77 : decode cX2_firstWhole 77 = .ok (.aload_n 0, 1) := by decide +kernel
theorem dX2_firstWhole_78 : decode cX2_firstWhole 78 = .ok (.getfield 55, 3) := by decide +kernel
theorem dX2_firstWhole_81 : decode cX2_firstWhole 81 = .ok (.aload_n 0, 1) := by decide +kernel
theorem dX2_firstWhole_82 : decode cX2_firstWhole 82 = .ok (.getfield 22, 3) := by decide +kernel
theorem dX2_firstWhole_85 : decode cX2_firstWhole 85 = .ok (.getfield 58, 3) := by decide +kernel
theorem dX2_firstWhole_88 : decode cX2_firstWhole 88 = .ok (.if_icmp .ge 12, 3) := by decide +kernel
theorem dX2_firstWhole_91 : decode cX2_firstWhole 91 = .ok (.aload_n 0, 1) := by decide +kernel
theorem dX2_firstWhole_92 : decode cX2_firstWhole 92 = .ok (.iconst 0, 1) := by decide +kernel
theorem dX2_firstWhole_93 : decode cX2_firstWhole 93 = .ok (.invokevirtual 33, 3) := by decide +kernel
theorem dX2_firstWhole_96 : decode cX2_firstWhole 96 = .ok (.istore_n 1, 1) := by decide +kernel
theorem dX2_firstWhole_97 : decode cX2_firstWhole 97 = .ok (.goto 60, 3) := by decide +kernel
theorem dX2_firstWhole_100 : decode cX2_firstWhole 100 = .ok (.aload_n 0, 1) := by decide +kernel
theorem dX2_firstWhole_101 : decode cX2_firstWhole 101 = .ok (.invokevirtual 63, 3) := by decide +kernel
theorem dX2_firstWhole_104 : decode cX2_firstWhole 104 = .ok (.ifCond .ne 8, 3) := by decide +kernel
theorem dX2_firstWhole_107 : decode cX2_firstWhole 107 = .ok (.iconst (-1), 1) := by decide +kernel
theorem dX2_firstWhole_108 : decode cX2_firstWhole 108 = .ok (.istore_n 1, 1) := by decide +kernel
theorem dX2_firstWhole_109 : decode cX2_firstWhole 109 = .ok (.goto 48, 3) := by decide +kernel
theorem dX2_firstWhole_112 : decode cX2_firstWhole 112 = .ok (.aload_n 0, 1) := by decide +kernel
theorem dX2_firstWhole_113 : decode cX2_firstWhole 113 = .ok (.getfield 67, 3) := by decide +kernel
theorem dX2_firstWhole_116 : decode cX2_firstWhole 116 = .ok (.iconst 1, 1) := by decide +kernel
theorem dX2_firstWhole_117 : decode cX2_firstWhole 117 = .ok (.iadd, 1) := by decide +kernel
theorem dX2_firstWhole_118 : decode cX2_firstWhole 118 = .ok (.aload_n 0, 1) := by decide +kernel
theorem dX2_firstWhole_119 : decode cX2_firstWhole 119 = .ok (.getfield 22, 3) := by decide +kernel
theorem dX2_firstWhole_122 : decode cX2_firstWhole 122 = .ok (.getfield 70, 3) := by decide +kernel
theorem dX2_firstWhole_125 : decode cX2_firstWhole 125 = .ok (.if_icmp .ne 11, 3) := by decide +kernel
theorem dX2_firstWhole_128 : decode cX2_firstWhole 128 = .ok (.aload_n 0, 1) := by decide +kernel
theorem dX2_firstWhole_129 : decode cX2_firstWhole 129 = .ok (.getfield 26, 3) := by decide +kernel
theorem dX2_firstWhole_132 : decode cX2_firstWhole 132 = .ok (.getfield 38, 3) := by decide +kernel
theorem dX2_firstWhole_135 : decode cX2_firstWhole 135 = .ok (.ireturn, 1) := by decide +kernel
theorem dX2_firstWhole_136 : decode cX2_firstWhole 136 = .ok (.aload_n 0, 1) := by decide +kernel
theorem dX2_firstWhole_137 : decode cX2_firstWhole 137 = .ok (.dup, 1) := by decide +kernel
theorem dX2_firstWhole_138 : decode cX2_firstWhole 138 = .ok (.getfield 67, 3) := by decide +kernel
theorem dX2_firstWhole_141 : decode cX2_firstWhole 141 = .ok (.iconst 1, 1) := by decide +kernel
theorem dX2_firstWhole_142 : decode cX2_firstWhole 142 = .ok (.iadd, 1) := by decide +kernel
theorem dX2_firstWhole_143 : decode cX2_firstWhole 143 = .ok (.putfield 67, 3) := by decide +kernel
theorem dX2_firstWhole_146 : decode cX2_firstWhole 146 = .ok (.aload_n 0, 1) := by decide +kernel
theorem dX2_firstWhole_147 : decode cX2_firstWhole 147 = .ok (.iconst 0, 1) := by decide +kernel
theorem dX2_firstWhole_148 : decode cX2_firstWhole 148 = .ok (.putfield 55, 3) := by decide +kernel
theorem dX2_firstWhole_151 : decode cX2_firstWhole 151 = .ok (.aload_n 0, 1) := by decide +kernel
theorem dX2_firstWhole_152 : decode cX2_firstWhole 152 = .ok (.iconst 0, 1) := by decide +kernel
theorem dX2_firstWhole_153 : decode cX2_firstWhole 153 = .ok (.invokevirtual 33, 3) := by decide +kernel
theorem dX2_firstWhole_156 : decode cX2_firstWhole 156 = .ok (.istore_n 1, 1) := by decide +kernel
theorem dX2_firstWhole_157 : decode cX2_firstWhole 157 = .ok (.iinc 2 1, 3) := by decide +kernel
theorem dX2_firstWhole_160 : decode cX2_firstWhole 160 = .ok (.goto (-148), 3) := by decide +kernel
theorem dX2_firstWhole_163 : decode cX2_firstWhole 163 = .ok (.bipush (-2), 2) := by decide +kernel
theorem dX2_firstWhole_165 : decode cX2_firstWhole 165 = .ok (.ireturn, 1) := by decide +kernel
set_option maxRecDepth 20000 in
theorem ggX2_begin_X1_forget : GoodIn wsX2_begin wsX1_forget := goodIn_r _ [13, 14, 15, 16, 43, 44, 45, 46, 47, 48, 49, 50, 51, 52, 53, 54] (by decide +kernel) (by decide +kernel)
set_option maxRecDepth 20000 in
theorem gX2_begin_X1_forget : GoodIn wsX2_begin (wsV RX2 73 RX1 yX1_forget wsX1_forget) := goodIn_app (goodIn_of _ (by decide +kernel)) ggX2_begin_X1_forget
set_option maxRecDepth 20000 in
theorem ggX2_begin_J7_fill_53178 : GoodIn wsX2_begin wsJ7_fill_53178 := goodIn_r _ [20] (by decide +kernel) (by decide +kernel)
set_option maxRecDepth 20000 in
theorem gX2_begin_J7_fill_53178 : GoodIn wsX2_begin (va_wsS RX2 76 yJ7_fill_53178 wsJ7_fill_53178) := goodIn_app (goodIn_of _ (by decide +kernel)) ggX2_begin_J7_fill_53178
set_option maxRecDepth 20000 in
theorem ggX2_begin_X4_inHeaps : GoodIn wsX2_begin wsX4_inHeaps := goodIn_r _ [25, 26, 27, 36, 37, 38, 39, 40, 41, 42] (by decide +kernel) (by decide +kernel)
set_option maxRecDepth 20000 in
theorem gX2_begin_X4_inHeaps : GoodIn wsX2_begin (wsV RX2 87 RX4 yX4_inHeaps wsX4_inHeaps) := goodIn_app (goodIn_of _ (by decide +kernel)) ggX2_begin_X4_inHeaps
theorem dX2_begin_0 : decode cX2_begin 0 = .ok (.aload_n 0, 1) := by decide +kernel
theorem dX2_begin_1 : decode cX2_begin 1 = .ok (.getfield 26, 3) := by decide +kernel
theorem dX2_begin_4 : decode cX2_begin 4 = .ok (.invokevirtual 73, 3) := by decide +kernel
theorem dX2_begin_7 : decode cX2_begin 7 = .ok (.aload_n 0, 1) := by decide +kernel
theorem dX2_begin_8 : decode cX2_begin 8 = .ok (.iconst 0, 1) := by decide +kernel
theorem dX2_begin_9 : decode cX2_begin 9 = .ok (.putfield 48, 3) := by decide +kernel
theorem dX2_begin_12 : decode cX2_begin 12 = .ok (.aload_n 0, 1) := by decide +kernel
theorem dX2_begin_13 : decode cX2_begin 13 = .ok (.iconst 0, 1) := by decide +kernel
theorem dX2_begin_14 : decode cX2_begin 14 = .ok (.putfield 67, 3) := by decide +kernel
theorem dX2_begin_17 : decode cX2_begin 17 = .ok (.aload_n 0, 1) := by decide +kernel
theorem dX2_begin_18 : decode cX2_begin 18 = .ok (.iconst 0, 1) := by decide +kernel
theorem dX2_begin_19 : decode cX2_begin 19 = .ok (.putfield 55, 3) := by decide +kernel
theorem dX2_begin_22 : decode cX2_begin 22 = .ok (.aload_n 0, 1) := by decide +kernel
theorem dX2_begin_23 : decode cX2_begin 23 = .ok (.getfield 15, 3) := by decide +kernel
theorem dX2_begin_26 : decode cX2_begin 26 = .ok (.iconst 0, 1) := by decide +kernel
theorem dX2_begin_27 : decode cX2_begin 27 = .ok (.invokestatic 76, 3) := by decide +kernel
theorem dX2_begin_30 : decode cX2_begin 30 = .ok (.iconst 0, 1) := by decide +kernel
theorem dX2_begin_31 : decode cX2_begin 31 = .ok (.istore_n 1, 1) := by decide +kernel
theorem dX2_begin_32 : decode cX2_begin 32 = .ok (.iload_n 1, 1) := by decide +kernel
theorem dX2_begin_33 : decode cX2_begin 33 = .ok (.aload_n 0, 1) := by decide +kernel
theorem dX2_begin_34 : decode cX2_begin 34 = .ok (.getfield 18, 3) := by decide +kernel
theorem dX2_begin_37 : decode cX2_begin 37 = .ok (.getfield 82, 3) := by decide +kernel
theorem dX2_begin_40 : decode cX2_begin 40 = .ok (.if_icmp .ge 23, 3) := by decide +kernel
theorem dX2_begin_43 : decode cX2_begin 43 = .ok (.aload_n 0, 1) := by decide +kernel
theorem dX2_begin_44 : decode cX2_begin 44 = .ok (.getfield 9, 3) := by decide +kernel
theorem dX2_begin_47 : decode cX2_begin 47 = .ok (.iload_n 1, 1) := by decide +kernel
theorem dX2_begin_48 : decode cX2_begin 48 = .ok (.aload_n 0, 1) := by decide +kernel
theorem dX2_begin_49 : decode cX2_begin 49 = .ok (.getfield 18, 3) := by decide +kernel
theorem dX2_begin_52 : decode cX2_begin 52 = .ok (.iload_n 1, 1) := by decide +kernel
theorem dX2_begin_53 : decode cX2_begin 53 = .ok (.invokevirtual 87, 3) := by decide +kernel
theorem dX2_begin_56 : decode cX2_begin 56 = .ok (.iastore, 1) := by decide +kernel
theorem dX2_begin_57 : decode cX2_begin 57 = .ok (.iinc 1 1, 3) := by decide +kernel
theorem dX2_begin_60 : decode cX2_begin 60 = .ok (.goto (-28), 3) := by decide +kernel
theorem dX2_begin_63 : decode cX2_begin 63 = .ok (.return_, 1) := by decide +kernel
set_option maxRecDepth 20000 in
theorem ggX2_nextToTry_X3_width : GoodIn wsX2_nextToTry wsX3_width := goodIn_r _ [11, 12, 13, 14, 15, 16, 17, 42, 43, 44, 45, 46, 47, 48, 49, 50] (by decide +kernel) (by decide +kernel)
set_option maxRecDepth 20000 in
theorem gX2_nextToTry_X3_width : GoodIn wsX2_nextToTry (wsV RX2 93 RX3 yX3_width wsX3_width) := goodIn_app (goodIn_of _ (by decide +kernel)) ggX2_nextToTry_X3_width
set_option maxRecDepth 20000 in
theorem ggX2_nextToTry_X2_endsWell : GoodIn wsX2_nextToTry wsX2_endsWell := goodIn_r _ [22, 23, 1, 24, 6, 25, 5, 26, 27, 28, 29, 30, 31, 32, 33, 34, 35, 36, 37, 38, 39, 40, 41, 42, 43, 44, 45, 46, 47, 48, 49, 50] (by decide +kernel) (by decide +kernel)
set_option maxRecDepth 20000 in
theorem gX2_nextToTry_X2_endsWell : GoodIn wsX2_nextToTry (wsV RX2 96 RX2 yX2_endsWell wsX2_endsWell) := goodIn_app (goodIn_of _ (by decide +kernel)) ggX2_nextToTry_X2_endsWell
theorem dX2_nextToTry_0 : decode cX2_nextToTry 0 = .ok (.iload_n 1, 1) := by decide +kernel
theorem dX2_nextToTry_1 : decode cX2_nextToTry 1 = .ok (.istore_n 2, 1) := by decide +kernel
theorem dX2_nextToTry_2 : decode cX2_nextToTry 2 = .ok (.iload_n 2, 1) := by decide +kernel
theorem dX2_nextToTry_3 : decode cX2_nextToTry 3 = .ok (.aload_n 0, 1) := by decide +kernel
theorem dX2_nextToTry_4 : decode cX2_nextToTry 4 = .ok (.getfield 18, 3) := by decide +kernel
theorem dX2_nextToTry_7 : decode cX2_nextToTry 7 = .ok (.getfield 82, 3) := by decide +kernel
theorem dX2_nextToTry_10 : decode cX2_nextToTry 10 = .ok (.if_icmp .ge 53, 3) := by decide +kernel
theorem dX2_nextToTry_13 : decode cX2_nextToTry 13 = .ok (.aload_n 0, 1) := by decide +kernel
theorem dX2_nextToTry_14 : decode cX2_nextToTry 14 = .ok (.getfield 9, 3) := by decide +kernel
theorem dX2_nextToTry_17 : decode cX2_nextToTry 17 = .ok (.iload_n 2, 1) := by decide +kernel
theorem dX2_nextToTry_18 : decode cX2_nextToTry 18 = .ok (.iaload, 1) := by decide +kernel
theorem dX2_nextToTry_19 : decode cX2_nextToTry 19 = .ok (.ifCond .le 38, 3) := by decide +kernel
theorem dX2_nextToTry_22 : decode cX2_nextToTry 22 = .ok (.aload_n 0, 1) := by decide +kernel
theorem dX2_nextToTry_23 : decode cX2_nextToTry 23 = .ok (.getfield 18, 3) := by decide +kernel
theorem dX2_nextToTry_26 : decode cX2_nextToTry 26 = .ok (.getfield 90, 3) := by decide +kernel
theorem dX2_nextToTry_29 : decode cX2_nextToTry 29 = .ok (.iload_n 2, 1) := by decide +kernel
theorem dX2_nextToTry_30 : decode cX2_nextToTry 30 = .ok (.iaload, 1) := by decide +kernel
theorem dX2_nextToTry_31 : decode cX2_nextToTry 31 = .ok (.aload_n 0, 1) := by decide +kernel
theorem dX2_nextToTry_32 : decode cX2_nextToTry 32 = .ok (.getfield 22, 3) := by decide +kernel
theorem dX2_nextToTry_35 : decode cX2_nextToTry 35 = .ok (.aload_n 0, 1) := by decide +kernel
theorem dX2_nextToTry_36 : decode cX2_nextToTry 36 = .ok (.getfield 67, 3) := by decide +kernel
theorem dX2_nextToTry_39 : decode cX2_nextToTry 39 = .ok (.invokevirtual 93, 3) := by decide +kernel
theorem dX2_nextToTry_42 : decode cX2_nextToTry 42 = .ok (.iconst 1, 1) := by decide +kernel
theorem dX2_nextToTry_43 : decode cX2_nextToTry 43 = .ok (.iadd, 1) := by decide +kernel
theorem dX2_nextToTry_44 : decode cX2_nextToTry 44 = .ok (.if_icmp .gt 13, 3) := by decide +kernel
theorem dX2_nextToTry_47 : decode cX2_nextToTry 47 = .ok (.aload_n 0, 1) := by decide +kernel
theorem dX2_nextToTry_48 : decode cX2_nextToTry 48 = .ok (.iload_n 2, 1) := by decide +kernel
theorem dX2_nextToTry_49 : decode cX2_nextToTry 49 = .ok (.invokevirtual 96, 3) := by decide +kernel
theorem dX2_nextToTry_52 : decode cX2_nextToTry 52 = .ok (.ifCond .eq 5, 3) := by decide +kernel
theorem dX2_nextToTry_55 : decode cX2_nextToTry 55 = .ok (.iload_n 2, 1) := by decide +kernel
theorem dX2_nextToTry_56 : decode cX2_nextToTry 56 = .ok (.ireturn, 1) := by decide +kernel
theorem dX2_nextToTry_57 : decode cX2_nextToTry 57 = .ok (.iinc 2 1, 3) := by decide +kernel
theorem dX2_nextToTry_60 : decode cX2_nextToTry 60 = .ok (.goto (-58), 3) := by decide +kernel
theorem dX2_nextToTry_63 : decode cX2_nextToTry 63 = .ok (.iconst (-1), 1) := by decide +kernel
theorem dX2_nextToTry_64 : decode cX2_nextToTry 64 = .ok (.ireturn, 1) := by decide +kernel
theorem dX2_endsWell_0 : decode cX2_endsWell 0 = .ok (.aload_n 0, 1) := by decide +kernel
theorem dX2_endsWell_1 : decode cX2_endsWell 1 = .ok (.getfield 55, 3) := by decide +kernel
theorem dX2_endsWell_4 : decode cX2_endsWell 4 = .ok (.aload_n 0, 1) := by decide +kernel
theorem dX2_endsWell_5 : decode cX2_endsWell 5 = .ok (.getfield 18, 3) := by decide +kernel
theorem dX2_endsWell_8 : decode cX2_endsWell 8 = .ok (.getfield 100, 3) := by decide +kernel
theorem dX2_endsWell_11 : decode cX2_endsWell 11 = .ok (.iload_n 1, 1) := by decide +kernel
theorem dX2_endsWell_12 : decode cX2_endsWell 12 = .ok (.iaload, 1) := by decide +kernel
theorem dX2_endsWell_13 : decode cX2_endsWell 13 = .ok (.iadd, 1) := by decide +kernel
theorem dX2_endsWell_14 : decode cX2_endsWell 14 = .ok (.istore_n 2, 1) := by decide +kernel
theorem dX2_endsWell_15 : decode cX2_endsWell 15 = .ok (.aload_n 0, 1) := by decide +kernel
theorem dX2_endsWell_16 : decode cX2_endsWell 16 = .ok (.getfield 67, 3) := by decide +kernel
theorem dX2_endsWell_19 : decode cX2_endsWell 19 = .ok (.ifCond .le 26, 3) := by decide +kernel
theorem dX2_endsWell_22 : decode cX2_endsWell 22 = .ok (.aload_n 0, 1) := by decide +kernel
theorem dX2_endsWell_23 : decode cX2_endsWell 23 = .ok (.getfield 15, 3) := by decide +kernel
theorem dX2_endsWell_26 : decode cX2_endsWell 26 = .ok (.aload_n 0, 1) := by decide +kernel
theorem dX2_endsWell_27 : decode cX2_endsWell 27 = .ok (.getfield 67, 3) := by decide +kernel
theorem dX2_endsWell_30 : decode cX2_endsWell 30 = .ok (.iconst 1, 1) := by decide +kernel
theorem dX2_endsWell_31 : decode cX2_endsWell 31 = .ok (.isub, 1) := by decide +kernel
theorem dX2_endsWell_32 : decode cX2_endsWell 32 = .ok (.iaload, 1) := by decide +kernel
theorem dX2_endsWell_33 : decode cX2_endsWell 33 = .ok (.iload_n 2, 1) := by decide +kernel
theorem dX2_endsWell_34 : decode cX2_endsWell 34 = .ok (.ishr, 1) := by decide +kernel
theorem dX2_endsWell_35 : decode cX2_endsWell 35 = .ok (.iconst 1, 1) := by decide +kernel
theorem dX2_endsWell_36 : decode cX2_endsWell 36 = .ok (.iand, 1) := by decide +kernel
theorem dX2_endsWell_37 : decode cX2_endsWell 37 = .ok (.iconst 1, 1) := by decide +kernel
theorem dX2_endsWell_38 : decode cX2_endsWell 38 = .ok (.if_icmp .ne 7, 3) := by decide +kernel
theorem dX2_endsWell_41 : decode cX2_endsWell 41 = .ok (.iconst 1, 1) := by decide +kernel
theorem dX2_endsWell_42 : decode cX2_endsWell 42 = .ok (.goto 4, 3) := by decide +kernel
theorem dX2_endsWell_45 : decode cX2_endsWell 45 = .ok (.iconst 0, 1) := by decide +kernel
theorem dX2_endsWell_46 : decode cX2_endsWell 46 = .ok (.istore_n 3, 1) := by decide +kernel
theorem dX2_endsWell_47 : decode cX2_endsWell 47 = .ok (.iload_n 2, 1) := by decide +kernel
theorem dX2_endsWell_48 : decode cX2_endsWell 48 = .ok (.aload_n 0, 1) := by decide +kernel
theorem dX2_endsWell_49 : decode cX2_endsWell 49 = .ok (.getfield 22, 3) := by decide +kernel
theorem dX2_endsWell_52 : decode cX2_endsWell 52 = .ok (.getfield 58, 3) := by decide +kernel
theorem dX2_endsWell_55 : decode cX2_endsWell 55 = .ok (.if_icmp .gt 11, 3) := by decide +kernel
theorem dX2_endsWell_58 : decode cX2_endsWell 58 = .ok (.iload_n 3, 1) := by decide +kernel
theorem dX2_endsWell_59 : decode cX2_endsWell 59 = .ok (.ifCond .ne 7, 3) := by decide +kernel
theorem dX2_endsWell_62 : decode cX2_endsWell 62 = .ok (.iconst 1, 1) := by decide +kernel
theorem dX2_endsWell_63 : decode cX2_endsWell 63 = .ok (.goto 4, 3) := by decide +kernel
theorem dX2_endsWell_66 : decode cX2_endsWell 66 = .ok (.iconst 0, 1) := by decide +kernel
theorem dX2_endsWell_67 : decode cX2_endsWell 67 = .ok (.ireturn, 1) := by decide +kernel
set_option maxRecDepth 20000 in
theorem ggX2_lay_X1_add : GoodIn wsX2_lay wsX1_add := goodIn_r _ [12, 13, 14, 15, 16, 39, 40, 41, 42, 43, 44, 45, 46, 47, 48, 49, 50] (by decide +kernel) (by decide +kernel)
set_option maxRecDepth 20000 in
theorem gX2_lay_X1_add : GoodIn wsX2_lay (wsV RX2 103 RX1 yX1_add wsX1_add) := goodIn_app (goodIn_of _ (by decide +kernel)) ggX2_lay_X1_add
set_option maxRecDepth 20000 in
theorem ggX2_lay_X2_jointAt : GoodIn wsX2_lay wsX2_jointAt := goodIn_r _ [21, 22, 23, 24, 25, 26, 27, 28, 29, 30, 31, 51, 52, 53, 54, 55, 56, 57, 58, 59] (by decide +kernel) (by decide +kernel)
set_option maxRecDepth 20000 in
theorem gX2_lay_X2_jointAt : GoodIn wsX2_lay (wsV RX2 107 RX2 yX2_jointAt wsX2_jointAt) := goodIn_app (goodIn_of _ (by decide +kernel)) ggX2_lay_X2_jointAt
theorem dX2_lay_0 : decode cX2_lay 0 = .ok (.aload_n 0, 1) := by decide +kernel
theorem dX2_lay_1 : decode cX2_lay 1 = .ok (.getfield 26, 3) := by decide +kernel
theorem dX2_lay_4 : decode cX2_lay 4 = .ok (.iload_n 1, 1) := by decide +kernel
theorem dX2_lay_5 : decode cX2_lay 5 = .ok (.aload_n 0, 1) := by decide +kernel
theorem dX2_lay_6 : decode cX2_lay 6 = .ok (.getfield 67, 3) := by decide +kernel
theorem dX2_lay_9 : decode cX2_lay 9 = .ok (.aload_n 0, 1) := by decide +kernel
theorem dX2_lay_10 : decode cX2_lay 10 = .ok (.getfield 55, 3) := by decide +kernel
theorem dX2_lay_13 : decode cX2_lay 13 = .ok (.invokevirtual 103, 3) := by decide +kernel
theorem dX2_lay_16 : decode cX2_lay 16 = .ok (.aload_n 0, 1) := by decide +kernel
theorem dX2_lay_17 : decode cX2_lay 17 = .ok (.getfield 9, 3) := by decide +kernel
theorem dX2_lay_20 : decode cX2_lay 20 = .ok (.iload_n 1, 1) := by decide +kernel
theorem dX2_lay_21 : decode cX2_lay 21 = .ok (.dup2, 1) := by decide +kernel
theorem dX2_lay_22 : decode cX2_lay 22 = .ok (.iaload, 1) := by decide +kernel
theorem dX2_lay_23 : decode cX2_lay 23 = .ok (.iconst 1, 1) := by decide +kernel
theorem dX2_lay_24 : decode cX2_lay 24 = .ok (.isub, 1) := by decide +kernel
theorem dX2_lay_25 : decode cX2_lay 25 = .ok (.iastore, 1) := by decide +kernel
theorem dX2_lay_26 : decode cX2_lay 26 = .ok (.aload_n 0, 1) := by decide +kernel
theorem dX2_lay_27 : decode cX2_lay 27 = .ok (.dup, 1) := by decide +kernel
theorem dX2_lay_28 : decode cX2_lay 28 = .ok (.getfield 55, 3) := by decide +kernel
theorem dX2_lay_31 : decode cX2_lay 31 = .ok (.aload_n 0, 1) := by decide +kernel
theorem dX2_lay_32 : decode cX2_lay 32 = .ok (.getfield 18, 3) := by decide +kernel
theorem dX2_lay_35 : decode cX2_lay 35 = .ok (.getfield 100, 3) := by decide +kernel
theorem dX2_lay_38 : decode cX2_lay 38 = .ok (.iload_n 1, 1) := by decide +kernel
theorem dX2_lay_39 : decode cX2_lay 39 = .ok (.iaload, 1) := by decide +kernel
theorem dX2_lay_40 : decode cX2_lay 40 = .ok (.iadd, 1) := by decide +kernel
theorem dX2_lay_41 : decode cX2_lay 41 = .ok (.putfield 55, 3) := by decide +kernel
theorem dX2_lay_44 : decode cX2_lay 44 = .ok (.aload_n 0, 1) := by decide +kernel
theorem dX2_lay_45 : decode cX2_lay 45 = .ok (.getfield 15, 3) := by decide +kernel
theorem dX2_lay_48 : decode cX2_lay 48 = .ok (.aload_n 0, 1) := by decide +kernel
theorem dX2_lay_49 : decode cX2_lay 49 = .ok (.getfield 67, 3) := by decide +kernel
theorem dX2_lay_52 : decode cX2_lay 52 = .ok (.dup2, 1) := by decide +kernel
theorem dX2_lay_53 : decode cX2_lay 53 = .ok (.iaload, 1) := by decide +kernel
theorem dX2_lay_54 : decode cX2_lay 54 = .ok (.aload_n 0, 1) := by decide +kernel
theorem dX2_lay_55 : decode cX2_lay 55 = .ok (.aload_n 0, 1) := by decide +kernel
theorem dX2_lay_56 : decode cX2_lay 56 = .ok (.getfield 55, 3) := by decide +kernel
theorem dX2_lay_59 : decode cX2_lay 59 = .ok (.invokevirtual 107, 3) := by decide +kernel
theorem dX2_lay_62 : decode cX2_lay 62 = .ok (.ixor, 1) := by decide +kernel
theorem dX2_lay_63 : decode cX2_lay 63 = .ok (.iastore, 1) := by decide +kernel
theorem dX2_lay_64 : decode cX2_lay 64 = .ok (.return_, 1) := by decide +kernel
set_option maxRecDepth 20000 in
theorem ggX2_takeUp_X1_end : GoodIn wsX2_takeUp wsX1_end := goodIn_r _ [14, 15, 16, 17, 18, 34, 35, 36, 37, 38, 39, 40, 41, 42, 43, 44, 45, 46, 47, 48, 49, 50, 51, 52] (by decide +kernel) (by decide +kernel)
set_option maxRecDepth 20000 in
theorem gX2_takeUp_X1_end : GoodIn wsX2_takeUp (wsV RX2 117 RX1 yX1_end wsX1_end) := goodIn_app (goodIn_of _ (by decide +kernel)) ggX2_takeUp_X1_end
set_option maxRecDepth 20000 in
theorem ggX2_takeUp_X2_jointAt : GoodIn wsX2_takeUp wsX2_jointAt := goodIn_r _ [23, 24, 25, 26, 27, 28, 29, 30, 31, 32, 33, 53, 54, 55, 56, 57, 58, 59, 60, 61] (by decide +kernel) (by decide +kernel)
set_option maxRecDepth 20000 in
theorem gX2_takeUp_X2_jointAt : GoodIn wsX2_takeUp (wsV RX2 107 RX2 yX2_jointAt wsX2_jointAt) := goodIn_app (goodIn_of _ (by decide +kernel)) ggX2_takeUp_X2_jointAt
theorem dX2_takeUp_0 : decode cX2_takeUp 0 = .ok (.aload_n 0, 1) := by decide +kernel
theorem dX2_takeUp_1 : decode cX2_takeUp 1 = .ok (.getfield 26, 3) := by decide +kernel
theorem dX2_takeUp_4 : decode cX2_takeUp 4 = .ok (.getfield 38, 3) := by decide +kernel
theorem dX2_takeUp_7 : decode cX2_takeUp 7 = .ok (.iconst 1, 1) := by decide +kernel
theorem dX2_takeUp_8 : decode cX2_takeUp 8 = .ok (.isub, 1) := by decide +kernel
theorem dX2_takeUp_9 : decode cX2_takeUp 9 = .ok (.istore_n 1, 1) := by decide +kernel
theorem dX2_takeUp_10 : decode cX2_takeUp 10 = .ok (.aload_n 0, 1) := by decide +kernel
theorem dX2_takeUp_11 : decode cX2_takeUp 11 = .ok (.getfield 26, 3) := by decide +kernel
theorem dX2_takeUp_14 : decode cX2_takeUp 14 = .ok (.getfield 110, 3) := by decide +kernel
theorem dX2_takeUp_17 : decode cX2_takeUp 17 = .ok (.iload_n 1, 1) := by decide +kernel
theorem dX2_takeUp_18 : decode cX2_takeUp 18 = .ok (.iaload, 1) := by decide +kernel
theorem dX2_takeUp_19 : decode cX2_takeUp 19 = .ok (.istore_n 2, 1) := by decide +kernel
theorem dX2_takeUp_20 : decode cX2_takeUp 20 = .ok (.aload_n 0, 1) := by decide +kernel
theorem dX2_takeUp_21 : decode cX2_takeUp 21 = .ok (.aload_n 0, 1) := by decide +kernel
theorem dX2_takeUp_22 : decode cX2_takeUp 22 = .ok (.getfield 26, 3) := by decide +kernel
theorem dX2_takeUp_25 : decode cX2_takeUp 25 = .ok (.getfield 112, 3) := by decide +kernel
theorem dX2_takeUp_28 : decode cX2_takeUp 28 = .ok (.iload_n 1, 1) := by decide +kernel
theorem dX2_takeUp_29 : decode cX2_takeUp 29 = .ok (.iaload, 1) := by decide +kernel
theorem dX2_takeUp_30 : decode cX2_takeUp 30 = .ok (.putfield 67, 3) := by decide +kernel
theorem dX2_takeUp_33 : decode cX2_takeUp 33 = .ok (.aload_n 0, 1) := by decide +kernel
theorem dX2_takeUp_34 : decode cX2_takeUp 34 = .ok (.aload_n 0, 1) := by decide +kernel
theorem dX2_takeUp_35 : decode cX2_takeUp 35 = .ok (.getfield 26, 3) := by decide +kernel
theorem dX2_takeUp_38 : decode cX2_takeUp 38 = .ok (.getfield 114, 3) := by decide +kernel
theorem dX2_takeUp_41 : decode cX2_takeUp 41 = .ok (.iload_n 1, 1) := by decide +kernel
theorem dX2_takeUp_42 : decode cX2_takeUp 42 = .ok (.iaload, 1) := by decide +kernel
theorem dX2_takeUp_43 : decode cX2_takeUp 43 = .ok (.putfield 55, 3) := by decide +kernel
theorem dX2_takeUp_46 : decode cX2_takeUp 46 = .ok (.aload_n 0, 1) := by decide +kernel
theorem dX2_takeUp_47 : decode cX2_takeUp 47 = .ok (.getfield 15, 3) := by decide +kernel
theorem dX2_takeUp_50 : decode cX2_takeUp 50 = .ok (.aload_n 0, 1) := by decide +kernel
theorem dX2_takeUp_51 : decode cX2_takeUp 51 = .ok (.getfield 67, 3) := by decide +kernel
theorem dX2_takeUp_54 : decode cX2_takeUp 54 = .ok (.dup2, 1) := by decide +kernel
theorem dX2_takeUp_55 : decode cX2_takeUp 55 = .ok (.iaload, 1) := by decide +kernel
theorem dX2_takeUp_56 : decode cX2_takeUp 56 = .ok (.aload_n 0, 1) := by decide +kernel
theorem dX2_takeUp_57 : decode cX2_takeUp 57 = .ok (.aload_n 0, 1) := by decide +kernel
theorem dX2_takeUp_58 : decode cX2_takeUp 58 = .ok (.getfield 26, 3) := by decide +kernel
theorem dX2_takeUp_61 : decode cX2_takeUp 61 = .ok (.iload_n 1, 1) := by decide +kernel
theorem dX2_takeUp_62 : decode cX2_takeUp 62 = .ok (.invokevirtual 117, 3) := by decide +kernel
theorem dX2_takeUp_65 : decode cX2_takeUp 65 = .ok (.invokevirtual 107, 3) := by decide +kernel
theorem dX2_takeUp_68 : decode cX2_takeUp 68 = .ok (.ixor, 1) := by decide +kernel
theorem dX2_takeUp_69 : decode cX2_takeUp 69 = .ok (.iastore, 1) := by decide +kernel
theorem dX2_takeUp_70 : decode cX2_takeUp 70 = .ok (.aload_n 0, 1) := by decide +kernel
theorem dX2_takeUp_71 : decode cX2_takeUp 71 = .ok (.getfield 9, 3) := by decide +kernel
theorem dX2_takeUp_74 : decode cX2_takeUp 74 = .ok (.iload_n 2, 1) := by decide +kernel
theorem dX2_takeUp_75 : decode cX2_takeUp 75 = .ok (.dup2, 1) := by decide +kernel
theorem dX2_takeUp_76 : decode cX2_takeUp 76 = .ok (.iaload, 1) := by decide +kernel
theorem dX2_takeUp_77 : decode cX2_takeUp 77 = .ok (.iconst 1, 1) := by decide +kernel
theorem dX2_takeUp_78 : decode cX2_takeUp 78 = .ok (.iadd, 1) := by decide +kernel
theorem dX2_takeUp_79 : decode cX2_takeUp 79 = .ok (.iastore, 1) := by decide +kernel
theorem dX2_takeUp_80 : decode cX2_takeUp 80 = .ok (.aload_n 0, 1) := by decide +kernel
theorem dX2_takeUp_81 : decode cX2_takeUp 81 = .ok (.getfield 26, 3) := by decide +kernel
theorem dX2_takeUp_84 : decode cX2_takeUp 84 = .ok (.iload_n 1, 1) := by decide +kernel
theorem dX2_takeUp_85 : decode cX2_takeUp 85 = .ok (.putfield 38, 3) := by decide +kernel
theorem dX2_takeUp_88 : decode cX2_takeUp 88 = .ok (.iload_n 2, 1) := by decide +kernel
theorem dX2_takeUp_89 : decode cX2_takeUp 89 = .ok (.ireturn, 1) := by decide +kernel
theorem dX2_jointAt_0 : decode cX2_jointAt 0 = .ok (.iload_n 1, 1) := by decide +kernel
theorem dX2_jointAt_1 : decode cX2_jointAt 1 = .ok (.aload_n 0, 1) := by decide +kernel
theorem dX2_jointAt_2 : decode cX2_jointAt 2 = .ok (.getfield 22, 3) := by decide +kernel
theorem dX2_jointAt_5 : decode cX2_jointAt 5 = .ok (.getfield 58, 3) := by decide +kernel
theorem dX2_jointAt_8 : decode cX2_jointAt 8 = .ok (.if_icmp .ge 9, 3) := by decide +kernel
theorem dX2_jointAt_11 : decode cX2_jointAt 11 = .ok (.iconst 1, 1) := by decide +kernel
theorem dX2_jointAt_12 : decode cX2_jointAt 12 = .ok (.iload_n 1, 1) := by decide +kernel
theorem dX2_jointAt_13 : decode cX2_jointAt 13 = .ok (.ishl, 1) := by decide +kernel
theorem dX2_jointAt_14 : decode cX2_jointAt 14 = .ok (.goto 4, 3) := by decide +kernel
theorem dX2_jointAt_17 : decode cX2_jointAt 17 = .ok (.iconst 0, 1) := by decide +kernel
theorem dX2_jointAt_18 : decode cX2_jointAt 18 = .ok (.ireturn, 1) := by decide +kernel
set_option maxRecDepth 20000 in
theorem ggX2_hasThroughsAsked_X1_isThroughStone : GoodIn wsX2_hasThroughsAsked wsX1_isThroughStone := goodIn_r _ [10, 11, 12, 13, 14, 15, 16, 17, 18, 19, 20, 21, 22, 23, 24, 25, 26, 41, 42, 43, 44, 45, 46, 47, 48, 49, 50, 51, 52, 53, 54, 55, 56, 57, 58, 59, 60, 61, 62, 63, 64, 65, 66, 67, 68] (by decide +kernel) (by decide +kernel)
set_option maxRecDepth 20000 in
theorem gX2_hasThroughsAsked_X1_isThroughStone : GoodIn wsX2_hasThroughsAsked (wsV RX2 120 RX1 yX1_isThroughStone wsX1_isThroughStone) := goodIn_app (goodIn_of _ (by decide +kernel)) ggX2_hasThroughsAsked_X1_isThroughStone
set_option maxRecDepth 20000 in
theorem ggX2_hasThroughsAsked_X3_throughsAsked : GoodIn wsX2_hasThroughsAsked wsX3_throughsAsked := goodIn_r _ [30, 31, 32, 60, 61, 62, 63, 64, 65, 66, 67, 68] (by decide +kernel) (by decide +kernel)
set_option maxRecDepth 20000 in
theorem gX2_hasThroughsAsked_X3_throughsAsked : GoodIn wsX2_hasThroughsAsked (wsV RX2 123 RX3 yX3_throughsAsked wsX3_throughsAsked) := goodIn_app (goodIn_of _ (by decide +kernel)) ggX2_hasThroughsAsked_X3_throughsAsked
theorem dX2_hasThroughsAsked_0 : decode cX2_hasThroughsAsked 0 = .ok (.iconst 0, 1) := by decide +kernel
theorem dX2_hasThroughsAsked_1 : decode cX2_hasThroughsAsked 1 = .ok (.istore_n 1, 1) := by decide +kernel
theorem dX2_hasThroughsAsked_2 : decode cX2_hasThroughsAsked 2 = .ok (.aload_n 0, 1) := by decide +kernel
theorem dX2_hasThroughsAsked_3 : decode cX2_hasThroughsAsked 3 = .ok (.getfield 26, 3) := by decide +kernel
theorem dX2_hasThroughsAsked_6 : decode cX2_hasThroughsAsked 6 = .ok (.getfield 38, 3) := by decide +kernel
theorem dX2_hasThroughsAsked_9 : decode cX2_hasThroughsAsked 9 = .ok (.iconst 1, 1) := by decide +kernel
theorem dX2_hasThroughsAsked_10 : decode cX2_hasThroughsAsked 10 = .ok (.isub, 1) := by decide +kernel
theorem dX2_hasThroughsAsked_11 : decode cX2_hasThroughsAsked 11 = .ok (.istore_n 2, 1) := by decide +kernel
theorem dX2_hasThroughsAsked_12 : decode cX2_hasThroughsAsked 12 = .ok (.iload_n 2, 1) := by decide +kernel
theorem dX2_hasThroughsAsked_13 : decode cX2_hasThroughsAsked 13 = .ok (.ifCond .lt 44, 3) := by decide +kernel
theorem dX2_hasThroughsAsked_16 : decode cX2_hasThroughsAsked 16 = .ok (.aload_n 0, 1) := by decide +kernel
theorem dX2_hasThroughsAsked_17 : decode cX2_hasThroughsAsked 17 = .ok (.getfield 26, 3) := by decide +kernel
theorem dX2_hasThroughsAsked_20 : decode cX2_hasThroughsAsked 20 = .ok (.getfield 112, 3) := by decide +kernel
theorem dX2_hasThroughsAsked_23 : decode cX2_hasThroughsAsked 23 = .ok (.iload_n 2, 1) := by decide +kernel
theorem dX2_hasThroughsAsked_24 : decode cX2_hasThroughsAsked 24 = .ok (.iaload, 1) := by decide +kernel
theorem dX2_hasThroughsAsked_25 : decode cX2_hasThroughsAsked 25 = .ok (.aload_n 0, 1) := by decide +kernel
theorem dX2_hasThroughsAsked_26 : decode cX2_hasThroughsAsked 26 = .ok (.getfield 67, 3) := by decide +kernel
theorem dX2_hasThroughsAsked_29 : decode cX2_hasThroughsAsked 29 = .ok (.if_icmp .ne 28, 3) := by decide +kernel
theorem dX2_hasThroughsAsked_32 : decode cX2_hasThroughsAsked 32 = .ok (.iload_n 1, 1) := by decide +kernel
theorem dX2_hasThroughsAsked_33 : decode cX2_hasThroughsAsked 33 = .ok (.aload_n 0, 1) := by decide +kernel
theorem dX2_hasThroughsAsked_34 : decode cX2_hasThroughsAsked 34 = .ok (.getfield 26, 3) := by decide +kernel
theorem dX2_hasThroughsAsked_37 : decode cX2_hasThroughsAsked 37 = .ok (.iload_n 2, 1) := by decide +kernel
theorem dX2_hasThroughsAsked_38 : decode cX2_hasThroughsAsked 38 = .ok (.invokevirtual 120, 3) := by decide +kernel
theorem dX2_hasThroughsAsked_41 : decode cX2_hasThroughsAsked 41 = .ok (.ifCond .eq 7, 3) := by decide +kernel
theorem dX2_hasThroughsAsked_44 : decode cX2_hasThroughsAsked 44 = .ok (.iconst 1, 1) := by decide +kernel
theorem dX2_hasThroughsAsked_45 : decode cX2_hasThroughsAsked 45 = .ok (.goto 4, 3) := by decide +kernel
theorem dX2_hasThroughsAsked_48 : decode cX2_hasThroughsAsked 48 = .ok (.iconst 0, 1) := by decide +kernel
theorem dX2_hasThroughsAsked_49 : decode cX2_hasThroughsAsked 49 = .ok (.iadd, 1) := by decide +kernel
theorem dX2_hasThroughsAsked_50 : decode cX2_hasThroughsAsked 50 = .ok (.istore_n 1, 1) := by decide +kernel
theorem dX2_hasThroughsAsked_51 : decode cX2_hasThroughsAsked 51 = .ok (.iinc 2 (-1), 3) := by decide +kernel
theorem dX2_hasThroughsAsked_54 : decode cX2_hasThroughsAsked 54 = .ok (.goto (-42), 3) := by decide +kernel
theorem dX2_hasThroughsAsked_57 : decode cX2_hasThroughsAsked 57 = .ok (.iload_n 1, 1) := by decide +kernel
theorem dX2_hasThroughsAsked_58 : decode cX2_hasThroughsAsked 58 = .ok (.aload_n 0, 1) := by decide +kernel
theorem dX2_hasThroughsAsked_59 : decode cX2_hasThroughsAsked 59 = .ok (.getfield 22, 3) := by decide +kernel
theorem dX2_hasThroughsAsked_62 : decode cX2_hasThroughsAsked 62 = .ok (.aload_n 0, 1) := by decide +kernel
theorem dX2_hasThroughsAsked_63 : decode cX2_hasThroughsAsked 63 = .ok (.getfield 67, 3) := by decide +kernel
theorem dX2_hasThroughsAsked_66 : decode cX2_hasThroughsAsked 66 = .ok (.invokevirtual 123, 3) := by decide +kernel
theorem dX2_hasThroughsAsked_69 : decode cX2_hasThroughsAsked 69 = .ok (.if_icmp .lt 7, 3) := by decide +kernel
theorem dX2_hasThroughsAsked_72 : decode cX2_hasThroughsAsked 72 = .ok (.iconst 1, 1) := by decide +kernel
theorem dX2_hasThroughsAsked_73 : decode cX2_hasThroughsAsked 73 = .ok (.goto 4, 3) := by decide +kernel
theorem dX2_hasThroughsAsked_76 : decode cX2_hasThroughsAsked 76 = .ok (.iconst 0, 1) := by decide +kernel
theorem dX2_hasThroughsAsked_77 : decode cX2_hasThroughsAsked 77 = .ok (.ireturn, 1) := by decide +kernel
theorem dX3_init_0 : decode cX3_init 0 = .ok (.aload_n 0, 1) := by decide +kernel
theorem dX3_init_1 : decode cX3_init 1 = .ok (.invokespecial 1, 3) := by decide +kernel
theorem dX3_init_4 : decode cX3_init 4 = .ok (.return_, 1) := by decide +kernel
theorem dX3_tell_0 : decode cX3_tell 0 = .ok (.aload_n 0, 1) := by decide +kernel
theorem dX3_tell_1 : decode cX3_tell 1 = .ok (.iconst 1, 1) := by decide +kernel
theorem dX3_tell_2 : decode cX3_tell 2 = .ok (.putfield 7, 3) := by decide +kernel
theorem dX3_tell_5 : decode cX3_tell 5 = .ok (.aload_n 0, 1) := by decide +kernel
theorem dX3_tell_6 : decode cX3_tell 6 = .ok (.iload_n 1, 1) := by decide +kernel
theorem dX3_tell_7 : decode cX3_tell 7 = .ok (.putfield 13, 3) := by decide +kernel
theorem dX3_tell_10 : decode cX3_tell 10 = .ok (.aload_n 0, 1) := by decide +kernel
theorem dX3_tell_11 : decode cX3_tell 11 = .ok (.iload_n 2, 1) := by decide +kernel
theorem dX3_tell_12 : decode cX3_tell 12 = .ok (.putfield 17, 3) := by decide +kernel
theorem dX3_tell_15 : decode cX3_tell 15 = .ok (.aload_n 0, 1) := by decide +kernel
theorem dX3_tell_16 : decode cX3_tell 16 = .ok (.iload_n 3, 1) := by decide +kernel
theorem dX3_tell_17 : decode cX3_tell 17 = .ok (.putfield 20, 3) := by decide +kernel
theorem dX3_tell_20 : decode cX3_tell 20 = .ok (.aload_n 0, 1) := by decide +kernel
theorem dX3_tell_21 : decode cX3_tell 21 = .ok (.iload 4, 2) := by decide +kernel
theorem dX3_tell_23 : decode cX3_tell 23 = .ok (.putfield 23, 3) := by decide +kernel
theorem dX3_tell_26 : decode cX3_tell 26 = .ok (.aload_n 0, 1) := by decide +kernel
theorem dX3_tell_27 : decode cX3_tell 27 = .ok (.iload 5, 2) := by decide +kernel
theorem dX3_tell_29 : decode cX3_tell 29 = .ok (.putfield 26, 3) := by decide +kernel
theorem dX3_tell_32 : decode cX3_tell 32 = .ok (.aload_n 0, 1) := by decide +kernel
theorem dX3_tell_33 : decode cX3_tell 33 = .ok (.iload 6, 2) := by decide +kernel
theorem dX3_tell_35 : decode cX3_tell 35 = .ok (.putfield 29, 3) := by decide +kernel
theorem dX3_tell_38 : decode cX3_tell 38 = .ok (.aload_n 0, 1) := by decide +kernel
theorem dX3_tell_39 : decode cX3_tell 39 = .ok (.iconst 0, 1) := by decide +kernel
theorem dX3_tell_40 : decode cX3_tell 40 = .ok (.putfield 32, 3) := by decide +kernel
theorem dX3_tell_43 : decode cX3_tell 43 = .ok (.aload_n 0, 1) := by decide +kernel
theorem dX3_tell_44 : decode cX3_tell 44 = .ok (.iconst 0, 1) := by decide +kernel
theorem dX3_tell_45 : decode cX3_tell 45 = .ok (.putfield 35, 3) := by decide +kernel
theorem dX3_tell_48 : decode cX3_tell 48 = .ok (.return_, 1) := by decide +kernel
theorem dX3_width_0 : decode cX3_width 0 = .ok (.iconst 1, 1) := by decide +kernel
theorem dX3_width_1 : decode cX3_width 1 = .ok (.aload_n 0, 1) := by decide +kernel
theorem dX3_width_2 : decode cX3_width 2 = .ok (.getfield 26, 3) := by decide +kernel
theorem dX3_width_5 : decode cX3_width 5 = .ok (.iload_n 1, 1) := by decide +kernel
theorem dX3_width_6 : decode cX3_width 6 = .ok (.aload_n 0, 1) := by decide +kernel
theorem dX3_width_7 : decode cX3_width 7 = .ok (.getfield 29, 3) := by decide +kernel
theorem dX3_width_10 : decode cX3_width 10 = .ok (.imul, 1) := by decide +kernel
theorem dX3_width_11 : decode cX3_width 11 = .ok (.isub, 1) := by decide +kernel
theorem dX3_width_12 : decode cX3_width 12 = .ok (.invokestatic 38, 3) := by decide +kernel
theorem dX3_width_15 : decode cX3_width 15 = .ok (.ireturn, 1) := by decide +kernel
theorem dX3_throughsAsked_0 : decode cX3_throughsAsked 0 = .ok (.aload_n 0, 1) := by decide +kernel
theorem dX3_throughsAsked_1 : decode cX3_throughsAsked 1 = .ok (.getfield 32, 3) := by decide +kernel
theorem dX3_throughsAsked_4 : decode cX3_throughsAsked 4 = .ok (.iload_n 1, 1) := by decide +kernel
theorem dX3_throughsAsked_5 : decode cX3_throughsAsked 5 = .ok (.ishr, 1) := by decide +kernel
theorem dX3_throughsAsked_6 : decode cX3_throughsAsked 6 = .ok (.iconst 1, 1) := by decide +kernel
theorem dX3_throughsAsked_7 : decode cX3_throughsAsked 7 = .ok (.iand, 1) := by decide +kernel
theorem dX3_throughsAsked_8 : decode cX3_throughsAsked 8 = .ok (.iconst 1, 1) := by decide +kernel
theorem dX3_throughsAsked_9 : decode cX3_throughsAsked 9 = .ok (.if_icmp .ne 10, 3) := by decide +kernel
theorem dX3_throughsAsked_12 : decode cX3_throughsAsked 12 = .ok (.aload_n 0, 1) := by decide +kernel
theorem dX3_throughsAsked_13 : decode cX3_throughsAsked 13 = .ok (.getfield 35, 3) := by decide +kernel
theorem dX3_throughsAsked_16 : decode cX3_throughsAsked 16 = .ok (.goto 4, 3) := by decide +kernel
theorem dX3_throughsAsked_19 : decode cX3_throughsAsked 19 = .ok (.iconst 0, 1) := by decide +kernel
theorem dX3_throughsAsked_20 : decode cX3_throughsAsked 20 = .ok (.ireturn, 1) := by decide +kernel
theorem dX4_init_0 : decode cX4_init 0 = .ok (.aload_n 0, 1) := by decide +kernel
theorem dX4_init_1 : decode cX4_init 1 = .ok (.invokespecial 3, 3) := by decide +kernel
theorem dX4_init_4 : decode cX4_init 4 = .ok (.aload_n 0, 1) := by decide +kernel
theorem dX4_init_5 : decode cX4_init 5 = .ok (.bipush 8, 2) := by decide +kernel
theorem dX4_init_7 : decode cX4_init 7 = .ok (.newarray .int, 2) := by decide +kernel
theorem dX4_init_9 : decode cX4_init 9 = .ok (.putfield 9, 3) := by decide +kernel
theorem dX4_init_12 : decode cX4_init 12 = .ok (.aload_n 0, 1) := by decide +kernel
theorem dX4_init_13 : decode cX4_init 13 = .ok (.bipush 8, 2) := by decide +kernel
theorem dX4_init_15 : decode cX4_init 15 = .ok (.newarray .int, 2) := by decide +kernel
theorem dX4_init_17 : decode cX4_init 17 = .ok (.putfield 15, 3) := by decide +kernel
theorem dX4_init_20 : decode cX4_init 20 = .ok (.aload_n 0, 1) := by decide +kernel
theorem dX4_init_21 : decode cX4_init 21 = .ok (.iconst 5, 1) := by decide +kernel
theorem dX4_init_22 : decode cX4_init 22 = .ok (.newarray .int, 2) := by decide +kernel
theorem dX4_init_24 : decode cX4_init 24 = .ok (.putfield 18, 3) := by decide +kernel
theorem dX4_init_27 : decode cX4_init 27 = .ok (.aload_n 0, 1) := by decide +kernel
theorem dX4_init_28 : decode cX4_init 28 = .ok (.iconst 5, 1) := by decide +kernel
theorem dX4_init_29 : decode cX4_init 29 = .ok (.newarray .int, 2) := by decide +kernel
theorem dX4_init_31 : decode cX4_init 31 = .ok (.putfield 21, 3) := by decide +kernel
theorem dX4_init_34 : decode cX4_init 34 = .ok (.aload_n 0, 1) := by decide +kernel
theorem dX4_init_35 : decode cX4_init 35 = .ok (.iconst 5, 1) := by decide +kernel
theorem dX4_init_36 : decode cX4_init 36 = .ok (.bipush 8, 2) := by decide +kernel
theorem dX4_init_38 : decode cX4_init 38 = .ok (.multianewarray 24 2, 4) := by decide +kernel
theorem dX4_init_42 : decode cX4_init 42 = .ok (.putfield 26, 3) := by decide +kernel
theorem dX4_init_45 : decode cX4_init 45 = .ok (.return_, 1) := by decide +kernel
theorem dX4_hasKind_0 : decode cX4_hasKind 0 = .ok (.iload_n 1, 1) := by decide +kernel
theorem dX4_hasKind_1 : decode cX4_hasKind 1 = .ok (.ifCond .lt 15, 3) := by decide +kernel
theorem dX4_hasKind_4 : decode cX4_hasKind 4 = .ok (.iload_n 1, 1) := by decide +kernel
theorem dX4_hasKind_5 : decode cX4_hasKind 5 = .ok (.aload_n 0, 1) := by decide +kernel
theorem dX4_hasKind_6 : decode cX4_hasKind 6 = .ok (.getfield 29, 3) := by decide +kernel
theorem dX4_hasKind_9 : decode cX4_hasKind 9 = .ok (.if_icmp .ge 7, 3) := by decide +kernel
theorem dX4_hasKind_12 : decode cX4_hasKind 12 = .ok (.iconst 1, 1) := by decide +kernel
theorem dX4_hasKind_13 : decode cX4_hasKind 13 = .ok (.goto 4, 3) := by decide +kernel
theorem dX4_hasKind_16 : decode cX4_hasKind 16 = .ok (.iconst 0, 1) := by decide +kernel
theorem dX4_hasKind_17 : decode cX4_hasKind 17 = .ok (.ireturn, 1) := by decide +kernel
theorem dX4_hasHeap_0 : decode cX4_hasHeap 0 = .ok (.iload_n 1, 1) := by decide +kernel
theorem dX4_hasHeap_1 : decode cX4_hasHeap 1 = .ok (.ifCond .lt 15, 3) := by decide +kernel
theorem dX4_hasHeap_4 : decode cX4_hasHeap 4 = .ok (.iload_n 1, 1) := by decide +kernel
theorem dX4_hasHeap_5 : decode cX4_hasHeap 5 = .ok (.aload_n 0, 1) := by decide +kernel
theorem dX4_hasHeap_6 : decode cX4_hasHeap 6 = .ok (.getfield 33, 3) := by decide +kernel
theorem dX4_hasHeap_9 : decode cX4_hasHeap 9 = .ok (.if_icmp .ge 7, 3) := by decide +kernel
theorem dX4_hasHeap_12 : decode cX4_hasHeap 12 = .ok (.iconst 1, 1) := by decide +kernel
theorem dX4_hasHeap_13 : decode cX4_hasHeap 13 = .ok (.goto 4, 3) := by decide +kernel
theorem dX4_hasHeap_16 : decode cX4_hasHeap 16 = .ok (.iconst 0, 1) := by decide +kernel
theorem dX4_hasHeap_17 : decode cX4_hasHeap 17 = .ok (.ireturn, 1) := by decide +kernel
theorem dX4_addKind_0 : decode cX4_addKind 0 = .ok (.aload_n 0, 1) := by decide +kernel
theorem dX4_addKind_1 : decode cX4_addKind 1 = .ok (.getfield 29, 3) := by decide +kernel
theorem dX4_addKind_4 : decode cX4_addKind 4 = .ok (.bipush 8, 2) := by decide +kernel
theorem dX4_addKind_6 : decode cX4_addKind 6 = .ok (.if_icmp .lt 5, 3) := by decide +kernel
theorem dX4_addKind_9 : decode cX4_addKind 9 = .ok (.iconst (-1), 1) := by decide +kernel
theorem dX4_addKind_10 : decode cX4_addKind 10 = .ok (.ireturn, 1) := by decide +kernel
theorem dX4_addKind_11 : decode cX4_addKind 11 = .ok (.aload_n 0, 1) := by decide +kernel
theorem dX4_addKind_12 : decode cX4_addKind 12 = .ok (.getfield 9, 3) := by decide +kernel
theorem dX4_addKind_15 : decode cX4_addKind 15 = .ok (.aload_n 0, 1) := by decide +kernel
theorem dX4_addKind_16 : decode cX4_addKind 16 = .ok (.getfield 29, 3) := by decide +kernel
theorem dX4_addKind_19 : decode cX4_addKind 19 = .ok (.iload_n 1, 1) := by decide +kernel
theorem dX4_addKind_20 : decode cX4_addKind 20 = .ok (.iastore, 1) := by decide +kernel
theorem dX4_addKind_21 : decode cX4_addKind 21 = .ok (.aload_n 0, 1) := by decide +kernel
theorem dX4_addKind_22 : decode cX4_addKind 22 = .ok (.getfield 15, 3) := by decide +kernel
theorem dX4_addKind_25 : decode cX4_addKind 25 = .ok (.aload_n 0, 1) := by decide +kernel
theorem dX4_addKind_26 : decode cX4_addKind 26 = .ok (.getfield 29, 3) := by decide +kernel
theorem dX4_addKind_29 : decode cX4_addKind 29 = .ok (.iload_n 2, 1) := by decide +kernel
theorem dX4_addKind_30 : decode cX4_addKind 30 = .ok (.iastore, 1) := by decide +kernel
theorem dX4_addKind_31 : decode cX4_addKind 31 = .ok (.aload_n 0, 1) := by decide +kernel
theorem dX4_addKind_32 : decode cX4_addKind 32 = .ok (.dup, 1) := by decide +kernel
theorem dX4_addKind_33 : decode cX4_addKind 33 = .ok (.getfield 29, 3) := by decide +kernel
theorem dX4_addKind_36 : decode cX4_addKind 36 = .ok (.iconst 1, 1) := by decide +kernel
theorem dX4_addKind_37 : decode cX4_addKind 37 = .ok (.iadd, 1) := by decide +kernel
theorem dX4_addKind_38 : decode cX4_addKind 38 = .ok (.putfield 29, 3) := by decide +kernel
theorem dX4_addKind_41 : decode cX4_addKind 41 = .ok (.aload_n 0, 1) := by decide +kernel
theorem dX4_addKind_42 : decode cX4_addKind 42 = .ok (.getfield 29, 3) := by decide +kernel
theorem dX4_addKind_45 : decode cX4_addKind 45 = .ok (.iconst 1, 1) := by decide +kernel
theorem dX4_addKind_46 : decode cX4_addKind 46 = .ok (.isub, 1) := by decide +kernel
theorem dX4_addKind_47 : decode cX4_addKind 47 = .ok (.ireturn, 1) := by decide +kernel
theorem dX4_addHeap_0 : decode cX4_addHeap 0 = .ok (.aload_n 0, 1) := by decide +kernel
theorem dX4_addHeap_1 : decode cX4_addHeap 1 = .ok (.getfield 33, 3) := by decide +kernel
theorem dX4_addHeap_4 : decode cX4_addHeap 4 = .ok (.iconst 5, 1) := by decide +kernel
theorem dX4_addHeap_5 : decode cX4_addHeap 5 = .ok (.if_icmp .lt 5, 3) := by decide +kernel
theorem dX4_addHeap_8 : decode cX4_addHeap 8 = .ok (.iconst (-1), 1) := by decide +kernel
theorem dX4_addHeap_9 : decode cX4_addHeap 9 = .ok (.ireturn, 1) := by decide +kernel
theorem dX4_addHeap_10 : decode cX4_addHeap 10 = .ok (.aload_n 0, 1) := by decide +kernel
theorem dX4_addHeap_11 : decode cX4_addHeap 11 = .ok (.getfield 18, 3) := by decide +kernel
theorem dX4_addHeap_14 : decode cX4_addHeap 14 = .ok (.aload_n 0, 1) := by decide +kernel
theorem dX4_addHeap_15 : decode cX4_addHeap 15 = .ok (.getfield 33, 3) := by decide +kernel
theorem dX4_addHeap_18 : decode cX4_addHeap 18 = .ok (.iload_n 1, 1) := by decide +kernel
theorem dX4_addHeap_19 : decode cX4_addHeap 19 = .ok (.iastore, 1) := by decide +kernel
theorem dX4_addHeap_20 : decode cX4_addHeap 20 = .ok (.aload_n 0, 1) := by decide +kernel
theorem dX4_addHeap_21 : decode cX4_addHeap 21 = .ok (.getfield 21, 3) := by decide +kernel
theorem dX4_addHeap_24 : decode cX4_addHeap 24 = .ok (.aload_n 0, 1) := by decide +kernel
theorem dX4_addHeap_25 : decode cX4_addHeap 25 = .ok (.getfield 33, 3) := by decide +kernel
theorem dX4_addHeap_28 : decode cX4_addHeap 28 = .ok (.iload_n 2, 1) := by decide +kernel
theorem dX4_addHeap_29 : decode cX4_addHeap 29 = .ok (.iastore, 1) := by decide +kernel
theorem dX4_addHeap_30 : decode cX4_addHeap 30 = .ok (.aload_n 0, 1) := by decide +kernel
theorem dX4_addHeap_31 : decode cX4_addHeap 31 = .ok (.dup, 1) := by decide +kernel
theorem dX4_addHeap_32 : decode cX4_addHeap 32 = .ok (.getfield 33, 3) := by decide +kernel
theorem dX4_addHeap_35 : decode cX4_addHeap 35 = .ok (.iconst 1, 1) := by decide +kernel
theorem dX4_addHeap_36 : decode cX4_addHeap 36 = .ok (.iadd, 1) := by decide +kernel
theorem dX4_addHeap_37 : decode cX4_addHeap 37 = .ok (.putfield 33, 3) := by decide +kernel
theorem dX4_addHeap_40 : decode cX4_addHeap 40 = .ok (.aload_n 0, 1) := by decide +kernel
theorem dX4_addHeap_41 : decode cX4_addHeap 41 = .ok (.getfield 33, 3) := by decide +kernel
theorem dX4_addHeap_44 : decode cX4_addHeap 44 = .ok (.iconst 1, 1) := by decide +kernel
theorem dX4_addHeap_45 : decode cX4_addHeap 45 = .ok (.isub, 1) := by decide +kernel
theorem dX4_addHeap_46 : decode cX4_addHeap 46 = .ok (.ireturn, 1) := by decide +kernel
theorem dX4_inHeaps_0 : decode cX4_inHeaps 0 = .ok (.iconst 0, 1) := by decide +kernel
theorem dX4_inHeaps_1 : decode cX4_inHeaps 1 = .ok (.istore_n 2, 1) := by decide +kernel
theorem dX4_inHeaps_2 : decode cX4_inHeaps 2 = .ok (.iconst 0, 1) := by decide +kernel
theorem dX4_inHeaps_3 : decode cX4_inHeaps 3 = .ok (.istore_n 3, 1) := by decide +kernel
theorem dX4_inHeaps_4 : decode cX4_inHeaps 4 = .ok (.iload_n 3, 1) := by decide +kernel
theorem dX4_inHeaps_5 : decode cX4_inHeaps 5 = .ok (.aload_n 0, 1) := by decide +kernel
theorem dX4_inHeaps_6 : decode cX4_inHeaps 6 = .ok (.getfield 33, 3) := by decide +kernel
theorem dX4_inHeaps_9 : decode cX4_inHeaps 9 = .ok (.if_icmp .ge 20, 3) := by decide +kernel
theorem dX4_inHeaps_12 : decode cX4_inHeaps 12 = .ok (.iload_n 2, 1) := by decide +kernel
theorem dX4_inHeaps_13 : decode cX4_inHeaps 13 = .ok (.aload_n 0, 1) := by decide +kernel
theorem dX4_inHeaps_14 : decode cX4_inHeaps 14 = .ok (.getfield 26, 3) := by decide +kernel
theorem dX4_inHeaps_17 : decode cX4_inHeaps 17 = .ok (.iload_n 3, 1) := by decide +kernel
theorem dX4_inHeaps_18 : decode cX4_inHeaps 18 = .ok (.aaload, 1) := by decide +kernel
theorem dX4_inHeaps_19 : decode cX4_inHeaps 19 = .ok (.iload_n 1, 1) := by decide +kernel
theorem dX4_inHeaps_20 : decode cX4_inHeaps 20 = .ok (.iaload, 1) := by decide +kernel
theorem dX4_inHeaps_21 : decode cX4_inHeaps 21 = .ok (.iadd, 1) := by decide +kernel
theorem dX4_inHeaps_22 : decode cX4_inHeaps 22 = .ok (.istore_n 2, 1) := by decide +kernel
theorem dX4_inHeaps_23 : decode cX4_inHeaps 23 = .ok (.iinc 3 1, 3) := by decide +kernel
theorem dX4_inHeaps_26 : decode cX4_inHeaps 26 = .ok (.goto (-22), 3) := by decide +kernel
theorem dX4_inHeaps_29 : decode cX4_inHeaps 29 = .ok (.iload_n 2, 1) := by decide +kernel
theorem dX4_inHeaps_30 : decode cX4_inHeaps 30 = .ok (.ireturn, 1) := by decide +kernel
