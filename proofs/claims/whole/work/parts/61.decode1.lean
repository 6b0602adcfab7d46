theorem dX0_isCell_0 : decode cX0_isCell 0 = .ok (.iload_n 0, 1) := by decide +kernel
theorem dX0_isCell_1 : decode cX0_isCell 1 = .ok (.ifCond .lt 13, 3) := by decide +kernel
theorem dX0_isCell_4 : decode cX0_isCell 4 = .ok (.iload_n 0, 1) := by decide +kernel
theorem dX0_isCell_5 : decode cX0_isCell 5 = .ok (.bipush 36, 2) := by decide +kernel
theorem dX0_isCell_7 : decode cX0_isCell 7 = .ok (.if_icmp .ge 7, 3) := by decide +kernel
theorem dX0_isCell_10 : decode cX0_isCell 10 = .ok (.iconst 1, 1) := by decide +kernel
theorem dX0_isCell_11 : decode cX0_isCell 11 = .ok (.goto 4, 3) := by decide +kernel
theorem dX0_isCell_14 : decode cX0_isCell 14 = .ok (.iconst 0, 1) := by decide +kernel
theorem dX0_isCell_15 : decode cX0_isCell 15 = .ok (.ireturn, 1) := by decide +kernel
theorem dX0_isWay_0 : decode cX0_isWay 0 = .ok (.iload_n 0, 1) := by decide +kernel
theorem dX0_isWay_1 : decode cX0_isWay 1 = .ok (.ifCond .lt 12, 3) := by decide +kernel
theorem dX0_isWay_4 : decode cX0_isWay 4 = .ok (.iload_n 0, 1) := by decide +kernel
theorem dX0_isWay_5 : decode cX0_isWay 5 = .ok (.iconst 4, 1) := by decide +kernel
theorem dX0_isWay_6 : decode cX0_isWay 6 = .ok (.if_icmp .ge 7, 3) := by decide +kernel
theorem dX0_isWay_9 : decode cX0_isWay 9 = .ok (.iconst 1, 1) := by decide +kernel
theorem dX0_isWay_10 : decode cX0_isWay 10 = .ok (.goto 4, 3) := by decide +kernel
theorem dX0_isWay_13 : decode cX0_isWay 13 = .ok (.iconst 0, 1) := by decide +kernel
theorem dX0_isWay_14 : decode cX0_isWay 14 = .ok (.ireturn, 1) := by decide +kernel
theorem dX0_isIn_0 : decode cX0_isIn 0 = .ok (.lload_n 0, 1) := by decide +kernel
theorem dX0_isIn_1 : decode cX0_isIn 1 = .ok (.iload_n 2, 1) := by decide +kernel
theorem dX0_isIn_2 : decode cX0_isIn 2 = .ok (.lushr, 1) := by decide +kernel
theorem dX0_isIn_3 : decode cX0_isIn 3 = .ok (.lconst 1, 1) := by decide +kernel
theorem dX0_isIn_4 : decode cX0_isIn 4 = .ok (.land, 1) := by decide +kernel
theorem dX0_isIn_5 : decode cX0_isIn 5 = .ok (.lconst 0, 1) := by decide +kernel
theorem dX0_isIn_6 : decode cX0_isIn 6 = .ok (.lcmp, 1) := by decide +kernel
theorem dX0_isIn_7 : decode cX0_isIn 7 = .ok (.ifCond .eq 7, 3) := by decide +kernel
theorem dX0_isIn_10 : decode cX0_isIn 10 = .ok (.iconst 1, 1) := by decide +kernel
theorem dX0_isIn_11 : decode cX0_isIn 11 = .ok (.goto 4, 3) := by decide +kernel
theorem dX0_isIn_14 : decode cX0_isIn 14 = .ok (.iconst 0, 1) := by decide +kernel
theorem dX0_isIn_15 : decode cX0_isIn 15 = .ok (.ireturn, 1) := by decide +kernel
theorem dX0_next_0 : decode cX0_next 0 = .ok (.iload_n 1, 1) := by decide +kernel
theorem dX0_next_1 : decode cX0_next 1 = .ok (.tableswitch 95 0 3 #[31, 49, 64, 79], 31) := by decide +kernel
theorem dX0_next_32 : decode cX0_next 32 = .ok (.iload_n 0, 1) := by decide +kernel
theorem dX0_next_33 : decode cX0_next 33 = .ok (.bipush 6, 2) := by decide +kernel
theorem dX0_next_35 : decode cX0_next 35 = .ok (.iadd, 1) := by decide +kernel
theorem dX0_next_36 : decode cX0_next 36 = .ok (.bipush 36, 2) := by decide +kernel
theorem dX0_next_38 : decode cX0_next 38 = .ok (.if_icmp .ge 10, 3) := by decide +kernel
theorem dX0_next_41 : decode cX0_next 41 = .ok (.iload_n 0, 1) := by decide +kernel
theorem dX0_next_42 : decode cX0_next 42 = .ok (.bipush 6, 2) := by decide +kernel
theorem dX0_next_44 : decode cX0_next 44 = .ok (.iadd, 1) := by decide +kernel
theorem dX0_next_45 : decode cX0_next 45 = .ok (.goto 4, 3) := by decide +kernel
theorem dX0_next_48 : decode cX0_next 48 = .ok (.iconst (-1), 1) := by decide +kernel
theorem dX0_next_49 : decode cX0_next 49 = .ok (.ireturn, 1) := by decide +kernel
theorem dX0_next_50 : decode cX0_next 50 = .ok (.iload_n 0, 1) := by decide +kernel
theorem dX0_next_51 : decode cX0_next 51 = .ok (.bipush 6, 2) := by decide +kernel
theorem dX0_next_53 : decode cX0_next 53 = .ok (.irem, 1) := by decide +kernel
theorem dX0_next_54 : decode cX0_next 54 = .ok (.ifCond .le 9, 3) := by decide +kernel
theorem dX0_next_57 : decode cX0_next 57 = .ok (.iload_n 0, 1) := by decide +kernel
theorem dX0_next_58 : decode cX0_next 58 = .ok (.iconst 1, 1) := by decide +kernel
theorem dX0_next_59 : decode cX0_next 59 = .ok (.isub, 1) := by decide +kernel
theorem dX0_next_60 : decode cX0_next 60 = .ok (.goto 4, 3) := by decide +kernel
theorem dX0_next_63 : decode cX0_next 63 = .ok (.iconst (-1), 1) := by decide +kernel
theorem dX0_next_64 : decode cX0_next 64 = .ok (.ireturn, 1) := by decide +kernel
theorem dX0_next_65 : decode cX0_next 65 = .ok (.iload_n 0, 1) := by decide +kernel
theorem dX0_next_66 : decode cX0_next 66 = .ok (.bipush 6, 2) := by decide +kernel
theorem dX0_next_68 : decode cX0_next 68 = .ok (.if_icmp .lt 10, 3) := by decide +kernel
theorem dX0_next_71 : decode cX0_next 71 = .ok (.iload_n 0, 1) := by decide +kernel
theorem dX0_next_72 : decode cX0_next 72 = .ok (.bipush 6, 2) := by decide +kernel
theorem dX0_next_74 : decode cX0_next 74 = .ok (.isub, 1) := by decide +kernel
theorem dX0_next_75 : decode cX0_next 75 = .ok (.goto 4, 3) := by decide +kernel
theorem dX0_next_78 : decode cX0_next 78 = .ok (.iconst (-1), 1) := by decide +kernel
theorem dX0_next_79 : decode cX0_next 79 = .ok (.ireturn, 1) := by decide +kernel
theorem dX0_next_80 : decode cX0_next 80 = .ok (.iload_n 0, 1) := by decide +kernel
theorem dX0_next_81 : decode cX0_next 81 = .ok (.bipush 6, 2) := by decide +kernel
theorem dX0_next_83 : decode cX0_next 83 = .ok (.irem, 1) := by decide +kernel
theorem dX0_next_84 : decode cX0_next 84 = .ok (.iconst 5, 1) := by decide +kernel
theorem dX0_next_85 : decode cX0_next 85 = .ok (.if_icmp .ge 9, 3) := by decide +kernel
theorem dX0_next_88 : decode cX0_next 88 = .ok (.iload_n 0, 1) := by decide +kernel
theorem dX0_next_89 : decode cX0_next 89 = .ok (.iconst 1, 1) := by decide +kernel
theorem dX0_next_90 : decode cX0_next 90 = .ok (.iadd, 1) := by decide +kernel
theorem dX0_next_91 : decode cX0_next 91 = .ok (.goto 4, 3) := by decide +kernel
theorem dX0_next_94 : decode cX0_next 94 = .ok (.iconst (-1), 1) := by decide +kernel
theorem dX0_next_95 : decode cX0_next 95 = .ok (.ireturn, 1) := by decide +kernel
theorem dX0_next_96 : decode cX0_next 96 = .ok (.iconst (-1), 1) := by decide +kernel
theorem dX0_next_97 : decode cX0_next 97 = .ok (.ireturn, 1) := by decide +kernel
theorem dX0_turned_0 : decode cX0_turned 0 = .ok (.iload_n 0, 1) := by decide +kernel
theorem dX0_turned_1 : decode cX0_turned 1 = .ok (.iload_n 1, 1) := by decide +kernel
theorem dX0_turned_2 : decode cX0_turned 2 = .ok (.iadd, 1) := by decide +kernel
theorem dX0_turned_3 : decode cX0_turned 3 = .ok (.iconst 3, 1) := by decide +kernel
theorem dX0_turned_4 : decode cX0_turned 4 = .ok (.iand, 1) := by decide +kernel
theorem dX0_turned_5 : decode cX0_turned 5 = .ok (.ireturn, 1) := by decide +kernel
set_option maxRecDepth 20000 in
theorem ggX0_rest_X0_next : GoodIn wsX0_rest wsX0_next := goodIn_r _ [4] (by decide +kernel) (by decide +kernel)
set_option maxRecDepth 20000 in
theorem gX0_rest_X0_next : GoodIn wsX0_rest (va_wsS RX0 9 yX0_next wsX0_next) := goodIn_app (goodIn_of _ (by decide +kernel)) ggX0_rest_X0_next
set_option maxRecDepth 20000 in
theorem ggX0_rest_X0_isIn : GoodIn wsX0_rest wsX0_isIn := goodIn_r _ [7] (by decide +kernel) (by decide +kernel)
set_option maxRecDepth 20000 in
theorem gX0_rest_X0_isIn : GoodIn wsX0_rest (va_wsS RX0 13 yX0_isIn wsX0_isIn) := goodIn_app (goodIn_of _ (by decide +kernel)) ggX0_rest_X0_isIn
theorem dX0_rest_0 : decode cX0_rest 0 = .ok (.iload_n 2, 1) := by decide +kernel
theorem dX0_rest_1 : decode cX0_rest 1 = .ok (.istore 4, 2) := by decide +kernel
theorem dX0_rest_3 : decode cX0_rest 3 = .ok (.iconst 1, 1) := by decide +kernel
theorem dX0_rest_4 : decode cX0_rest 4 = .ok (.istore 5, 2) := by decide +kernel
theorem dX0_rest_6 : decode cX0_rest 6 = .ok (.iload 5, 2) := by decide +kernel
theorem dX0_rest_8 : decode cX0_rest 8 = .ok (.bipush 6, 2) := by decide +kernel
theorem dX0_rest_10 : decode cX0_rest 10 = .ok (.if_icmp .ge 38, 3) := by decide +kernel
theorem dX0_rest_13 : decode cX0_rest 13 = .ok (.iload 4, 2) := by decide +kernel
theorem dX0_rest_15 : decode cX0_rest 15 = .ok (.iload_n 3, 1) := by decide +kernel
theorem dX0_rest_16 : decode cX0_rest 16 = .ok (.invokestatic 9, 3) := by decide +kernel
theorem dX0_rest_19 : decode cX0_rest 19 = .ok (.istore 6, 2) := by decide +kernel
theorem dX0_rest_21 : decode cX0_rest 21 = .ok (.iload 6, 2) := by decide +kernel
theorem dX0_rest_23 : decode cX0_rest 23 = .ok (.ifCond .lt 12, 3) := by decide +kernel
theorem dX0_rest_26 : decode cX0_rest 26 = .ok (.lload_n 0, 1) := by decide +kernel
theorem dX0_rest_27 : decode cX0_rest 27 = .ok (.iload 6, 2) := by decide +kernel
theorem dX0_rest_29 : decode cX0_rest 29 = .ok (.invokestatic 13, 3) := by decide +kernel
theorem dX0_rest_32 : decode cX0_rest 32 = .ok (.ifCond .eq 6, 3) := by decide +kernel
theorem dX0_rest_35 : decode cX0_rest 35 = .ok (.iload 4, 2) := by decide +kernel
theorem dX0_rest_37 : decode cX0_rest 37 = .ok (.ireturn, 1) := by decide +kernel
theorem dX0_rest_38 : decode cX0_rest 38 = .ok (.iload 6, 2) := by decide +kernel
theorem dX0_rest_40 : decode cX0_rest 40 = .ok (.istore 4, 2) := by decide +kernel
theorem dX0_rest_42 : decode cX0_rest 42 = .ok (.iinc 5 1, 3) := by decide +kernel
theorem dX0_rest_45 : decode cX0_rest 45 = .ok (.goto (-39), 3) := by decide +kernel
theorem dX0_rest_48 : decode cX0_rest 48 = .ok (.iload 4, 2) := by decide +kernel
theorem dX0_rest_50 : decode cX0_rest 50 = .ok (.ireturn, 1) := by decide +kernel
set_option maxRecDepth 20000 in
theorem ggX1_init_X7_init : GoodIn wsX1_init wsX7_init := goodIn_r _ [23, 24, 2, 3, 20, 25, 26, 27, 28, 29, 30, 31, 38, 39, 40, 41, 42, 43, 44] (by decide +kernel) (by decide +kernel)
set_option maxRecDepth 20000 in
theorem gX1_init_X7_init_n9 : GoodIn wsX1_init (wsX7_init) := ggX1_init_X7_init
set_option maxRecDepth 20000 in
theorem ggX1_init_X4_init : GoodIn wsX1_init wsX4_init := goodIn_r _ [33, 34, 2, 3, 20, 35, 36, 37, 55, 56, 57] (by decide +kernel) (by decide +kernel)
set_option maxRecDepth 20000 in
theorem gX1_init_X4_init_n39 : GoodIn wsX1_init (wsX4_init) := ggX1_init_X4_init
theorem dX1_init_0 : decode cX1_init 0 = .ok (.aload_n 0, 1) := by decide +kernel
theorem dX1_init_1 : decode cX1_init 1 = .ok (.invokespecial 1, 3) := by decide +kernel
theorem dX1_init_4 : decode cX1_init 4 = .ok (.aload_n 0, 1) := by decide +kernel
theorem dX1_init_5 : decode cX1_init 5 = .ok (.new 7, 3) := by decide +kernel
theorem dX1_init_8 : decode cX1_init 8 = .ok (.dup, 1) := by decide +kernel
theorem dX1_init_9 : decode cX1_init 9 = .ok (.invokespecial 9, 3) := by decide +kernel
theorem dX1_init_12 : decode cX1_init 12 = .ok (.putfield 10, 3) := by decide +kernel
theorem dX1_init_15 : decode cX1_init 15 = .ok (.aload_n 0, 1) := by decide +kernel
theorem dX1_init_16 : decode cX1_init 16 = .ok (.bipush 60, 2) := by decide +kernel
theorem dX1_init_18 : decode cX1_init 18 = .ok (.newarray .byte, 2) := by decide +kernel
theorem dX1_init_20 : decode cX1_init 20 = .ok (.putfield 16, 3) := by decide +kernel
theorem dX1_init_23 : decode cX1_init 23 = .ok (.aload_n 0, 1) := by decide +kernel
theorem dX1_init_24 : decode cX1_init 24 = .ok (.lconst 0, 1) := by decide +kernel
theorem dX1_init_25 : decode cX1_init 25 = .ok (.putfield 20, 3) := by decide +kernel
theorem dX1_init_28 : decode cX1_init 28 = .ok (.aload_n 0, 1) := by decide +kernel
theorem dX1_init_29 : decode cX1_init 29 = .ok (.iconst 0, 1) := by decide +kernel
theorem dX1_init_30 : decode cX1_init 30 = .ok (.putfield 24, 3) := by decide +kernel
theorem dX1_init_33 : decode cX1_init 33 = .ok (.aload_n 0, 1) := by decide +kernel
theorem dX1_init_34 : decode cX1_init 34 = .ok (.iconst 1, 1) := by decide +kernel
theorem dX1_init_35 : decode cX1_init 35 = .ok (.putfield 28, 3) := by decide +kernel
theorem dX1_init_38 : decode cX1_init 38 = .ok (.aload_n 0, 1) := by decide +kernel
theorem dX1_init_39 : decode cX1_init 39 = .ok (.iconst 0, 1) := by decide +kernel
theorem dX1_init_40 : decode cX1_init 40 = .ok (.putfield 31, 3) := by decide +kernel
theorem dX1_init_43 : decode cX1_init 43 = .ok (.aload_n 0, 1) := by decide +kernel
theorem dX1_init_44 : decode cX1_init 44 = .ok (.iconst 0, 1) := by decide +kernel
theorem dX1_init_45 : decode cX1_init 45 = .ok (.putfield 34, 3) := by decide +kernel
theorem dX1_init_48 : decode cX1_init 48 = .ok (.aload_n 0, 1) := by decide +kernel
theorem dX1_init_49 : decode cX1_init 49 = .ok (.new 37, 3) := by decide +kernel
theorem dX1_init_52 : decode cX1_init 52 = .ok (.dup, 1) := by decide +kernel
theorem dX1_init_53 : decode cX1_init 53 = .ok (.invokespecial 39, 3) := by decide +kernel
theorem dX1_init_56 : decode cX1_init 56 = .ok (.putfield 40, 3) := by decide +kernel
theorem dX1_init_59 : decode cX1_init 59 = .ok (.aload_n 0, 1) := by decide +kernel
theorem dX1_init_60 : decode cX1_init 60 = .ok (.new 37, 3) := by decide +kernel
theorem dX1_init_63 : decode cX1_init 63 = .ok (.dup, 1) := by decide +kernel
theorem dX1_init_64 : decode cX1_init 64 = .ok (.invokespecial 39, 3) := by decide +kernel
theorem dX1_init_67 : decode cX1_init 67 = .ok (.putfield 44, 3) := by decide +kernel
theorem dX1_init_70 : decode cX1_init 70 = .ok (.aload_n 0, 1) := by decide +kernel
theorem dX1_init_71 : decode cX1_init 71 = .ok (.bipush 24, 2) := by decide +kernel
theorem dX1_init_73 : decode cX1_init 73 = .ok (.newarray .int, 2) := by decide +kernel
theorem dX1_init_75 : decode cX1_init 75 = .ok (.putfield 47, 3) := by decide +kernel
theorem dX1_init_78 : decode cX1_init 78 = .ok (.return_, 1) := by decide +kernel
set_option maxRecDepth 20000 in
theorem ggX1_wallAt_X0_isIn : GoodIn wsX1_wallAt wsX0_isIn := goodIn_r _ [5] (by decide +kernel) (by decide +kernel)
set_option maxRecDepth 20000 in
theorem gX1_wallAt_X0_isIn : GoodIn wsX1_wallAt (va_wsS RX1 51 yX0_isIn wsX0_isIn) := goodIn_app (goodIn_of _ (by decide +kernel)) ggX1_wallAt_X0_isIn
theorem dX1_wallAt_0 : decode cX1_wallAt 0 = .ok (.aload_n 0, 1) := by decide +kernel
theorem dX1_wallAt_1 : decode cX1_wallAt 1 = .ok (.getfield 20, 3) := by decide +kernel
theorem dX1_wallAt_4 : decode cX1_wallAt 4 = .ok (.iload_n 1, 1) := by decide +kernel
theorem dX1_wallAt_5 : decode cX1_wallAt 5 = .ok (.invokestatic 51, 3) := by decide +kernel
theorem dX1_wallAt_8 : decode cX1_wallAt 8 = .ok (.ifCond .eq 7, 3) := by decide +kernel
theorem dX1_wallAt_11 : decode cX1_wallAt 11 = .ok (.iconst 1, 1) := by decide +kernel
theorem dX1_wallAt_12 : decode cX1_wallAt 12 = .ok (.goto 4, 3) := by decide +kernel
theorem dX1_wallAt_15 : decode cX1_wallAt 15 = .ok (.iconst 0, 1) := by decide +kernel
theorem dX1_wallAt_16 : decode cX1_wallAt 16 = .ok (.ireturn, 1) := by decide +kernel
theorem dX1_setWall_0 : decode cX1_setWall 0 = .ok (.iload_n 2, 1) := by decide +kernel
theorem dX1_setWall_1 : decode cX1_setWall 1 = .ok (.iconst 1, 1) := by decide +kernel
theorem dX1_setWall_2 : decode cX1_setWall 2 = .ok (.if_icmp .ne 18, 3) := by decide +kernel
theorem dX1_setWall_5 : decode cX1_setWall 5 = .ok (.aload_n 0, 1) := by decide +kernel
theorem dX1_setWall_6 : decode cX1_setWall 6 = .ok (.dup, 1) := by decide +kernel
theorem dX1_setWall_7 : decode cX1_setWall 7 = .ok (.getfield 20, 3) := by decide +kernel
theorem dX1_setWall_10 : decode cX1_setWall 10 = .ok (.lconst 1, 1) := by decide +kernel
theorem dX1_setWall_11 : decode cX1_setWall 11 = .ok (.iload_n 1, 1) := by decide +kernel
theorem dX1_setWall_12 : decode cX1_setWall 12 = .ok (.lshl, 1) := by decide +kernel
theorem dX1_setWall_13 : decode cX1_setWall 13 = .ok (.lor, 1) := by decide +kernel
theorem dX1_setWall_14 : decode cX1_setWall 14 = .ok (.putfield 20, 3) := by decide +kernel
theorem dX1_setWall_17 : decode cX1_setWall 17 = .ok (.goto 19, 3) := by decide +kernel
theorem dX1_setWall_20 : decode cX1_setWall 20 = .ok (.aload_n 0, 1) := by decide +kernel
theorem dX1_setWall_21 : decode cX1_setWall 21 = .ok (.dup, 1) := by decide +kernel
theorem dX1_setWall_22 : decode cX1_setWall 22 = .ok (.getfield 20, 3) := by decide +kernel
theorem dX1_setWall_25 : decode cX1_setWall 25 = .ok (.lconst 1, 1) := by decide +kernel
theorem dX1_setWall_26 : decode cX1_setWall 26 = .ok (.iload_n 1, 1) := by decide +kernel
theorem dX1_setWall_27 : decode cX1_setWall 27 = .ok (.lshl, 1) := by decide +kernel
theorem dX1_setWall_28 : decode cX1_setWall 28 = .ok (.ldc2_w 57, 3) := by decide +kernel
theorem dX1_setWall_31 : decode cX1_setWall 31 = .ok (.lxor, 1) := by decide +kernel
theorem dX1_setWall_32 : decode cX1_setWall 32 = .ok (.land, 1) := by decide +kernel
theorem dX1_setWall_33 : decode cX1_setWall 33 = .ok (.putfield 20, 3) := by decide +kernel
theorem dX1_setWall_36 : decode cX1_setWall 36 = .ok (.return_, 1) := by decide +kernel
theorem dX1_lawOf_0 : decode cX1_lawOf 0 = .ok (.iload_n 1, 1) := by decide +kernel
theorem dX1_lawOf_1 : decode cX1_lawOf 1 = .ok (.ifCond .ne 10, 3) := by decide +kernel
theorem dX1_lawOf_4 : decode cX1_lawOf 4 = .ok (.aload_n 0, 1) := by decide +kernel
theorem dX1_lawOf_5 : decode cX1_lawOf 5 = .ok (.getfield 40, 3) := by decide +kernel
theorem dX1_lawOf_8 : decode cX1_lawOf 8 = .ok (.goto 7, 3) := by decide +kernel
theorem dX1_lawOf_11 : decode cX1_lawOf 11 = .ok (.aload_n 0, 1) := by decide +kernel
theorem dX1_lawOf_12 : decode cX1_lawOf 12 = .ok (.getfield 44, 3) := by decide +kernel
theorem dX1_lawOf_15 : decode cX1_lawOf 15 = .ok (.areturn, 1) := by decide +kernel
set_option maxRecDepth 20000 in
theorem ggX1_pullAt_X1_pullBy : GoodIn wsX1_pullAt wsX1_pullBy := goodIn_r _ [7, 8, 9, 10, 11, 12, 13, 14, 15, 16, 17, 18, 19, 20, 21, 22, 23, 24, 25, 26, 27, 28, 29, 30, 31, 32, 33, 34, 35, 36, 37, 38, 39, 40, 48, 49, 50] (by decide +kernel) (by decide +kernel)
set_option maxRecDepth 20000 in
theorem gX1_pullAt_X1_pullBy : GoodIn wsX1_pullAt (wsV RX1 62 RX1 yX1_pullBy wsX1_pullBy) := goodIn_app (goodIn_of _ (by decide +kernel)) ggX1_pullAt_X1_pullBy
theorem dX1_pullAt_0 : decode cX1_pullAt 0 = .ok (.aload_n 0, 1) := by decide +kernel
theorem dX1_pullAt_1 : decode cX1_pullAt 1 = .ok (.iload_n 1, 1) := by decide +kernel
theorem dX1_pullAt_2 : decode cX1_pullAt 2 = .ok (.iload_n 1, 1) := by decide +kernel
theorem dX1_pullAt_3 : decode cX1_pullAt 3 = .ok (.bipush 12, 2) := by decide +kernel
theorem dX1_pullAt_5 : decode cX1_pullAt 5 = .ok (.idiv, 1) := by decide +kernel
theorem dX1_pullAt_6 : decode cX1_pullAt 6 = .ok (.aload_n 0, 1) := by decide +kernel
theorem dX1_pullAt_7 : decode cX1_pullAt 7 = .ok (.getfield 10, 3) := by decide +kernel
theorem dX1_pullAt_10 : decode cX1_pullAt 10 = .ok (.getfield 59, 3) := by decide +kernel
theorem dX1_pullAt_13 : decode cX1_pullAt 13 = .ok (.invokevirtual 62, 3) := by decide +kernel
theorem dX1_pullAt_16 : decode cX1_pullAt 16 = .ok (.ireturn, 1) := by decide +kernel
set_option maxRecDepth 20000 in
theorem ggX1_pullBy_X4_isTold : GoodIn wsX1_pullBy wsX4_isTold := goodIn_r _ [6, 7, 34, 35, 36] (by decide +kernel) (by decide +kernel)
set_option maxRecDepth 20000 in
theorem gX1_pullBy_X4_isTold : GoodIn wsX1_pullBy (wsV RX1 66 RX4 yX4_isTold wsX4_isTold) := goodIn_app (goodIn_of _ (by decide +kernel)) ggX1_pullBy_X4_isTold
set_option maxRecDepth 20000 in
theorem ggX1_pullBy_X4_work : GoodIn wsX1_pullBy wsX4_work := goodIn_r _ [11, 7, 12, 13, 14, 15, 5, 16, 17, 18, 19, 34, 35, 36] (by decide +kernel) (by decide +kernel)
set_option maxRecDepth 20000 in
theorem gX1_pullBy_X4_work : GoodIn wsX1_pullBy (wsV RX1 70 RX4 yX4_work wsX4_work) := goodIn_app (goodIn_of _ (by decide +kernel)) ggX1_pullBy_X4_work
set_option maxRecDepth 20000 in
theorem ggX1_pullBy_J9_floorMod_7cf53 : GoodIn wsX1_pullBy wsJ9_floorMod_7cf53 := goodIn_r _ [23] (by decide +kernel) (by decide +kernel)
set_option maxRecDepth 20000 in
theorem gX1_pullBy_J9_floorMod_7cf53 : GoodIn wsX1_pullBy (va_wsS RX1 73 yJ9_floorMod_7cf53 wsJ9_floorMod_7cf53) := goodIn_app (goodIn_of _ (by decide +kernel)) ggX1_pullBy_J9_floorMod_7cf53
theorem dX1_pullBy_0 : decode cX1_pullBy 0 = .ok (.aload_n 0, 1) := by decide +kernel
theorem dX1_pullBy_1 : decode cX1_pullBy 1 = .ok (.getfield 40, 3) := by decide +kernel
theorem dX1_pullBy_4 : decode cX1_pullBy 4 = .ok (.invokevirtual 66, 3) := by decide +kernel
theorem dX1_pullBy_7 : decode cX1_pullBy 7 = .ok (.ifCond .eq 16, 3) := by decide +kernel
theorem dX1_pullBy_10 : decode cX1_pullBy 10 = .ok (.aload_n 0, 1) := by decide +kernel
theorem dX1_pullBy_11 : decode cX1_pullBy 11 = .ok (.getfield 40, 3) := by decide +kernel
theorem dX1_pullBy_14 : decode cX1_pullBy 14 = .ok (.iload_n 1, 1) := by decide +kernel
theorem dX1_pullBy_15 : decode cX1_pullBy 15 = .ok (.iload_n 2, 1) := by decide +kernel
theorem dX1_pullBy_16 : decode cX1_pullBy 16 = .ok (.iload_n 3, 1) := by decide +kernel
theorem dX1_pullBy_17 : decode cX1_pullBy 17 = .ok (.invokevirtual 70, 3) := by decide +kernel
theorem dX1_pullBy_20 : decode cX1_pullBy 20 = .ok (.goto 6, 3) := by decide +kernel
theorem dX1_pullBy_23 : decode cX1_pullBy 23 = .ok (.iload_n 1, 1) := by decide +kernel
theorem dX1_pullBy_24 : decode cX1_pullBy 24 = .ok (.iconst 3, 1) := by decide +kernel
theorem dX1_pullBy_25 : decode cX1_pullBy 25 = .ok (.idiv, 1) := by decide +kernel
theorem dX1_pullBy_26 : decode cX1_pullBy 26 = .ok (.istore 4, 2) := by decide +kernel
theorem dX1_pullBy_28 : decode cX1_pullBy 28 = .ok (.iload 4, 2) := by decide +kernel
theorem dX1_pullBy_30 : decode cX1_pullBy 30 = .ok (.iconst 4, 1) := by decide +kernel
theorem dX1_pullBy_31 : decode cX1_pullBy 31 = .ok (.invokestatic 73, 3) := by decide +kernel
theorem dX1_pullBy_34 : decode cX1_pullBy 34 = .ok (.ireturn, 1) := by decide +kernel
set_option maxRecDepth 20000 in
theorem ggX1_breaksBy_X4_isTold : GoodIn wsX1_breaksBy wsX4_isTold := goodIn_r _ [6, 7, 30, 31, 32] (by decide +kernel) (by decide +kernel)
set_option maxRecDepth 20000 in
theorem gX1_breaksBy_X4_isTold : GoodIn wsX1_breaksBy (wsV RX1 66 RX4 yX4_isTold wsX4_isTold) := goodIn_app (goodIn_of _ (by decide +kernel)) ggX1_breaksBy_X4_isTold
set_option maxRecDepth 20000 in
theorem ggX1_breaksBy_X4_work : GoodIn wsX1_breaksBy wsX4_work := goodIn_r _ [11, 7, 12, 13, 14, 15, 5, 16, 17, 18, 19, 30, 31, 32] (by decide +kernel) (by decide +kernel)
set_option maxRecDepth 20000 in
theorem gX1_breaksBy_X4_work : GoodIn wsX1_breaksBy (wsV RX1 70 RX4 yX4_work wsX4_work) := goodIn_app (goodIn_of _ (by decide +kernel)) ggX1_breaksBy_X4_work
theorem dX1_breaksBy_0 : decode cX1_breaksBy 0 = .ok (.aload_n 0, 1) := by decide +kernel
theorem dX1_breaksBy_1 : decode cX1_breaksBy 1 = .ok (.getfield 44, 3) := by decide +kernel
theorem dX1_breaksBy_4 : decode cX1_breaksBy 4 = .ok (.invokevirtual 66, 3) := by decide +kernel
theorem dX1_breaksBy_7 : decode cX1_breaksBy 7 = .ok (.ifCond .eq 24, 3) := by decide +kernel
theorem dX1_breaksBy_10 : decode cX1_breaksBy 10 = .ok (.aload_n 0, 1) := by decide +kernel
theorem dX1_breaksBy_11 : decode cX1_breaksBy 11 = .ok (.getfield 44, 3) := by decide +kernel
theorem dX1_breaksBy_14 : decode cX1_breaksBy 14 = .ok (.iload_n 1, 1) := by decide +kernel
theorem dX1_breaksBy_15 : decode cX1_breaksBy 15 = .ok (.iload_n 2, 1) := by decide +kernel
theorem dX1_breaksBy_16 : decode cX1_breaksBy 16 = .ok (.iload_n 3, 1) := by decide +kernel
theorem dX1_breaksBy_17 : decode cX1_breaksBy 17 = .ok (.invokevirtual 70, 3) := by decide +kernel
theorem dX1_breaksBy_20 : decode cX1_breaksBy 20 = .ok (.ifCond .eq 7, 3) := by decide +kernel
theorem dX1_breaksBy_23 : decode cX1_breaksBy 23 = .ok (.iconst 1, 1) := by decide +kernel
theorem dX1_breaksBy_24 : decode cX1_breaksBy 24 = .ok (.goto 17, 3) := by decide +kernel
theorem dX1_breaksBy_27 : decode cX1_breaksBy 27 = .ok (.iconst 0, 1) := by decide +kernel
theorem dX1_breaksBy_28 : decode cX1_breaksBy 28 = .ok (.goto 13, 3) := by decide +kernel
theorem dX1_breaksBy_31 : decode cX1_breaksBy 31 = .ok (.iload_n 1, 1) := by decide +kernel
theorem dX1_breaksBy_32 : decode cX1_breaksBy 32 = .ok (.iconst 3, 1) := by decide +kernel
theorem dX1_breaksBy_33 : decode cX1_breaksBy 33 = .ok (.if_icmp .le 7, 3) := by decide +kernel
theorem dX1_breaksBy_36 : decode cX1_breaksBy 36 = .ok (.iconst 1, 1) := by decide +kernel
theorem dX1_breaksBy_37 : decode cX1_breaksBy 37 = .ok (.goto 4, 3) := by decide +kernel
theorem dX1_breaksBy_40 : decode cX1_breaksBy 40 = .ok (.iconst 0, 1) := by decide +kernel
theorem dX1_breaksBy_41 : decode cX1_breaksBy 41 = .ok (.ireturn, 1) := by decide +kernel
theorem dX1_draw_0 : decode cX1_draw 0 = .ok (.aload_n 0, 1) := by decide +kernel
theorem dX1_draw_1 : decode cX1_draw 1 = .ok (.aload_n 0, 1) := by decide +kernel
theorem dX1_draw_2 : decode cX1_draw 2 = .ok (.getfield 28, 3) := by decide +kernel
theorem dX1_draw_5 : decode cX1_draw 5 = .ok (.ldc 79, 2) := by decide +kernel
theorem dX1_draw_7 : decode cX1_draw 7 = .ok (.imul, 1) := by decide +kernel
theorem dX1_draw_8 : decode cX1_draw 8 = .ok (.sipush 12345, 3) := by decide +kernel
theorem dX1_draw_11 : decode cX1_draw 11 = .ok (.iadd, 1) := by decide +kernel
theorem dX1_draw_12 : decode cX1_draw 12 = .ok (.putfield 28, 3) := by decide +kernel
theorem dX1_draw_15 : decode cX1_draw 15 = .ok (.aload_n 0, 1) := by decide +kernel
theorem dX1_draw_16 : decode cX1_draw 16 = .ok (.getfield 28, 3) := by decide +kernel
theorem dX1_draw_19 : decode cX1_draw 19 = .ok (.bipush 8, 2) := by decide +kernel
theorem dX1_draw_21 : decode cX1_draw 21 = .ok (.iushr, 1) := by decide +kernel
theorem dX1_draw_22 : decode cX1_draw 22 = .ok (.ireturn, 1) := by decide +kernel
set_option maxRecDepth 20000 in
theorem ggX1_passHour_X7_fall : GoodIn wsX1_passHour wsX7_fall := goodIn_r _ [13, 14, 15, 16, 17, 18, 19, 20, 21, 22, 12, 23, 24, 25, 26, 27, 28, 29, 30, 31, 32, 33, 34, 35, 36, 37, 38, 39, 40, 41, 42, 43, 44, 45, 46, 47, 48, 49, 84, 85, 86, 87, 88, 89, 90] (by decide +kernel) (by decide +kernel)
set_option maxRecDepth 20000 in
theorem gX1_passHour_X7_fall : GoodIn wsX1_passHour (wsV RX1 83 RX7 yX7_fall wsX7_fall) := goodIn_app (goodIn_of _ (by decide +kernel)) ggX1_passHour_X7_fall
set_option maxRecDepth 20000 in
theorem ggX1_passHour_X1_breaksBy : GoodIn wsX1_passHour wsX1_breaksBy := goodIn_r _ [54, 55, 56, 57, 58, 59, 60, 61, 62, 63, 64, 65, 66, 67, 68, 69, 70, 71, 72, 73, 74, 75, 76, 77, 78, 79, 80, 81, 82, 83, 91, 92, 93] (by decide +kernel) (by decide +kernel)
set_option maxRecDepth 20000 in
theorem gX1_passHour_X1_breaksBy : GoodIn wsX1_passHour (wsV RX1 93 RX1 yX1_breaksBy wsX1_breaksBy) := goodIn_app (goodIn_of _ (by decide +kernel)) ggX1_passHour_X1_breaksBy
theorem dX1_passHour_0 : decode cX1_passHour 0 = .ok (.iconst 0, 1) := by decide +kernel
theorem dX1_passHour_1 : decode cX1_passHour 1 = .ok (.istore_n 2, 1) := by decide +kernel
theorem dX1_passHour_2 : decode cX1_passHour 2 = .ok (.iload_n 2, 1) := by decide +kernel
theorem dX1_passHour_3 : decode cX1_passHour 3 = .ok (.aload_n 0, 1) := by decide +kernel
theorem dX1_passHour_4 : decode cX1_passHour 4 = .ok (.getfield 10, 3) := by decide +kernel
theorem dX1_passHour_7 : decode cX1_passHour 7 = .ok (.getfield 59, 3) := by decide +kernel
theorem dX1_passHour_10 : decode cX1_passHour 10 = .ok (.if_icmp .ge 81, 3) := by decide +kernel
theorem dX1_passHour_13 : decode cX1_passHour 13 = .ok (.iload_n 2, 1) := by decide +kernel
theorem dX1_passHour_14 : decode cX1_passHour 14 = .ok (.bipush 6, 2) := by decide +kernel
theorem dX1_passHour_16 : decode cX1_passHour 16 = .ok (.if_icmp .ge 75, 3) := by decide +kernel
theorem dX1_passHour_19 : decode cX1_passHour 19 = .ok (.aload_n 0, 1) := by decide +kernel
theorem dX1_passHour_20 : decode cX1_passHour 20 = .ok (.getfield 10, 3) := by decide +kernel
theorem dX1_passHour_23 : decode cX1_passHour 23 = .ok (.getfield 80, 3) := by decide +kernel
theorem dX1_passHour_26 : decode cX1_passHour 26 = .ok (.iload_n 2, 1) := by decide +kernel
theorem dX1_passHour_27 : decode cX1_passHour 27 = .ok (.aload_n 0, 1) := by decide +kernel
theorem dX1_passHour_28 : decode cX1_passHour 28 = .ok (.getfield 10, 3) := by decide +kernel
theorem dX1_passHour_31 : decode cX1_passHour 31 = .ok (.iload_n 2, 1) := by decide +kernel
theorem dX1_passHour_32 : decode cX1_passHour 32 = .ok (.iload_n 1, 1) := by decide +kernel
theorem dX1_passHour_33 : decode cX1_passHour 33 = .ok (.aload_n 0, 1) := by decide +kernel
theorem dX1_passHour_34 : decode cX1_passHour 34 = .ok (.getfield 20, 3) := by decide +kernel
theorem dX1_passHour_37 : decode cX1_passHour 37 = .ok (.invokevirtual 83, 3) := by decide +kernel
theorem dX1_passHour_40 : decode cX1_passHour 40 = .ok (.iastore, 1) := by decide +kernel
theorem dX1_passHour_41 : decode cX1_passHour 41 = .ok (.aload_n 0, 1) := by decide +kernel
theorem dX1_passHour_42 : decode cX1_passHour 42 = .ok (.aload_n 0, 1) := by decide +kernel
theorem dX1_passHour_43 : decode cX1_passHour 43 = .ok (.getfield 10, 3) := by decide +kernel
theorem dX1_passHour_46 : decode cX1_passHour 46 = .ok (.getfield 80, 3) := by decide +kernel
theorem dX1_passHour_49 : decode cX1_passHour 49 = .ok (.iload_n 2, 1) := by decide +kernel
theorem dX1_passHour_50 : decode cX1_passHour 50 = .ok (.iaload, 1) := by decide +kernel
theorem dX1_passHour_51 : decode cX1_passHour 51 = .ok (.aload_n 0, 1) := by decide +kernel
theorem dX1_passHour_52 : decode cX1_passHour 52 = .ok (.getfield 10, 3) := by decide +kernel
theorem dX1_passHour_55 : decode cX1_passHour 55 = .ok (.getfield 87, 3) := by decide +kernel
theorem dX1_passHour_58 : decode cX1_passHour 58 = .ok (.iload_n 2, 1) := by decide +kernel
theorem dX1_passHour_59 : decode cX1_passHour 59 = .ok (.iaload, 1) := by decide +kernel
theorem dX1_passHour_60 : decode cX1_passHour 60 = .ok (.aload_n 0, 1) := by decide +kernel
theorem dX1_passHour_61 : decode cX1_passHour 61 = .ok (.getfield 10, 3) := by decide +kernel
theorem dX1_passHour_64 : decode cX1_passHour 64 = .ok (.getfield 90, 3) := by decide +kernel
theorem dX1_passHour_67 : decode cX1_passHour 67 = .ok (.iload_n 2, 1) := by decide +kernel
theorem dX1_passHour_68 : decode cX1_passHour 68 = .ok (.iaload, 1) := by decide +kernel
theorem dX1_passHour_69 : decode cX1_passHour 69 = .ok (.invokevirtual 93, 3) := by decide +kernel
theorem dX1_passHour_72 : decode cX1_passHour 72 = .ok (.ifCond .eq 13, 3) := by decide +kernel
theorem dX1_passHour_75 : decode cX1_passHour 75 = .ok (.aload_n 0, 1) := by decide +kernel
theorem dX1_passHour_76 : decode cX1_passHour 76 = .ok (.getfield 10, 3) := by decide +kernel
theorem dX1_passHour_79 : decode cX1_passHour 79 = .ok (.getfield 97, 3) := by decide +kernel
theorem dX1_passHour_82 : decode cX1_passHour 82 = .ok (.iload_n 2, 1) := by decide +kernel
theorem dX1_passHour_83 : decode cX1_passHour 83 = .ok (.iconst 1, 1) := by decide +kernel
theorem dX1_passHour_84 : decode cX1_passHour 84 = .ok (.iastore, 1) := by decide +kernel
theorem dX1_passHour_85 : decode cX1_passHour 85 = .ok (.iinc 2 1, 3) := by decide +kernel
theorem dX1_passHour_88 : decode cX1_passHour 88 = .ok (.goto (-86), 3) := by decide +kernel
theorem dX1_passHour_91 : decode cX1_passHour 91 = .ok (.aload_n 0, 1) := by decide +kernel
theorem dX1_passHour_92 : decode cX1_passHour 92 = .ok (.dup, 1) := by decide +kernel
theorem dX1_passHour_93 : decode cX1_passHour 93 = .ok (.getfield 24, 3) := by decide +kernel
theorem dX1_passHour_96 : decode cX1_passHour 96 = .ok (.iconst 1, 1) := by decide +kernel
theorem dX1_passHour_97 : decode cX1_passHour 97 = .ok (.iadd, 1) := by decide +kernel
theorem dX1_passHour_98 : decode cX1_passHour 98 = .ok (.putfield 24, 3) := by decide +kernel
theorem dX1_passHour_101 : decode cX1_passHour 101 = .ok (.return_, 1) := by decide +kernel
theorem dX1_tapeHasRoom_0 : decode cX1_tapeHasRoom 0 = .ok (.aload_n 0, 1) := by decide +kernel
theorem dX1_tapeHasRoom_1 : decode cX1_tapeHasRoom 1 = .ok (.getfield 31, 3) := by decide +kernel
theorem dX1_tapeHasRoom_4 : decode cX1_tapeHasRoom 4 = .ok (.iload_n 1, 1) := by decide +kernel
theorem dX1_tapeHasRoom_5 : decode cX1_tapeHasRoom 5 = .ok (.iadd, 1) := by decide +kernel
theorem dX1_tapeHasRoom_6 : decode cX1_tapeHasRoom 6 = .ok (.bipush 60, 2) := by decide +kernel
theorem dX1_tapeHasRoom_8 : decode cX1_tapeHasRoom 8 = .ok (.if_icmp .gt 7, 3) := by decide +kernel
theorem dX1_tapeHasRoom_11 : decode cX1_tapeHasRoom 11 = .ok (.iconst 1, 1) := by decide +kernel
theorem dX1_tapeHasRoom_12 : decode cX1_tapeHasRoom 12 = .ok (.goto 4, 3) := by decide +kernel
theorem dX1_tapeHasRoom_15 : decode cX1_tapeHasRoom 15 = .ok (.iconst 0, 1) := by decide +kernel
theorem dX1_tapeHasRoom_16 : decode cX1_tapeHasRoom 16 = .ok (.ireturn, 1) := by decide +kernel
theorem dX1_addToTape_0 : decode cX1_addToTape 0 = .ok (.iconst 0, 1) := by decide +kernel
theorem dX1_addToTape_1 : decode cX1_addToTape 1 = .ok (.istore 4, 2) := by decide +kernel
theorem dX1_addToTape_3 : decode cX1_addToTape 3 = .ok (.iload 4, 2) := by decide +kernel
theorem dX1_addToTape_5 : decode cX1_addToTape 5 = .ok (.iload_n 3, 1) := by decide +kernel
theorem dX1_addToTape_6 : decode cX1_addToTape 6 = .ok (.if_icmp .ge 46, 3) := by decide +kernel
theorem dX1_addToTape_9 : decode cX1_addToTape 9 = .ok (.aload_n 0, 1) := by decide +kernel
theorem dX1_addToTape_10 : decode cX1_addToTape 10 = .ok (.getfield 31, 3) := by decide +kernel
theorem dX1_addToTape_13 : decode cX1_addToTape 13 = .ok (.bipush 60, 2) := by decide +kernel
theorem dX1_addToTape_15 : decode cX1_addToTape 15 = .ok (.if_icmp .ge 37, 3) := by decide +kernel
theorem dX1_addToTape_18 : decode cX1_addToTape 18 = .ok (.aload_n 0, 1) := by decide +kernel
theorem dX1_addToTape_19 : decode cX1_addToTape 19 = .ok (.getfield 16, 3) := by decide +kernel
theorem dX1_addToTape_22 : decode cX1_addToTape 22 = .ok (.aload_n 0, 1) := by decide +kernel
theorem dX1_addToTape_23 : decode cX1_addToTape 23 = .ok (.getfield 31, 3) := by decide +kernel
theorem dX1_addToTape_26 : decode cX1_addToTape 26 = .ok (.lload_n 1, 1) := by decide +kernel
theorem dX1_addToTape_27 : decode cX1_addToTape 27 = .ok (.bipush 8, 2) := by decide +kernel
theorem dX1_addToTape_29 : decode cX1_addToTape 29 = .ok (.iload 4, 2) := by decide +kernel
theorem dX1_addToTape_31 : decode cX1_addToTape 31 = .ok (.imul, 1) := by decide +kernel
theorem dX1_addToTape_32 : decode cX1_addToTape 32 = .ok (.lushr, 1) := by decide +kernel
theorem dX1_addToTape_33 : decode cX1_addToTape 33 = .ok (.l2i, 1) := by decide +kernel
theorem dX1_addToTape_34 : decode cX1_addToTape 34 = .ok (.i2b, 1) := by decide +kernel
theorem dX1_addToTape_35 : decode cX1_addToTape 35 = .ok (.bastore, 1) := by decide +kernel
theorem dX1_addToTape_36 : decode cX1_addToTape 36 = .ok (.aload_n 0, 1) := by decide +kernel
theorem dX1_addToTape_37 : decode cX1_addToTape 37 = .ok (.dup, 1) := by decide +kernel
theorem dX1_addToTape_38 : decode cX1_addToTape 38 = .ok (.getfield 31, 3) := by decide +kernel
theorem dX1_addToTape_41 : decode cX1_addToTape 41 = .ok (.iconst 1, 1) := by decide +kernel
theorem dX1_addToTape_42 : decode cX1_addToTape 42 = .ok (.iadd, 1) := by decide +kernel
theorem dX1_addToTape_43 : decode cX1_addToTape 43 = .ok (.putfield 31, 3) := by decide +kernel
theorem dX1_addToTape_46 : decode cX1_addToTape 46 = .ok (.iinc 4 1, 3) := by decide +kernel
theorem dX1_addToTape_49 : decode cX1_addToTape 49 = .ok (.goto (-46), 3) := by decide +kernel
theorem dX1_addToTape_52 : decode cX1_addToTape 52 = .ok (.return_, 1) := by decide +kernel
theorem dX1_addWaiting_0 : decode cX1_addWaiting 0 = .ok (.aload_n 0, 1) := by decide +kernel
theorem dX1_addWaiting_1 : decode cX1_addWaiting 1 = .ok (.getfield 34, 3) := by decide +kernel
theorem dX1_addWaiting_4 : decode cX1_addWaiting 4 = .ok (.bipush 24, 2) := by decide +kernel
theorem dX1_addWaiting_6 : decode cX1_addWaiting 6 = .ok (.if_icmp .ge 23, 3) := by decide +kernel
theorem dX1_addWaiting_9 : decode cX1_addWaiting 9 = .ok (.aload_n 0, 1) := by decide +kernel
theorem dX1_addWaiting_10 : decode cX1_addWaiting 10 = .ok (.getfield 47, 3) := by decide +kernel
theorem dX1_addWaiting_13 : decode cX1_addWaiting 13 = .ok (.aload_n 0, 1) := by decide +kernel
theorem dX1_addWaiting_14 : decode cX1_addWaiting 14 = .ok (.getfield 34, 3) := by decide +kernel
theorem dX1_addWaiting_17 : decode cX1_addWaiting 17 = .ok (.iload_n 1, 1) := by decide +kernel
theorem dX1_addWaiting_18 : decode cX1_addWaiting 18 = .ok (.iastore, 1) := by decide +kernel
theorem dX1_addWaiting_19 : decode cX1_addWaiting 19 = .ok (.aload_n 0, 1) := by decide +kernel
theorem dX1_addWaiting_20 : decode cX1_addWaiting 20 = .ok (.dup, 1) := by decide +kernel
theorem dX1_addWaiting_21 : decode cX1_addWaiting 21 = .ok (.getfield 34, 3) := by decide +kernel
theorem dX1_addWaiting_24 : decode cX1_addWaiting 24 = .ok (.iconst 1, 1) := by decide +kernel
theorem dX1_addWaiting_25 : decode cX1_addWaiting 25 = .ok (.iadd, 1) := by decide +kernel
theorem dX1_addWaiting_26 : decode cX1_addWaiting 26 = .ok (.putfield 34, 3) := by decide +kernel
theorem dX1_addWaiting_29 : decode cX1_addWaiting 29 = .ok (.return_, 1) := by decide +kernel
set_option maxRecDepth 20000 in
theorem ggX1_firstWaitingWrong_X7_has : GoodIn wsX1_firstWaitingWrong wsX7_has := goodIn_r _ [9, 10, 21, 22, 23, 24, 25, 26, 27] (by decide +kernel) (by decide +kernel)
set_option maxRecDepth 20000 in
theorem gX1_firstWaitingWrong_X7_has : GoodIn wsX1_firstWaitingWrong (wsV RX1 100 RX7 yX7_has wsX7_has) := goodIn_app (goodIn_of _ (by decide +kernel)) ggX1_firstWaitingWrong_X7_has
theorem dX1_firstWaitingWrong_0 : decode cX1_firstWaitingWrong 0 = .ok (.iconst 0, 1) := by decide +kernel
theorem dX1_firstWaitingWrong_1 : decode cX1_firstWaitingWrong 1 = .ok (.istore_n 1, 1) := by decide +kernel
theorem dX1_firstWaitingWrong_2 : decode cX1_firstWaitingWrong 2 = .ok (.iload_n 1, 1) := by decide +kernel
theorem dX1_firstWaitingWrong_3 : decode cX1_firstWaitingWrong 3 = .ok (.aload_n 0, 1) := by decide +kernel
theorem dX1_firstWaitingWrong_4 : decode cX1_firstWaitingWrong 4 = .ok (.getfield 34, 3) := by decide +kernel
theorem dX1_firstWaitingWrong_7 : decode cX1_firstWaitingWrong 7 = .ok (.if_icmp .ge 46, 3) := by decide +kernel
theorem dX1_firstWaitingWrong_10 : decode cX1_firstWaitingWrong 10 = .ok (.iload_n 1, 1) := by decide +kernel
theorem dX1_firstWaitingWrong_11 : decode cX1_firstWaitingWrong 11 = .ok (.bipush 24, 2) := by decide +kernel
theorem dX1_firstWaitingWrong_13 : decode cX1_firstWaitingWrong 13 = .ok (.if_icmp .ge 40, 3) := by decide +kernel
theorem dX1_firstWaitingWrong_16 : decode cX1_firstWaitingWrong 16 = .ok (.aload_n 0, 1) := by decide +kernel
theorem dX1_firstWaitingWrong_17 : decode cX1_firstWaitingWrong 17 = .ok (.getfield 10, 3) := by decide +kernel
theorem dX1_firstWaitingWrong_20 : decode cX1_firstWaitingWrong 20 = .ok (.iload_n 1, 1) := by decide +kernel
theorem dX1_firstWaitingWrong_21 : decode cX1_firstWaitingWrong 21 = .ok (.invokevirtual 100, 3) := by decide +kernel
theorem dX1_firstWaitingWrong_24 : decode cX1_firstWaitingWrong 24 = .ok (.ifCond .eq 21, 3) := by decide +kernel
theorem dX1_firstWaitingWrong_27 : decode cX1_firstWaitingWrong 27 = .ok (.aload_n 0, 1) := by decide +kernel
theorem dX1_firstWaitingWrong_28 : decode cX1_firstWaitingWrong 28 = .ok (.getfield 10, 3) := by decide +kernel
theorem dX1_firstWaitingWrong_31 : decode cX1_firstWaitingWrong 31 = .ok (.getfield 104, 3) := by decide +kernel
theorem dX1_firstWaitingWrong_34 : decode cX1_firstWaitingWrong 34 = .ok (.iload_n 1, 1) := by decide +kernel
theorem dX1_firstWaitingWrong_35 : decode cX1_firstWaitingWrong 35 = .ok (.iaload, 1) := by decide +kernel
theorem dX1_firstWaitingWrong_36 : decode cX1_firstWaitingWrong 36 = .ok (.aload_n 0, 1) := by decide +kernel
theorem dX1_firstWaitingWrong_37 : decode cX1_firstWaitingWrong 37 = .ok (.getfield 47, 3) := by decide +kernel
theorem dX1_firstWaitingWrong_40 : decode cX1_firstWaitingWrong 40 = .ok (.iload_n 1, 1) := by decide +kernel
theorem dX1_firstWaitingWrong_41 : decode cX1_firstWaitingWrong 41 = .ok (.iaload, 1) := by decide +kernel
theorem dX1_firstWaitingWrong_42 : decode cX1_firstWaitingWrong 42 = .ok (.if_icmp .eq 5, 3) := by decide +kernel
theorem dX1_firstWaitingWrong_45 : decode cX1_firstWaitingWrong 45 = .ok (.iload_n 1, 1) := by decide +kernel
theorem dX1_firstWaitingWrong_46 : decode cX1_firstWaitingWrong 46 = .ok (.ireturn, 1) := by decide +kernel
theorem dX1_firstWaitingWrong_47 : decode cX1_firstWaitingWrong 47 = .ok (.iinc 1 1, 3) := by decide +kernel
theorem dX1_firstWaitingWrong_50 : decode cX1_firstWaitingWrong 50 = .ok (.goto (-48), 3) := by decide +kernel
theorem dX1_firstWaitingWrong_53 : decode cX1_firstWaitingWrong 53 = .ok (.iconst (-1), 1) := by decide +kernel
theorem dX1_firstWaitingWrong_54 : decode cX1_firstWaitingWrong 54 = .ok (.ireturn, 1) := by decide +kernel
set_option maxRecDepth 20000 in
theorem ggX1_takeOver_X7_takeOver : GoodIn wsX1_takeOver wsX7_takeOver := goodIn_r _ [15, 16, 17, 18, 19, 20, 21, 22, 48, 49, 50, 51, 52, 53, 54] (by decide +kernel) (by decide +kernel)
set_option maxRecDepth 20000 in
theorem gX1_takeOver_X7_takeOver : GoodIn wsX1_takeOver (wsV RX1 107 RX7 yX7_takeOver wsX7_takeOver) := goodIn_app (goodIn_of _ (by decide +kernel)) ggX1_takeOver_X7_takeOver
set_option maxRecDepth 20000 in
theorem ggX1_takeOver_X4_takeOver : GoodIn wsX1_takeOver wsX4_takeOver := goodIn_r _ [27, 28, 29, 30, 31, 32, 26, 33, 34, 35, 36, 37, 55, 56, 57] (by decide +kernel) (by decide +kernel)
set_option maxRecDepth 20000 in
theorem gX1_takeOver_X4_takeOver : GoodIn wsX1_takeOver (wsV RX1 111 RX4 yX4_takeOver wsX4_takeOver) := goodIn_app (goodIn_of _ (by decide +kernel)) ggX1_takeOver_X4_takeOver
theorem dX1_takeOver_0 : decode cX1_takeOver 0 = .ok (.aload_n 0, 1) := by decide +kernel
theorem dX1_takeOver_1 : decode cX1_takeOver 1 = .ok (.getfield 10, 3) := by decide +kernel
theorem dX1_takeOver_4 : decode cX1_takeOver 4 = .ok (.aload_n 1, 1) := by decide +kernel
theorem dX1_takeOver_5 : decode cX1_takeOver 5 = .ok (.getfield 10, 3) := by decide +kernel
theorem dX1_takeOver_8 : decode cX1_takeOver 8 = .ok (.invokevirtual 107, 3) := by decide +kernel
theorem dX1_takeOver_11 : decode cX1_takeOver 11 = .ok (.aload_n 0, 1) := by decide +kernel
theorem dX1_takeOver_12 : decode cX1_takeOver 12 = .ok (.aload_n 1, 1) := by decide +kernel
theorem dX1_takeOver_13 : decode cX1_takeOver 13 = .ok (.getfield 20, 3) := by decide +kernel
theorem dX1_takeOver_16 : decode cX1_takeOver 16 = .ok (.putfield 20, 3) := by decide +kernel
theorem dX1_takeOver_19 : decode cX1_takeOver 19 = .ok (.aload_n 0, 1) := by decide +kernel
theorem dX1_takeOver_20 : decode cX1_takeOver 20 = .ok (.aload_n 1, 1) := by decide +kernel
theorem dX1_takeOver_21 : decode cX1_takeOver 21 = .ok (.getfield 24, 3) := by decide +kernel
theorem dX1_takeOver_24 : decode cX1_takeOver 24 = .ok (.putfield 24, 3) := by decide +kernel
theorem dX1_takeOver_27 : decode cX1_takeOver 27 = .ok (.aload_n 0, 1) := by decide +kernel
theorem dX1_takeOver_28 : decode cX1_takeOver 28 = .ok (.aload_n 1, 1) := by decide +kernel
theorem dX1_takeOver_29 : decode cX1_takeOver 29 = .ok (.getfield 28, 3) := by decide +kernel
theorem dX1_takeOver_32 : decode cX1_takeOver 32 = .ok (.putfield 28, 3) := by decide +kernel
theorem dX1_takeOver_35 : decode cX1_takeOver 35 = .ok (.aload_n 0, 1) := by decide +kernel
theorem dX1_takeOver_36 : decode cX1_takeOver 36 = .ok (.getfield 40, 3) := by decide +kernel
theorem dX1_takeOver_39 : decode cX1_takeOver 39 = .ok (.aload_n 1, 1) := by decide +kernel
theorem dX1_takeOver_40 : decode cX1_takeOver 40 = .ok (.getfield 40, 3) := by decide +kernel
theorem dX1_takeOver_43 : decode cX1_takeOver 43 = .ok (.invokevirtual 111, 3) := by decide +kernel
theorem dX1_takeOver_46 : decode cX1_takeOver 46 = .ok (.aload_n 0, 1) := by decide +kernel
theorem dX1_takeOver_47 : decode cX1_takeOver 47 = .ok (.getfield 44, 3) := by decide +kernel
theorem dX1_takeOver_50 : decode cX1_takeOver 50 = .ok (.aload_n 1, 1) := by decide +kernel
theorem dX1_takeOver_51 : decode cX1_takeOver 51 = .ok (.getfield 44, 3) := by decide +kernel
theorem dX1_takeOver_54 : decode cX1_takeOver 54 = .ok (.invokevirtual 111, 3) := by decide +kernel
theorem dX1_takeOver_57 : decode cX1_takeOver 57 = .ok (.aload_n 0, 1) := by decide +kernel
theorem dX1_takeOver_58 : decode cX1_takeOver 58 = .ok (.aload_n 1, 1) := by decide +kernel
theorem dX1_takeOver_59 : decode cX1_takeOver 59 = .ok (.getfield 31, 3) := by decide +kernel
theorem dX1_takeOver_62 : decode cX1_takeOver 62 = .ok (.putfield 31, 3) := by decide +kernel
theorem dX1_takeOver_65 : decode cX1_takeOver 65 = .ok (.iconst 0, 1) := by decide +kernel
theorem dX1_takeOver_66 : decode cX1_takeOver 66 = .ok (.istore_n 2, 1) := by decide +kernel
theorem dX1_takeOver_67 : decode cX1_takeOver 67 = .ok (.iload_n 2, 1) := by decide +kernel
theorem dX1_takeOver_68 : decode cX1_takeOver 68 = .ok (.bipush 60, 2) := by decide +kernel
theorem dX1_takeOver_70 : decode cX1_takeOver 70 = .ok (.if_icmp .ge 21, 3) := by decide +kernel
theorem dX1_takeOver_73 : decode cX1_takeOver 73 = .ok (.aload_n 0, 1) := by decide +kernel
theorem dX1_takeOver_74 : decode cX1_takeOver 74 = .ok (.getfield 16, 3) := by decide +kernel
theorem dX1_takeOver_77 : decode cX1_takeOver 77 = .ok (.iload_n 2, 1) := by decide +kernel
theorem dX1_takeOver_78 : decode cX1_takeOver 78 = .ok (.aload_n 1, 1) := by decide +kernel
theorem dX1_takeOver_79 : decode cX1_takeOver 79 = .ok (.getfield 16, 3) := by decide +kernel
theorem dX1_takeOver_82 : decode cX1_takeOver 82 = .ok (.iload_n 2, 1) := by decide +kernel
theorem dX1_takeOver_83 : decode cX1_takeOver 83 = .ok (.baload, 1) := by decide +kernel
theorem dX1_takeOver_84 : decode cX1_takeOver 84 = .ok (.bastore, 1) := by decide +kernel
theorem dX1_takeOver_85 : decode cX1_takeOver 85 = .ok (.iinc 2 1, 3) := by decide +kernel
theorem dX1_takeOver_88 : decode cX1_takeOver 88 = .ok (.goto (-21), 3) := by decide +kernel
theorem dX1_takeOver_91 : decode cX1_takeOver 91 = .ok (.aload_n 0, 1) := by decide +kernel
theorem dX1_takeOver_92 : decode cX1_takeOver 92 = .ok (.aload_n 1, 1) := by decide +kernel
theorem dX1_takeOver_93 : decode cX1_takeOver 93 = .ok (.getfield 34, 3) := by decide +kernel
theorem dX1_takeOver_96 : decode cX1_takeOver 96 = .ok (.putfield 34, 3) := by decide +kernel
theorem dX1_takeOver_99 : decode cX1_takeOver 99 = .ok (.iconst 0, 1) := by decide +kernel
theorem dX1_takeOver_100 : decode cX1_takeOver 100 = .ok (.istore_n 2, 1) := by decide +kernel
theorem dX1_takeOver_101 : decode cX1_takeOver 101 = .ok (.iload_n 2, 1) := by decide +kernel
theorem dX1_takeOver_102 : decode cX1_takeOver 102 = .ok (.bipush 24, 2) := by decide +kernel
theorem dX1_takeOver_104 : decode cX1_takeOver 104 = .ok (.if_icmp .ge 21, 3) := by decide +kernel
theorem dX1_takeOver_107 : decode cX1_takeOver 107 = .ok (.aload_n 0, 1) := by decide +kernel
theorem dX1_takeOver_108 : decode cX1_takeOver 108 = .ok (.getfield 47, 3) := by decide +kernel
theorem dX1_takeOver_111 : decode cX1_takeOver 111 = .ok (.iload_n 2, 1) := by decide +kernel
theorem dX1_takeOver_112 : decode cX1_takeOver 112 = .ok (.aload_n 1, 1) := by decide +kernel
theorem dX1_takeOver_113 : decode cX1_takeOver 113 = .ok (.getfield 47, 3) := by decide +kernel
theorem dX1_takeOver_116 : decode cX1_takeOver 116 = .ok (.iload_n 2, 1) := by decide +kernel
theorem dX1_takeOver_117 : decode cX1_takeOver 117 = .ok (.iaload, 1) := by decide +kernel
theorem dX1_takeOver_118 : decode cX1_takeOver 118 = .ok (.iastore, 1) := by decide +kernel
theorem dX1_takeOver_119 : decode cX1_takeOver 119 = .ok (.iinc 2 1, 3) := by decide +kernel
theorem dX1_takeOver_122 : decode cX1_takeOver 122 = .ok (.goto (-21), 3) := by decide +kernel
theorem dX1_takeOver_125 : decode cX1_takeOver 125 = .ok (.return_, 1) := by decide +kernel
theorem dX2_isKind_0 : decode cX2_isKind 0 = .ok (.iload_n 0, 1) := by decide +kernel
theorem dX2_isKind_1 : decode cX2_isKind 1 = .ok (.ifCond .lt 13, 3) := by decide +kernel
theorem dX2_isKind_4 : decode cX2_isKind 4 = .ok (.iload_n 0, 1) := by decide +kernel
theorem dX2_isKind_5 : decode cX2_isKind 5 = .ok (.bipush 7, 2) := by decide +kernel
theorem dX2_isKind_7 : decode cX2_isKind 7 = .ok (.if_icmp .ge 7, 3) := by decide +kernel
theorem dX2_isKind_10 : decode cX2_isKind 10 = .ok (.iconst 1, 1) := by decide +kernel
theorem dX2_isKind_11 : decode cX2_isKind 11 = .ok (.goto 4, 3) := by decide +kernel
theorem dX2_isKind_14 : decode cX2_isKind 14 = .ok (.iconst 0, 1) := by decide +kernel
theorem dX2_isKind_15 : decode cX2_isKind 15 = .ok (.ireturn, 1) := by decide +kernel
theorem dX2_isKindAndNumber_0 : decode cX2_isKindAndNumber 0 = .ok (.iload_n 0, 1) := by decide +kernel
theorem dX2_isKindAndNumber_1 : decode cX2_isKindAndNumber 1 = .ok (.ifCond .lt 13, 3) := by decide +kernel
theorem dX2_isKindAndNumber_4 : decode cX2_isKindAndNumber 4 = .ok (.iload_n 0, 1) := by decide +kernel
theorem dX2_isKindAndNumber_5 : decode cX2_isKindAndNumber 5 = .ok (.bipush 70, 2) := by decide +kernel
theorem dX2_isKindAndNumber_7 : decode cX2_isKindAndNumber 7 = .ok (.if_icmp .ge 7, 3) := by decide +kernel
theorem dX2_isKindAndNumber_10 : decode cX2_isKindAndNumber 10 = .ok (.iconst 1, 1) := by decide +kernel
theorem dX2_isKindAndNumber_11 : decode cX2_isKindAndNumber 11 = .ok (.goto 4, 3) := by decide +kernel
theorem dX2_isKindAndNumber_14 : decode cX2_isKindAndNumber 14 = .ok (.iconst 0, 1) := by decide +kernel
theorem dX2_isKindAndNumber_15 : decode cX2_isKindAndNumber 15 = .ok (.ireturn, 1) := by decide +kernel
set_option maxRecDepth 20000 in
theorem ggX2_above_X2_isKind : GoodIn wsX2_above wsX2_isKind := goodIn_r _ [5] (by decide +kernel) (by decide +kernel)
set_option maxRecDepth 20000 in
theorem gX2_above_X2_isKind : GoodIn wsX2_above (va_wsS RX2 9 yX2_isKind wsX2_isKind) := goodIn_app (goodIn_of _ (by decide +kernel)) ggX2_above_X2_isKind
theorem dX2_above_0 : decode cX2_above 0 = .ok (.iload_n 0, 1) := by decide +kernel
theorem dX2_above_1 : decode cX2_above 1 = .ok (.invokestatic 9, 3) := by decide +kernel
theorem dX2_above_4 : decode cX2_above 4 = .ok (.ifCond .eq 11, 3) := by decide +kernel
theorem dX2_above_7 : decode cX2_above 7 = .ok (.getstatic 13, 3) := by decide +kernel
theorem dX2_above_10 : decode cX2_above 10 = .ok (.iload_n 0, 1) := by decide +kernel
theorem dX2_above_11 : decode cX2_above 11 = .ok (.iaload, 1) := by decide +kernel
theorem dX2_above_12 : decode cX2_above 12 = .ok (.goto 4, 3) := by decide +kernel
theorem dX2_above_15 : decode cX2_above 15 = .ok (.iconst (-1), 1) := by decide +kernel
theorem dX2_above_16 : decode cX2_above 16 = .ok (.ireturn, 1) := by decide +kernel
set_option maxRecDepth 20000 in
theorem ggX2_isUnder_X2_above : GoodIn wsX2_isUnder wsX2_above := goodIn_r _ [4, 5, 6, 7, 3, 8] (by decide +kernel) (by decide +kernel)
set_option maxRecDepth 20000 in
theorem gX2_isUnder_X2_above : GoodIn wsX2_isUnder (va_wsS RX2 17 yX2_above wsX2_above) := goodIn_app (goodIn_of _ (by decide +kernel)) ggX2_isUnder_X2_above
theorem dX2_isUnder_0 : decode cX2_isUnder 0 = .ok (.iload_n 0, 1) := by decide +kernel
theorem dX2_isUnder_1 : decode cX2_isUnder 1 = .ok (.istore_n 2, 1) := by decide +kernel
theorem dX2_isUnder_2 : decode cX2_isUnder 2 = .ok (.iconst 0, 1) := by decide +kernel
theorem dX2_isUnder_3 : decode cX2_isUnder 3 = .ok (.istore_n 3, 1) := by decide +kernel
theorem dX2_isUnder_4 : decode cX2_isUnder 4 = .ok (.iload_n 3, 1) := by decide +kernel
theorem dX2_isUnder_5 : decode cX2_isUnder 5 = .ok (.bipush 7, 2) := by decide +kernel
theorem dX2_isUnder_7 : decode cX2_isUnder 7 = .ok (.if_icmp .ge 21, 3) := by decide +kernel
theorem dX2_isUnder_10 : decode cX2_isUnder 10 = .ok (.iload_n 2, 1) := by decide +kernel
theorem dX2_isUnder_11 : decode cX2_isUnder 11 = .ok (.iload_n 1, 1) := by decide +kernel
theorem dX2_isUnder_12 : decode cX2_isUnder 12 = .ok (.if_icmp .ne 5, 3) := by decide +kernel
theorem dX2_isUnder_15 : decode cX2_isUnder 15 = .ok (.iconst 1, 1) := by decide +kernel
theorem dX2_isUnder_16 : decode cX2_isUnder 16 = .ok (.ireturn, 1) := by decide +kernel
theorem dX2_isUnder_17 : decode cX2_isUnder 17 = .ok (.iload_n 2, 1) := by decide +kernel
theorem dX2_isUnder_18 : decode cX2_isUnder 18 = .ok (.invokestatic 17, 3) := by decide +kernel
theorem dX2_isUnder_21 : decode cX2_isUnder 21 = .ok (.istore_n 2, 1) := by decide +kernel
theorem dX2_isUnder_22 : decode cX2_isUnder 22 = .ok (.iinc 3 1, 3) := by decide +kernel
theorem dX2_isUnder_25 : decode cX2_isUnder 25 = .ok (.goto (-21), 3) := by decide +kernel
theorem dX2_isUnder_28 : decode cX2_isUnder 28 = .ok (.iconst 0, 1) := by decide +kernel
theorem dX2_isUnder_29 : decode cX2_isUnder 29 = .ok (.ireturn, 1) := by decide +kernel
theorem dX3_init_0 : decode cX3_init 0 = .ok (.aload_n 0, 1) := by decide +kernel
theorem dX3_init_1 : decode cX3_init 1 = .ok (.invokespecial 1, 3) := by decide +kernel
theorem dX3_init_4 : decode cX3_init 4 = .ok (.aload_n 0, 1) := by decide +kernel
theorem dX3_init_5 : decode cX3_init 5 = .ok (.sipush 144, 3) := by decide +kernel
theorem dX3_init_8 : decode cX3_init 8 = .ok (.newarray .int, 2) := by decide +kernel
theorem dX3_init_10 : decode cX3_init 10 = .ok (.putfield 9, 3) := by decide +kernel
theorem dX3_init_13 : decode cX3_init 13 = .ok (.aload_n 0, 1) := by decide +kernel
theorem dX3_init_14 : decode cX3_init 14 = .ok (.lconst 0, 1) := by decide +kernel
theorem dX3_init_15 : decode cX3_init 15 = .ok (.putfield 15, 3) := by decide +kernel
theorem dX3_init_18 : decode cX3_init 18 = .ok (.return_, 1) := by decide +kernel
set_option maxRecDepth 20000 in
theorem ggX3_learn_X0_rest : GoodIn wsX3_learn wsX0_rest := goodIn_r _ [6, 7, 8, 5, 9, 10, 11, 12] (by decide +kernel) (by decide +kernel)
set_option maxRecDepth 20000 in
theorem gX3_learn_X0_rest : GoodIn wsX3_learn (va_wsS RX3 19 yX0_rest wsX0_rest) := goodIn_app (goodIn_of _ (by decide +kernel)) ggX3_learn_X0_rest
theorem dX3_learn_0 : decode cX3_learn 0 = .ok (.aload_n 0, 1) := by decide +kernel
theorem dX3_learn_1 : decode cX3_learn 1 = .ok (.lload_n 1, 1) := by decide +kernel
theorem dX3_learn_2 : decode cX3_learn 2 = .ok (.putfield 15, 3) := by decide +kernel
theorem dX3_learn_5 : decode cX3_learn 5 = .ok (.iconst 0, 1) := by decide +kernel
theorem dX3_learn_6 : decode cX3_learn 6 = .ok (.istore_n 3, 1) := by decide +kernel
theorem dX3_learn_7 : decode cX3_learn 7 = .ok (.iload_n 3, 1) := by decide +kernel
theorem dX3_learn_8 : decode cX3_learn 8 = .ok (.aload_n 0, 1) := by decide +kernel
theorem dX3_learn_9 : decode cX3_learn 9 = .ok (.getfield 9, 3) := by decide +kernel
theorem dX3_learn_12 : decode cX3_learn 12 = .ok (.arraylength, 1) := by decide +kernel
theorem dX3_learn_13 : decode cX3_learn 13 = .ok (.if_icmp .ge 30, 3) := by decide +kernel
theorem dX3_learn_16 : decode cX3_learn 16 = .ok (.aload_n 0, 1) := by decide +kernel
theorem dX3_learn_17 : decode cX3_learn 17 = .ok (.getfield 9, 3) := by decide +kernel
theorem dX3_learn_20 : decode cX3_learn 20 = .ok (.iload_n 3, 1) := by decide +kernel
theorem dX3_learn_21 : decode cX3_learn 21 = .ok (.aload_n 0, 1) := by decide +kernel
theorem dX3_learn_22 : decode cX3_learn 22 = .ok (.getfield 15, 3) := by decide +kernel
theorem dX3_learn_25 : decode cX3_learn 25 = .ok (.iload_n 3, 1) := by decide +kernel
theorem dX3_learn_26 : decode cX3_learn 26 = .ok (.bipush 36, 2) := by decide +kernel
theorem dX3_learn_28 : decode cX3_learn 28 = .ok (.irem, 1) := by decide +kernel
theorem dX3_learn_29 : decode cX3_learn 29 = .ok (.iload_n 3, 1) := by decide +kernel
theorem dX3_learn_30 : decode cX3_learn 30 = .ok (.bipush 36, 2) := by decide +kernel
theorem dX3_learn_32 : decode cX3_learn 32 = .ok (.idiv, 1) := by decide +kernel
theorem dX3_learn_33 : decode cX3_learn 33 = .ok (.invokestatic 19, 3) := by decide +kernel
theorem dX3_learn_36 : decode cX3_learn 36 = .ok (.iastore, 1) := by decide +kernel
theorem dX3_learn_37 : decode cX3_learn 37 = .ok (.iinc 3 1, 3) := by decide +kernel
theorem dX3_learn_40 : decode cX3_learn 40 = .ok (.goto (-33), 3) := by decide +kernel
theorem dX3_learn_43 : decode cX3_learn 43 = .ok (.return_, 1) := by decide +kernel
theorem dX3_rest_0 : decode cX3_rest 0 = .ok (.iload_n 2, 1) := by decide +kernel
theorem dX3_rest_1 : decode cX3_rest 1 = .ok (.bipush 36, 2) := by decide +kernel
theorem dX3_rest_3 : decode cX3_rest 3 = .ok (.imul, 1) := by decide +kernel
theorem dX3_rest_4 : decode cX3_rest 4 = .ok (.iload_n 1, 1) := by decide +kernel
theorem dX3_rest_5 : decode cX3_rest 5 = .ok (.iadd, 1) := by decide +kernel
theorem dX3_rest_6 : decode cX3_rest 6 = .ok (.istore_n 3, 1) := by decide +kernel
theorem dX3_rest_7 : decode cX3_rest 7 = .ok (.iload_n 3, 1) := by decide +kernel
theorem dX3_rest_8 : decode cX3_rest 8 = .ok (.ifCond .lt 21, 3) := by decide +kernel
theorem dX3_rest_11 : decode cX3_rest 11 = .ok (.iload_n 3, 1) := by decide +kernel
theorem dX3_rest_12 : decode cX3_rest 12 = .ok (.aload_n 0, 1) := by decide +kernel
theorem dX3_rest_13 : decode cX3_rest 13 = .ok (.getfield 9, 3) := by decide +kernel
theorem dX3_rest_16 : decode cX3_rest 16 = .ok (.arraylength, 1) := by decide +kernel
theorem dX3_rest_17 : decode cX3_rest 17 = .ok (.if_icmp .ge 12, 3) := by decide +kernel
theorem dX3_rest_20 : decode cX3_rest 20 = .ok (.aload_n 0, 1) := by decide +kernel
theorem dX3_rest_21 : decode cX3_rest 21 = .ok (.getfield 9, 3) := by decide +kernel
theorem dX3_rest_24 : decode cX3_rest 24 = .ok (.iload_n 3, 1) := by decide +kernel
theorem dX3_rest_25 : decode cX3_rest 25 = .ok (.iaload, 1) := by decide +kernel
theorem dX3_rest_26 : decode cX3_rest 26 = .ok (.goto 4, 3) := by decide +kernel
theorem dX3_rest_29 : decode cX3_rest 29 = .ok (.iload_n 1, 1) := by decide +kernel
theorem dX3_rest_30 : decode cX3_rest 30 = .ok (.ireturn, 1) := by decide +kernel
set_option maxRecDepth 20000 in
theorem ggX3_spread_X0_isIn : GoodIn wsX3_spread wsX0_isIn := goodIn_r _ [4] (by decide +kernel) (by decide +kernel)
set_option maxRecDepth 20000 in
theorem gX3_spread_X0_isIn : GoodIn wsX3_spread (va_wsS RX3 23 yX0_isIn wsX0_isIn) := goodIn_app (goodIn_of _ (by decide +kernel)) ggX3_spread_X0_isIn
set_option maxRecDepth 20000 in
theorem ggX3_spread_X3_rest : GoodIn wsX3_spread wsX3_rest := goodIn_r _ [9, 10, 11, 12] (by decide +kernel) (by decide +kernel)
set_option maxRecDepth 20000 in
theorem gX3_spread_X3_rest : GoodIn wsX3_spread (wsV RX3 27 RX3 yX3_rest wsX3_rest) := goodIn_app (goodIn_of _ (by decide +kernel)) ggX3_spread_X3_rest
theorem dX3_spread_0 : decode cX3_spread 0 = .ok (.lconst 0, 1) := by decide +kernel
theorem dX3_spread_1 : decode cX3_spread 1 = .ok (.lstore 4, 2) := by decide +kernel
theorem dX3_spread_3 : decode cX3_spread 3 = .ok (.iconst 0, 1) := by decide +kernel
theorem dX3_spread_4 : decode cX3_spread 4 = .ok (.istore 6, 2) := by decide +kernel
theorem dX3_spread_6 : decode cX3_spread 6 = .ok (.iload 6, 2) := by decide +kernel
theorem dX3_spread_8 : decode cX3_spread 8 = .ok (.bipush 36, 2) := by decide +kernel
theorem dX3_spread_10 : decode cX3_spread 10 = .ok (.if_icmp .ge 32, 3) := by decide +kernel
theorem dX3_spread_13 : decode cX3_spread 13 = .ok (.lload_n 1, 1) := by decide +kernel
theorem dX3_spread_14 : decode cX3_spread 14 = .ok (.iload 6, 2) := by decide +kernel
theorem dX3_spread_16 : decode cX3_spread 16 = .ok (.invokestatic 23, 3) := by decide +kernel
theorem dX3_spread_19 : decode cX3_spread 19 = .ok (.ifCond .eq 17, 3) := by decide +kernel
theorem dX3_spread_22 : decode cX3_spread 22 = .ok (.lload 4, 2) := by decide +kernel
theorem dX3_spread_24 : decode cX3_spread 24 = .ok (.lconst 1, 1) := by decide +kernel
theorem dX3_spread_25 : decode cX3_spread 25 = .ok (.aload_n 0, 1) := by decide +kernel
theorem dX3_spread_26 : decode cX3_spread 26 = .ok (.iload 6, 2) := by decide +kernel
theorem dX3_spread_28 : decode cX3_spread 28 = .ok (.iload_n 3, 1) := by decide +kernel
theorem dX3_spread_29 : decode cX3_spread 29 = .ok (.invokevirtual 27, 3) := by decide +kernel
theorem dX3_spread_32 : decode cX3_spread 32 = .ok (.lshl, 1) := by decide +kernel
theorem dX3_spread_33 : decode cX3_spread 33 = .ok (.lor, 1) := by decide +kernel
theorem dX3_spread_34 : decode cX3_spread 34 = .ok (.lstore 4, 2) := by decide +kernel
theorem dX3_spread_36 : decode cX3_spread 36 = .ok (.iinc 6 1, 3) := by decide +kernel
theorem dX3_spread_39 : decode cX3_spread 39 = .ok (.goto (-33), 3) := by decide +kernel
theorem dX3_spread_42 : decode cX3_spread 42 = .ok (.lload 4, 2) := by decide +kernel
theorem dX3_spread_44 : decode cX3_spread 44 = .ok (.lreturn, 1) := by decide +kernel
set_option maxRecDepth 20000 in
theorem ggX3_gather_X0_isIn : GoodIn wsX3_gather wsX0_isIn := goodIn_r _ [5] (by decide +kernel) (by decide +kernel)
set_option maxRecDepth 20000 in
theorem gX3_gather_X0_isIn : GoodIn wsX3_gather (va_wsS RX3 23 yX0_isIn wsX0_isIn) := goodIn_app (goodIn_of _ (by decide +kernel)) ggX3_gather_X0_isIn
set_option maxRecDepth 20000 in
theorem ggX3_gather_X3_rest : GoodIn wsX3_gather wsX3_rest := goodIn_r _ [10, 11, 12, 13] (by decide +kernel) (by decide +kernel)
set_option maxRecDepth 20000 in
theorem gX3_gather_X3_rest : GoodIn wsX3_gather (wsV RX3 27 RX3 yX3_rest wsX3_rest) := goodIn_app (goodIn_of _ (by decide +kernel)) ggX3_gather_X3_rest
theorem dX3_gather_0 : decode cX3_gather 0 = .ok (.lconst 0, 1) := by decide +kernel
theorem dX3_gather_1 : decode cX3_gather 1 = .ok (.lstore 4, 2) := by decide +kernel
theorem dX3_gather_3 : decode cX3_gather 3 = .ok (.iconst 0, 1) := by decide +kernel
theorem dX3_gather_4 : decode cX3_gather 4 = .ok (.istore 6, 2) := by decide +kernel
theorem dX3_gather_6 : decode cX3_gather 6 = .ok (.iload 6, 2) := by decide +kernel
theorem dX3_gather_8 : decode cX3_gather 8 = .ok (.bipush 36, 2) := by decide +kernel
theorem dX3_gather_10 : decode cX3_gather 10 = .ok (.if_icmp .ge 44, 3) := by decide +kernel
theorem dX3_gather_13 : decode cX3_gather 13 = .ok (.aload_n 0, 1) := by decide +kernel
theorem dX3_gather_14 : decode cX3_gather 14 = .ok (.getfield 15, 3) := by decide +kernel
theorem dX3_gather_17 : decode cX3_gather 17 = .ok (.iload 6, 2) := by decide +kernel
theorem dX3_gather_19 : decode cX3_gather 19 = .ok (.invokestatic 23, 3) := by decide +kernel
theorem dX3_gather_22 : decode cX3_gather 22 = .ok (.ifCond .ne 26, 3) := by decide +kernel
theorem dX3_gather_25 : decode cX3_gather 25 = .ok (.lload_n 1, 1) := by decide +kernel
theorem dX3_gather_26 : decode cX3_gather 26 = .ok (.aload_n 0, 1) := by decide +kernel
theorem dX3_gather_27 : decode cX3_gather 27 = .ok (.iload 6, 2) := by decide +kernel
theorem dX3_gather_29 : decode cX3_gather 29 = .ok (.iload_n 3, 1) := by decide +kernel
theorem dX3_gather_30 : decode cX3_gather 30 = .ok (.invokevirtual 27, 3) := by decide +kernel
theorem dX3_gather_33 : decode cX3_gather 33 = .ok (.invokestatic 23, 3) := by decide +kernel
theorem dX3_gather_36 : decode cX3_gather 36 = .ok (.ifCond .eq 12, 3) := by decide +kernel
theorem dX3_gather_39 : decode cX3_gather 39 = .ok (.lload 4, 2) := by decide +kernel
theorem dX3_gather_41 : decode cX3_gather 41 = .ok (.lconst 1, 1) := by decide +kernel
theorem dX3_gather_42 : decode cX3_gather 42 = .ok (.iload 6, 2) := by decide +kernel
theorem dX3_gather_44 : decode cX3_gather 44 = .ok (.lshl, 1) := by decide +kernel
theorem dX3_gather_45 : decode cX3_gather 45 = .ok (.lor, 1) := by decide +kernel
theorem dX3_gather_46 : decode cX3_gather 46 = .ok (.lstore 4, 2) := by decide +kernel
theorem dX3_gather_48 : decode cX3_gather 48 = .ok (.iinc 6 1, 3) := by decide +kernel
theorem dX3_gather_51 : decode cX3_gather 51 = .ok (.goto (-45), 3) := by decide +kernel
theorem dX3_gather_54 : decode cX3_gather 54 = .ok (.lload 4, 2) := by decide +kernel
theorem dX3_gather_56 : decode cX3_gather 56 = .ok (.lreturn, 1) := by decide +kernel
theorem dX4_init_0 : decode cX4_init 0 = .ok (.aload_n 0, 1) := by decide +kernel
theorem dX4_init_1 : decode cX4_init 1 = .ok (.invokespecial 1, 3) := by decide +kernel
theorem dX4_init_4 : decode cX4_init 4 = .ok (.aload_n 0, 1) := by decide +kernel
theorem dX4_init_5 : decode cX4_init 5 = .ok (.bipush 60, 2) := by decide +kernel
theorem dX4_init_7 : decode cX4_init 7 = .ok (.newarray .int, 2) := by decide +kernel
theorem dX4_init_9 : decode cX4_init 9 = .ok (.putfield 9, 3) := by decide +kernel
theorem dX4_init_12 : decode cX4_init 12 = .ok (.aload_n 0, 1) := by decide +kernel
theorem dX4_init_13 : decode cX4_init 13 = .ok (.bipush 60, 2) := by decide +kernel
theorem dX4_init_15 : decode cX4_init 15 = .ok (.newarray .int, 2) := by decide +kernel
theorem dX4_init_17 : decode cX4_init 17 = .ok (.putfield 13, 3) := by decide +kernel
theorem dX4_init_20 : decode cX4_init 20 = .ok (.aload_n 0, 1) := by decide +kernel
theorem dX4_init_21 : decode cX4_init 21 = .ok (.iconst 0, 1) := by decide +kernel
theorem dX4_init_22 : decode cX4_init 22 = .ok (.putfield 16, 3) := by decide +kernel
theorem dX4_init_25 : decode cX4_init 25 = .ok (.return_, 1) := by decide +kernel
theorem dX4_isTold_0 : decode cX4_isTold 0 = .ok (.aload_n 0, 1) := by decide +kernel
theorem dX4_isTold_1 : decode cX4_isTold 1 = .ok (.getfield 16, 3) := by decide +kernel
theorem dX4_isTold_4 : decode cX4_isTold 4 = .ok (.ifCond .le 7, 3) := by decide +kernel
theorem dX4_isTold_7 : decode cX4_isTold 7 = .ok (.iconst 1, 1) := by decide +kernel
theorem dX4_isTold_8 : decode cX4_isTold 8 = .ok (.goto 4, 3) := by decide +kernel
theorem dX4_isTold_11 : decode cX4_isTold 11 = .ok (.iconst 0, 1) := by decide +kernel
theorem dX4_isTold_12 : decode cX4_isTold 12 = .ok (.ireturn, 1) := by decide +kernel
theorem dX4_forget_0 : decode cX4_forget 0 = .ok (.aload_n 0, 1) := by decide +kernel
theorem dX4_forget_1 : decode cX4_forget 1 = .ok (.iconst 0, 1) := by decide +kernel
theorem dX4_forget_2 : decode cX4_forget 2 = .ok (.putfield 16, 3) := by decide +kernel
theorem dX4_forget_5 : decode cX4_forget 5 = .ok (.return_, 1) := by decide +kernel
theorem dX4_learn_0 : decode cX4_learn 0 = .ok (.aload_n 0, 1) := by decide +kernel
theorem dX4_learn_1 : decode cX4_learn 1 = .ok (.iload_n 2, 1) := by decide +kernel
theorem dX4_learn_2 : decode cX4_learn 2 = .ok (.aload_n 1, 1) := by decide +kernel
theorem dX4_learn_3 : decode cX4_learn 3 = .ok (.arraylength, 1) := by decide +kernel
theorem dX4_learn_4 : decode cX4_learn 4 = .ok (.bipush 60, 2) := by decide +kernel
theorem dX4_learn_6 : decode cX4_learn 6 = .ok (.invokestatic 20, 3) := by decide +kernel
theorem dX4_learn_9 : decode cX4_learn 9 = .ok (.invokestatic 20, 3) := by decide +kernel
theorem dX4_learn_12 : decode cX4_learn 12 = .ok (.putfield 16, 3) := by decide +kernel
theorem dX4_learn_15 : decode cX4_learn 15 = .ok (.iconst 0, 1) := by decide +kernel
theorem dX4_learn_16 : decode cX4_learn 16 = .ok (.istore_n 3, 1) := by decide +kernel
theorem dX4_learn_17 : decode cX4_learn 17 = .ok (.iload_n 3, 1) := by decide +kernel
theorem dX4_learn_18 : decode cX4_learn 18 = .ok (.aload_n 0, 1) := by decide +kernel
theorem dX4_learn_19 : decode cX4_learn 19 = .ok (.getfield 16, 3) := by decide +kernel
theorem dX4_learn_22 : decode cX4_learn 22 = .ok (.if_icmp .ge 18, 3) := by decide +kernel
theorem dX4_learn_25 : decode cX4_learn 25 = .ok (.aload_n 0, 1) := by decide +kernel
theorem dX4_learn_26 : decode cX4_learn 26 = .ok (.getfield 9, 3) := by decide +kernel
theorem dX4_learn_29 : decode cX4_learn 29 = .ok (.iload_n 3, 1) := by decide +kernel
theorem dX4_learn_30 : decode cX4_learn 30 = .ok (.aload_n 1, 1) := by decide +kernel
theorem dX4_learn_31 : decode cX4_learn 31 = .ok (.iload_n 3, 1) := by decide +kernel
theorem dX4_learn_32 : decode cX4_learn 32 = .ok (.iaload, 1) := by decide +kernel
theorem dX4_learn_33 : decode cX4_learn 33 = .ok (.iastore, 1) := by decide +kernel
theorem dX4_learn_34 : decode cX4_learn 34 = .ok (.iinc 3 1, 3) := by decide +kernel
theorem dX4_learn_37 : decode cX4_learn 37 = .ok (.goto (-20), 3) := by decide +kernel
theorem dX4_learn_40 : decode cX4_learn 40 = .ok (.return_, 1) := by decide +kernel
set_option maxRecDepth 20000 in
theorem ggX4_takeOver_X4_learn : GoodIn wsX4_takeOver wsX4_learn := goodIn_r _ [7, 8, 9, 10, 11, 2, 1, 12, 13, 14] (by decide +kernel) (by decide +kernel)
set_option maxRecDepth 20000 in
theorem gX4_takeOver_X4_learn : GoodIn wsX4_takeOver (wsV RX4 26 RX4 yX4_learn wsX4_learn) := goodIn_app (goodIn_of _ (by decide +kernel)) ggX4_takeOver_X4_learn
theorem dX4_takeOver_0 : decode cX4_takeOver 0 = .ok (.aload_n 0, 1) := by decide +kernel
theorem dX4_takeOver_1 : decode cX4_takeOver 1 = .ok (.aload_n 1, 1) := by decide +kernel
theorem dX4_takeOver_2 : decode cX4_takeOver 2 = .ok (.getfield 9, 3) := by decide +kernel
theorem dX4_takeOver_5 : decode cX4_takeOver 5 = .ok (.aload_n 1, 1) := by decide +kernel
theorem dX4_takeOver_6 : decode cX4_takeOver 6 = .ok (.getfield 16, 3) := by decide +kernel
theorem dX4_takeOver_9 : decode cX4_takeOver 9 = .ok (.invokevirtual 26, 3) := by decide +kernel
theorem dX4_takeOver_12 : decode cX4_takeOver 12 = .ok (.return_, 1) := by decide +kernel
set_option maxRecDepth 20000 in
theorem ggX4_work_X4_named : GoodIn wsX4_work wsX4_named := goodIn_r _ [7] (by decide +kernel) (by decide +kernel)
set_option maxRecDepth 20000 in
theorem gX4_work_X4_named : GoodIn wsX4_work (va_wsS RX4 30 yX4_named wsX4_named) := goodIn_app (goodIn_of _ (by decide +kernel)) ggX4_work_X4_named
set_option maxRecDepth 20000 in
theorem ggX4_work_X4_joined : GoodIn wsX4_work wsX4_joined := goodIn_r _ [10] (by decide +kernel) (by decide +kernel)
set_option maxRecDepth 20000 in
theorem gX4_work_X4_joined : GoodIn wsX4_work (va_wsS RX4 34 yX4_joined wsX4_joined) := goodIn_app (goodIn_of _ (by decide +kernel)) ggX4_work_X4_joined
theorem dX4_work_0 : decode cX4_work 0 = .ok (.iconst 0, 1) := by decide +kernel
theorem dX4_work_1 : decode cX4_work 1 = .ok (.istore 4, 2) := by decide +kernel
theorem dX4_work_3 : decode cX4_work 3 = .ok (.iconst 0, 1) := by decide +kernel
theorem dX4_work_4 : decode cX4_work 4 = .ok (.istore 5, 2) := by decide +kernel
theorem dX4_work_6 : decode cX4_work 6 = .ok (.iload 5, 2) := by decide +kernel
theorem dX4_work_8 : decode cX4_work 8 = .ok (.aload_n 0, 1) := by decide +kernel
theorem dX4_work_9 : decode cX4_work 9 = .ok (.getfield 16, 3) := by decide +kernel
theorem dX4_work_12 : decode cX4_work 12 = .ok (.if_icmp .ge 178, 3) := by decide +kernel
theorem dX4_work_15 : decode cX4_work 15 = .ok (.iload 5, 2) := by decide +kernel
theorem dX4_work_17 : decode cX4_work 17 = .ok (.bipush 60, 2) := by decide +kernel
theorem dX4_work_19 : decode cX4_work 19 = .ok (.if_icmp .ge 171, 3) := by decide +kernel
theorem dX4_work_22 : decode cX4_work 22 = .ok (.aload_n 0, 1) := by decide +kernel
theorem dX4_work_23 : decode cX4_work 23 = .ok (.getfield 9, 3) := by decide +kernel
theorem dX4_work_26 : decode cX4_work 26 = .ok (.iload 5, 2) := by decide +kernel
theorem dX4_work_28 : decode cX4_work 28 = .ok (.iaload, 1) := by decide +kernel
theorem dX4_work_29 : decode cX4_work 29 = .ok (.istore 6, 2) := by decide +kernel
theorem dX4_work_31 : decode cX4_work 31 = .ok (.iload 6, 2) := by decide +kernel
theorem dX4_work_33 : decode cX4_work 33 = .ok (.sipush 20000, 3) := by decide +kernel
theorem dX4_work_36 : decode cX4_work 36 = .ok (.if_icmp .ge 48, 3) := by decide +kernel
theorem dX4_work_39 : decode cX4_work 39 = .ok (.iload 4, 2) := by decide +kernel
theorem dX4_work_41 : decode cX4_work 41 = .ok (.bipush 60, 2) := by decide +kernel
theorem dX4_work_43 : decode cX4_work 43 = .ok (.if_icmp .ge 141, 3) := by decide +kernel
theorem dX4_work_46 : decode cX4_work 46 = .ok (.aload_n 0, 1) := by decide +kernel
theorem dX4_work_47 : decode cX4_work 47 = .ok (.getfield 13, 3) := by decide +kernel
theorem dX4_work_50 : decode cX4_work 50 = .ok (.iload 4, 2) := by decide +kernel
theorem dX4_work_52 : decode cX4_work 52 = .ok (.iload 6, 2) := by decide +kernel
theorem dX4_work_54 : decode cX4_work 54 = .ok (.sipush 10000, 3) := by decide +kernel
theorem dX4_work_57 : decode cX4_work 57 = .ok (.if_icmp .ge 8, 3) := by decide +kernel
theorem dX4_work_60 : decode cX4_work 60 = .ok (.iload 6, 2) := by decide +kernel
theorem dX4_work_62 : decode cX4_work 62 = .ok (.goto 15, 3) := by decide +kernel
theorem dX4_work_65 : decode cX4_work 65 = .ok (.iload 6, 2) := by decide +kernel
theorem dX4_work_67 : decode cX4_work 67 = .ok (.sipush 10000, 3) := by decide +kernel
theorem dX4_work_70 : decode cX4_work 70 = .ok (.isub, 1) := by decide +kernel
theorem dX4_work_71 : decode cX4_work 71 = .ok (.iload_n 1, 1) := by decide +kernel
theorem dX4_work_72 : decode cX4_work 72 = .ok (.iload_n 2, 1) := by decide +kernel
theorem dX4_work_73 : decode cX4_work 73 = .ok (.iload_n 3, 1) := by decide +kernel
theorem dX4_work_74 : decode cX4_work 74 = .ok (.invokestatic 30, 3) := by decide +kernel
theorem dX4_work_77 : decode cX4_work 77 = .ok (.iastore, 1) := by decide +kernel
theorem dX4_work_78 : decode cX4_work 78 = .ok (.iinc 4 1, 3) := by decide +kernel
theorem dX4_work_81 : decode cX4_work 81 = .ok (.goto 103, 3) := by decide +kernel
theorem dX4_work_84 : decode cX4_work 84 = .ok (.iload 6, 2) := by decide +kernel
theorem dX4_work_86 : decode cX4_work 86 = .ok (.sipush 20033, 3) := by decide +kernel
theorem dX4_work_89 : decode cX4_work 89 = .ok (.if_icmp .ne 45, 3) := by decide +kernel
theorem dX4_work_92 : decode cX4_work 92 = .ok (.iload 4, 2) := by decide +kernel
theorem dX4_work_94 : decode cX4_work 94 = .ok (.iconst 1, 1) := by decide +kernel
theorem dX4_work_95 : decode cX4_work 95 = .ok (.if_icmp .lt 89, 3) := by decide +kernel
theorem dX4_work_98 : decode cX4_work 98 = .ok (.iload 4, 2) := by decide +kernel
theorem dX4_work_100 : decode cX4_work 100 = .ok (.bipush 60, 2) := by decide +kernel
theorem dX4_work_102 : decode cX4_work 102 = .ok (.if_icmp .gt 82, 3) := by decide +kernel
theorem dX4_work_105 : decode cX4_work 105 = .ok (.aload_n 0, 1) := by decide +kernel
theorem dX4_work_106 : decode cX4_work 106 = .ok (.getfield 13, 3) := by decide +kernel
theorem dX4_work_109 : decode cX4_work 109 = .ok (.iload 4, 2) := by decide +kernel
theorem dX4_work_111 : decode cX4_work 111 = .ok (.iconst 1, 1) := by decide +kernel
theorem dX4_work_112 : decode cX4_work 112 = .ok (.isub, 1) := by decide +kernel
theorem dX4_work_113 : decode cX4_work 113 = .ok (.aload_n 0, 1) := by decide +kernel
theorem dX4_work_114 : decode cX4_work 114 = .ok (.getfield 13, 3) := by decide +kernel
theorem dX4_work_117 : decode cX4_work 117 = .ok (.iload 4, 2) := by decide +kernel
theorem dX4_work_119 : decode cX4_work 119 = .ok (.iconst 1, 1) := by decide +kernel
theorem dX4_work_120 : decode cX4_work 120 = .ok (.isub, 1) := by decide +kernel
theorem dX4_work_121 : decode cX4_work 121 = .ok (.iaload, 1) := by decide +kernel
theorem dX4_work_122 : decode cX4_work 122 = .ok (.ifCond .ne 7, 3) := by decide +kernel
theorem dX4_work_125 : decode cX4_work 125 = .ok (.iconst 1, 1) := by decide +kernel
theorem dX4_work_126 : decode cX4_work 126 = .ok (.goto 4, 3) := by decide +kernel
theorem dX4_work_129 : decode cX4_work 129 = .ok (.iconst 0, 1) := by decide +kernel
theorem dX4_work_130 : decode cX4_work 130 = .ok (.iastore, 1) := by decide +kernel
theorem dX4_work_131 : decode cX4_work 131 = .ok (.goto 53, 3) := by decide +kernel
theorem dX4_work_134 : decode cX4_work 134 = .ok (.iload 4, 2) := by decide +kernel
theorem dX4_work_136 : decode cX4_work 136 = .ok (.iconst 2, 1) := by decide +kernel
theorem dX4_work_137 : decode cX4_work 137 = .ok (.if_icmp .lt 47, 3) := by decide +kernel
theorem dX4_work_140 : decode cX4_work 140 = .ok (.iload 4, 2) := by decide +kernel
theorem dX4_work_142 : decode cX4_work 142 = .ok (.bipush 60, 2) := by decide +kernel
theorem dX4_work_144 : decode cX4_work 144 = .ok (.if_icmp .gt 40, 3) := by decide +kernel
theorem dX4_work_147 : decode cX4_work 147 = .ok (.iinc 4 (-1), 3) := by decide +kernel
theorem dX4_work_150 : decode cX4_work 150 = .ok (.aload_n 0, 1) := by decide +kernel
theorem dX4_work_151 : decode cX4_work 151 = .ok (.getfield 13, 3) := by decide +kernel
theorem dX4_work_154 : decode cX4_work 154 = .ok (.iload 4, 2) := by decide +kernel
theorem dX4_work_156 : decode cX4_work 156 = .ok (.iconst 1, 1) := by decide +kernel
theorem dX4_work_157 : decode cX4_work 157 = .ok (.isub, 1) := by decide +kernel
theorem dX4_work_158 : decode cX4_work 158 = .ok (.iload 6, 2) := by decide +kernel
theorem dX4_work_160 : decode cX4_work 160 = .ok (.sipush 20000, 3) := by decide +kernel
theorem dX4_work_163 : decode cX4_work 163 = .ok (.isub, 1) := by decide +kernel
theorem dX4_work_164 : decode cX4_work 164 = .ok (.aload_n 0, 1) := by decide +kernel
theorem dX4_work_165 : decode cX4_work 165 = .ok (.getfield 13, 3) := by decide +kernel
theorem dX4_work_168 : decode cX4_work 168 = .ok (.iload 4, 2) := by decide +kernel
theorem dX4_work_170 : decode cX4_work 170 = .ok (.iconst 1, 1) := by decide +kernel
theorem dX4_work_171 : decode cX4_work 171 = .ok (.isub, 1) := by decide +kernel
theorem dX4_work_172 : decode cX4_work 172 = .ok (.iaload, 1) := by decide +kernel
theorem dX4_work_173 : decode cX4_work 173 = .ok (.aload_n 0, 1) := by decide +kernel
theorem dX4_work_174 : decode cX4_work 174 = .ok (.getfield 13, 3) := by decide +kernel
theorem dX4_work_177 : decode cX4_work 177 = .ok (.iload 4, 2) := by decide +kernel
theorem dX4_work_179 : decode cX4_work 179 = .ok (.iaload, 1) := by decide +kernel
theorem dX4_work_180 : decode cX4_work 180 = .ok (.invokestatic 34, 3) := by decide +kernel
theorem dX4_work_183 : decode cX4_work 183 = .ok (.iastore, 1) := by decide +kernel
theorem dX4_work_184 : decode cX4_work 184 = .ok (.iinc 5 1, 3) := by decide +kernel
theorem dX4_work_187 : decode cX4_work 187 = .ok (.goto (-181), 3) := by decide +kernel
theorem dX4_work_190 : decode cX4_work 190 = .ok (.aload_n 0, 1) := by decide +kernel
theorem dX4_work_191 : decode cX4_work 191 = .ok (.getfield 13, 3) := by decide +kernel
theorem dX4_work_194 : decode cX4_work 194 = .ok (.iconst 0, 1) := by decide +kernel
theorem dX4_work_195 : decode cX4_work 195 = .ok (.iaload, 1) := by decide +kernel
theorem dX4_work_196 : decode cX4_work 196 = .ok (.ireturn, 1) := by decide +kernel
theorem dX4_named_0 : decode cX4_named 0 = .ok (.iload_n 0, 1) := by decide +kernel
theorem dX4_named_1 : decode cX4_named 1 = .ok (.ifCond .ne 5, 3) := by decide +kernel
theorem dX4_named_4 : decode cX4_named 4 = .ok (.iload_n 1, 1) := by decide +kernel
theorem dX4_named_5 : decode cX4_named 5 = .ok (.ireturn, 1) := by decide +kernel
theorem dX4_named_6 : decode cX4_named 6 = .ok (.iload_n 0, 1) := by decide +kernel
theorem dX4_named_7 : decode cX4_named 7 = .ok (.iconst 1, 1) := by decide +kernel
theorem dX4_named_8 : decode cX4_named 8 = .ok (.if_icmp .ne 7, 3) := by decide +kernel
theorem dX4_named_11 : decode cX4_named 11 = .ok (.iload_n 2, 1) := by decide +kernel
theorem dX4_named_12 : decode cX4_named 12 = .ok (.goto 4, 3) := by decide +kernel
theorem dX4_named_15 : decode cX4_named 15 = .ok (.iload_n 3, 1) := by decide +kernel
theorem dX4_named_16 : decode cX4_named 16 = .ok (.ireturn, 1) := by decide +kernel
theorem dX4_joined_0 : decode cX4_joined 0 = .ok (.iload_n 0, 1) := by decide +kernel
theorem dX4_joined_1 : decode cX4_joined 1 = .ok (.lookupswitch 188 #[(37, 176), (38, 105), (42, 160), (43, 152), (45, 156), (47, 164), (60, 119), (61, 130), (62, 141), (124, 91)], 91) := by decide +kernel
theorem dX4_joined_92 : decode cX4_joined 92 = .ok (.iload_n 1, 1) := by decide +kernel
theorem dX4_joined_93 : decode cX4_joined 93 = .ok (.ifCond .ne 7, 3) := by decide +kernel
theorem dX4_joined_96 : decode cX4_joined 96 = .ok (.iload_n 2, 1) := by decide +kernel
theorem dX4_joined_97 : decode cX4_joined 97 = .ok (.ifCond .eq 7, 3) := by decide +kernel
theorem dX4_joined_100 : decode cX4_joined 100 = .ok (.iconst 1, 1) := by decide +kernel
theorem dX4_joined_101 : decode cX4_joined 101 = .ok (.goto 4, 3) := by decide +kernel
theorem dX4_joined_104 : decode cX4_joined 104 = .ok (.iconst 0, 1) := by decide +kernel
theorem dX4_joined_105 : decode cX4_joined 105 = .ok (.ireturn, 1) := by decide +kernel
theorem dX4_joined_106 : decode cX4_joined 106 = .ok (.iload_n 1, 1) := by decide +kernel
theorem dX4_joined_107 : decode cX4_joined 107 = .ok (.ifCond .eq 11, 3) := by decide +kernel
theorem dX4_joined_110 : decode cX4_joined 110 = .ok (.iload_n 2, 1) := by decide +kernel
theorem dX4_joined_111 : decode cX4_joined 111 = .ok (.ifCond .eq 7, 3) := by decide +kernel
theorem dX4_joined_114 : decode cX4_joined 114 = .ok (.iconst 1, 1) := by decide +kernel
theorem dX4_joined_115 : decode cX4_joined 115 = .ok (.goto 4, 3) := by decide +kernel
theorem dX4_joined_118 : decode cX4_joined 118 = .ok (.iconst 0, 1) := by decide +kernel
theorem dX4_joined_119 : decode cX4_joined 119 = .ok (.ireturn, 1) := by decide +kernel
theorem dX4_joined_120 : decode cX4_joined 120 = .ok (.iload_n 1, 1) := by decide +kernel
theorem dX4_joined_121 : decode cX4_joined 121 = .ok (.iload_n 2, 1) := by decide +kernel
theorem dX4_joined_122 : decode cX4_joined 122 = .ok (.if_icmp .ge 7, 3) := by decide +kernel
theorem dX4_joined_125 : decode cX4_joined 125 = .ok (.iconst 1, 1) := by decide +kernel
theorem dX4_joined_126 : decode cX4_joined 126 = .ok (.goto 4, 3) := by decide +kernel
theorem dX4_joined_129 : decode cX4_joined 129 = .ok (.iconst 0, 1) := by decide +kernel
theorem dX4_joined_130 : decode cX4_joined 130 = .ok (.ireturn, 1) := by decide +kernel
theorem dX4_joined_131 : decode cX4_joined 131 = .ok (.iload_n 1, 1) := by decide +kernel
theorem dX4_joined_132 : decode cX4_joined 132 = .ok (.iload_n 2, 1) := by decide +kernel
theorem dX4_joined_133 : decode cX4_joined 133 = .ok (.if_icmp .ne 7, 3) := by decide +kernel
theorem dX4_joined_136 : decode cX4_joined 136 = .ok (.iconst 1, 1) := by decide +kernel
theorem dX4_joined_137 : decode cX4_joined 137 = .ok (.goto 4, 3) := by decide +kernel
theorem dX4_joined_140 : decode cX4_joined 140 = .ok (.iconst 0, 1) := by decide +kernel
theorem dX4_joined_141 : decode cX4_joined 141 = .ok (.ireturn, 1) := by decide +kernel
theorem dX4_joined_142 : decode cX4_joined 142 = .ok (.iload_n 1, 1) := by decide +kernel
theorem dX4_joined_143 : decode cX4_joined 143 = .ok (.iload_n 2, 1) := by decide +kernel
theorem dX4_joined_144 : decode cX4_joined 144 = .ok (.if_icmp .le 7, 3) := by decide +kernel
theorem dX4_joined_147 : decode cX4_joined 147 = .ok (.iconst 1, 1) := by decide +kernel
theorem dX4_joined_148 : decode cX4_joined 148 = .ok (.goto 4, 3) := by decide +kernel
theorem dX4_joined_151 : decode cX4_joined 151 = .ok (.iconst 0, 1) := by decide +kernel
theorem dX4_joined_152 : decode cX4_joined 152 = .ok (.ireturn, 1) := by decide +kernel
theorem dX4_joined_153 : decode cX4_joined 153 = .ok (.iload_n 1, 1) := by decide +kernel
theorem dX4_joined_154 : decode cX4_joined 154 = .ok (.iload_n 2, 1) := by decide +kernel
theorem dX4_joined_155 : decode cX4_joined 155 = .ok (.iadd, 1) := by decide +kernel
theorem dX4_joined_156 : decode cX4_joined 156 = .ok (.ireturn, 1) := by decide +kernel
theorem dX4_joined_157 : decode cX4_joined 157 = .ok (.iload_n 1, 1) := by decide +kernel
theorem dX4_joined_158 : decode cX4_joined 158 = .ok (.iload_n 2, 1) := by decide +kernel
theorem dX4_joined_159 : decode cX4_joined 159 = .ok (.isub, 1) := by decide +kernel
theorem dX4_joined_160 : decode cX4_joined 160 = .ok (.ireturn, 1) := by decide +kernel
theorem dX4_joined_161 : decode cX4_joined 161 = .ok (.iload_n 1, 1) := by decide +kernel
theorem dX4_joined_162 : decode cX4_joined 162 = .ok (.iload_n 2, 1) := by decide +kernel
theorem dX4_joined_163 : decode cX4_joined 163 = .ok (.imul, 1) := by decide +kernel
theorem dX4_joined_164 : decode cX4_joined 164 = .ok (.ireturn, 1) := by decide +kernel
theorem dX4_joined_165 : decode cX4_joined 165 = .ok (.iload_n 2, 1) := by decide +kernel
theorem dX4_joined_166 : decode cX4_joined 166 = .ok (.ifCond .ne 7, 3) := by decide +kernel
theorem dX4_joined_169 : decode cX4_joined 169 = .ok (.iconst 0, 1) := by decide +kernel
theorem dX4_joined_170 : decode cX4_joined 170 = .ok (.goto 6, 3) := by decide +kernel
theorem dX4_joined_173 : decode cX4_joined 173 = .ok (.iload_n 1, 1) := by decide +kernel
theorem dX4_joined_174 : decode cX4_joined 174 = .ok (.iload_n 2, 1) := by decide +kernel
theorem dX4_joined_175 : decode cX4_joined 175 = .ok (.idiv, 1) := by decide +kernel
theorem dX4_joined_176 : decode cX4_joined 176 = .ok (.ireturn, 1) := by decide +kernel
theorem dX4_joined_177 : decode cX4_joined 177 = .ok (.iload_n 2, 1) := by decide +kernel
theorem dX4_joined_178 : decode cX4_joined 178 = .ok (.ifCond .ne 7, 3) := by decide +kernel
theorem dX4_joined_181 : decode cX4_joined 181 = .ok (.iconst 0, 1) := by decide +kernel
theorem dX4_joined_182 : decode cX4_joined 182 = .ok (.goto 6, 3) := by decide +kernel
theorem dX4_joined_185 : decode cX4_joined 185 = .ok (.iload_n 1, 1) := by decide +kernel
theorem dX4_joined_186 : decode cX4_joined 186 = .ok (.iload_n 2, 1) := by decide +kernel
theorem dX4_joined_187 : decode cX4_joined 187 = .ok (.irem, 1) := by decide +kernel
theorem dX4_joined_188 : decode cX4_joined 188 = .ok (.ireturn, 1) := by decide +kernel
theorem dX4_joined_189 : decode cX4_joined 189 = .ok (.iconst 0, 1) := by decide +kernel
theorem dX4_joined_190 : decode cX4_joined 190 = .ok (.ireturn, 1) := by decide +kernel
theorem dX5_init_0 : decode cX5_init 0 = .ok (.aload_n 0, 1) := by decide +kernel
theorem dX5_init_1 : decode cX5_init 1 = .ok (.invokespecial 1, 3) := by decide +kernel
theorem dX5_init_4 : decode cX5_init 4 = .ok (.aload_n 0, 1) := by decide +kernel
theorem dX5_init_5 : decode cX5_init 5 = .ok (.iconst 4, 1) := by decide +kernel
theorem dX5_init_6 : decode cX5_init 6 = .ok (.newarray .int, 2) := by decide +kernel
theorem dX5_init_8 : decode cX5_init 8 = .ok (.putfield 9, 3) := by decide +kernel
theorem dX5_init_11 : decode cX5_init 11 = .ok (.aload_n 0, 1) := by decide +kernel
theorem dX5_init_12 : decode cX5_init 12 = .ok (.iconst 4, 1) := by decide +kernel
theorem dX5_init_13 : decode cX5_init 13 = .ok (.newarray .int, 2) := by decide +kernel
theorem dX5_init_15 : decode cX5_init 15 = .ok (.putfield 13, 3) := by decide +kernel
theorem dX5_init_18 : decode cX5_init 18 = .ok (.aload_n 0, 1) := by decide +kernel
theorem dX5_init_19 : decode cX5_init 19 = .ok (.bipush 96, 2) := by decide +kernel
theorem dX5_init_21 : decode cX5_init 21 = .ok (.newarray .int, 2) := by decide +kernel
theorem dX5_init_23 : decode cX5_init 23 = .ok (.putfield 16, 3) := by decide +kernel
theorem dX5_init_26 : decode cX5_init 26 = .ok (.return_, 1) := by decide +kernel
theorem dX5_isSheet_0 : decode cX5_isSheet 0 = .ok (.iload_n 0, 1) := by decide +kernel
theorem dX5_isSheet_1 : decode cX5_isSheet 1 = .ok (.ifCond .lt 12, 3) := by decide +kernel
theorem dX5_isSheet_4 : decode cX5_isSheet 4 = .ok (.iload_n 0, 1) := by decide +kernel
theorem dX5_isSheet_5 : decode cX5_isSheet 5 = .ok (.iconst 4, 1) := by decide +kernel
theorem dX5_isSheet_6 : decode cX5_isSheet 6 = .ok (.if_icmp .ge 7, 3) := by decide +kernel
theorem dX5_isSheet_9 : decode cX5_isSheet 9 = .ok (.iconst 1, 1) := by decide +kernel
theorem dX5_isSheet_10 : decode cX5_isSheet 10 = .ok (.goto 4, 3) := by decide +kernel
theorem dX5_isSheet_13 : decode cX5_isSheet 13 = .ok (.iconst 0, 1) := by decide +kernel
theorem dX5_isSheet_14 : decode cX5_isSheet 14 = .ok (.ireturn, 1) := by decide +kernel
theorem dX5_isWidth_0 : decode cX5_isWidth 0 = .ok (.iload_n 0, 1) := by decide +kernel
theorem dX5_isWidth_1 : decode cX5_isWidth 1 = .ok (.bipush 8, 2) := by decide +kernel
theorem dX5_isWidth_3 : decode cX5_isWidth 3 = .ok (.if_icmp .eq 15, 3) := by decide +kernel
theorem dX5_isWidth_6 : decode cX5_isWidth 6 = .ok (.iload_n 0, 1) := by decide +kernel
theorem dX5_isWidth_7 : decode cX5_isWidth 7 = .ok (.bipush 16, 2) := by decide +kernel
theorem dX5_isWidth_9 : decode cX5_isWidth 9 = .ok (.if_icmp .eq 9, 3) := by decide +kernel
theorem dX5_isWidth_12 : decode cX5_isWidth 12 = .ok (.iload_n 0, 1) := by decide +kernel
theorem dX5_isWidth_13 : decode cX5_isWidth 13 = .ok (.bipush 32, 2) := by decide +kernel
theorem dX5_isWidth_15 : decode cX5_isWidth 15 = .ok (.if_icmp .ne 7, 3) := by decide +kernel
theorem dX5_isWidth_18 : decode cX5_isWidth 18 = .ok (.iconst 1, 1) := by decide +kernel
theorem dX5_isWidth_19 : decode cX5_isWidth 19 = .ok (.goto 4, 3) := by decide +kernel
theorem dX5_isWidth_22 : decode cX5_isWidth 22 = .ok (.iconst 0, 1) := by decide +kernel
theorem dX5_isWidth_23 : decode cX5_isWidth 23 = .ok (.ireturn, 1) := by decide +kernel
set_option maxRecDepth 20000 in
theorem ggX5_isMissing_X5_isSheet : GoodIn wsX5_isMissing wsX5_isSheet := goodIn_r _ [5] (by decide +kernel) (by decide +kernel)
set_option maxRecDepth 20000 in
theorem gX5_isMissing_X5_isSheet : GoodIn wsX5_isMissing (va_wsS RX5 19 yX5_isSheet wsX5_isSheet) := goodIn_app (goodIn_of _ (by decide +kernel)) ggX5_isMissing_X5_isSheet
theorem dX5_isMissing_0 : decode cX5_isMissing 0 = .ok (.iload_n 1, 1) := by decide +kernel
theorem dX5_isMissing_1 : decode cX5_isMissing 1 = .ok (.invokestatic 19, 3) := by decide +kernel
theorem dX5_isMissing_4 : decode cX5_isMissing 4 = .ok (.ifCond .eq 12, 3) := by decide +kernel
theorem dX5_isMissing_7 : decode cX5_isMissing 7 = .ok (.aload_n 0, 1) := by decide +kernel
theorem dX5_isMissing_8 : decode cX5_isMissing 8 = .ok (.getfield 9, 3) := by decide +kernel
theorem dX5_isMissing_11 : decode cX5_isMissing 11 = .ok (.iload_n 1, 1) := by decide +kernel
theorem dX5_isMissing_12 : decode cX5_isMissing 12 = .ok (.iaload, 1) := by decide +kernel
theorem dX5_isMissing_13 : decode cX5_isMissing 13 = .ok (.ifCond .ne 7, 3) := by decide +kernel
theorem dX5_isMissing_16 : decode cX5_isMissing 16 = .ok (.iconst 1, 1) := by decide +kernel
theorem dX5_isMissing_17 : decode cX5_isMissing 17 = .ok (.goto 4, 3) := by decide +kernel
theorem dX5_isMissing_20 : decode cX5_isMissing 20 = .ok (.iconst 0, 1) := by decide +kernel
theorem dX5_isMissing_21 : decode cX5_isMissing 21 = .ok (.ireturn, 1) := by decide +kernel
set_option maxRecDepth 20000 in
theorem ggX5_take_X5_isSheet : GoodIn wsX5_take wsX5_isSheet := goodIn_r _ [6] (by decide +kernel) (by decide +kernel)
set_option maxRecDepth 20000 in
theorem gX5_take_X5_isSheet : GoodIn wsX5_take (va_wsS RX5 19 yX5_isSheet wsX5_isSheet) := goodIn_app (goodIn_of _ (by decide +kernel)) ggX5_take_X5_isSheet
theorem dX5_take_0 : decode cX5_take 0 = .ok (.iload_n 1, 1) := by decide +kernel
theorem dX5_take_1 : decode cX5_take 1 = .ok (.invokestatic 19, 3) := by decide +kernel
theorem dX5_take_4 : decode cX5_take 4 = .ok (.ifCond .eq 17, 3) := by decide +kernel
theorem dX5_take_7 : decode cX5_take 7 = .ok (.aload_n 0, 1) := by decide +kernel
theorem dX5_take_8 : decode cX5_take 8 = .ok (.getfield 9, 3) := by decide +kernel
theorem dX5_take_11 : decode cX5_take 11 = .ok (.iload_n 1, 1) := by decide +kernel
theorem dX5_take_12 : decode cX5_take 12 = .ok (.iconst 0, 1) := by decide +kernel
theorem dX5_take_13 : decode cX5_take 13 = .ok (.iastore, 1) := by decide +kernel
theorem dX5_take_14 : decode cX5_take 14 = .ok (.aload_n 0, 1) := by decide +kernel
theorem dX5_take_15 : decode cX5_take 15 = .ok (.getfield 13, 3) := by decide +kernel
theorem dX5_take_18 : decode cX5_take 18 = .ok (.iload_n 1, 1) := by decide +kernel
theorem dX5_take_19 : decode cX5_take 19 = .ok (.iconst 0, 1) := by decide +kernel
theorem dX5_take_20 : decode cX5_take 20 = .ok (.iastore, 1) := by decide +kernel
theorem dX5_take_21 : decode cX5_take 21 = .ok (.return_, 1) := by decide +kernel
set_option maxRecDepth 20000 in
theorem ggX5_lay_X5_isSheet : GoodIn wsX5_lay wsX5_isSheet := goodIn_r _ [7] (by decide +kernel) (by decide +kernel)
set_option maxRecDepth 20000 in
theorem gX5_lay_X5_isSheet : GoodIn wsX5_lay (va_wsS RX5 19 yX5_isSheet wsX5_isSheet) := goodIn_app (goodIn_of _ (by decide +kernel)) ggX5_lay_X5_isSheet
theorem dX5_lay_0 : decode cX5_lay 0 = .ok (.iload_n 1, 1) := by decide +kernel
theorem dX5_lay_1 : decode cX5_lay 1 = .ok (.invokestatic 19, 3) := by decide +kernel
theorem dX5_lay_4 : decode cX5_lay 4 = .ok (.ifCond .eq 56, 3) := by decide +kernel
theorem dX5_lay_7 : decode cX5_lay 7 = .ok (.iload_n 3, 1) := by decide +kernel
theorem dX5_lay_8 : decode cX5_lay 8 = .ok (.ifCond .lt 52, 3) := by decide +kernel
theorem dX5_lay_11 : decode cX5_lay 11 = .ok (.iload_n 3, 1) := by decide +kernel
theorem dX5_lay_12 : decode cX5_lay 12 = .ok (.bipush 24, 2) := by decide +kernel
theorem dX5_lay_14 : decode cX5_lay 14 = .ok (.if_icmp .gt 46, 3) := by decide +kernel
theorem dX5_lay_17 : decode cX5_lay 17 = .ok (.aload_n 0, 1) := by decide +kernel
theorem dX5_lay_18 : decode cX5_lay 18 = .ok (.getfield 9, 3) := by decide +kernel
theorem dX5_lay_21 : decode cX5_lay 21 = .ok (.iload_n 1, 1) := by decide +kernel
theorem dX5_lay_22 : decode cX5_lay 22 = .ok (.iload_n 2, 1) := by decide +kernel
theorem dX5_lay_23 : decode cX5_lay 23 = .ok (.iastore, 1) := by decide +kernel
theorem dX5_lay_24 : decode cX5_lay 24 = .ok (.aload_n 0, 1) := by decide +kernel
theorem dX5_lay_25 : decode cX5_lay 25 = .ok (.getfield 13, 3) := by decide +kernel
theorem dX5_lay_28 : decode cX5_lay 28 = .ok (.iload_n 1, 1) := by decide +kernel
theorem dX5_lay_29 : decode cX5_lay 29 = .ok (.iload_n 3, 1) := by decide +kernel
theorem dX5_lay_30 : decode cX5_lay 30 = .ok (.iastore, 1) := by decide +kernel
theorem dX5_lay_31 : decode cX5_lay 31 = .ok (.iconst 0, 1) := by decide +kernel
theorem dX5_lay_32 : decode cX5_lay 32 = .ok (.istore 4, 2) := by decide +kernel
theorem dX5_lay_34 : decode cX5_lay 34 = .ok (.iload 4, 2) := by decide +kernel
theorem dX5_lay_36 : decode cX5_lay 36 = .ok (.bipush 24, 2) := by decide +kernel
theorem dX5_lay_38 : decode cX5_lay 38 = .ok (.if_icmp .ge 22, 3) := by decide +kernel
theorem dX5_lay_41 : decode cX5_lay 41 = .ok (.aload_n 0, 1) := by decide +kernel
theorem dX5_lay_42 : decode cX5_lay 42 = .ok (.getfield 16, 3) := by decide +kernel
theorem dX5_lay_45 : decode cX5_lay 45 = .ok (.iload_n 1, 1) := by decide +kernel
theorem dX5_lay_46 : decode cX5_lay 46 = .ok (.bipush 24, 2) := by decide +kernel
theorem dX5_lay_48 : decode cX5_lay 48 = .ok (.imul, 1) := by decide +kernel
theorem dX5_lay_49 : decode cX5_lay 49 = .ok (.iload 4, 2) := by decide +kernel
theorem dX5_lay_51 : decode cX5_lay 51 = .ok (.iadd, 1) := by decide +kernel
theorem dX5_lay_52 : decode cX5_lay 52 = .ok (.iconst 0, 1) := by decide +kernel
theorem dX5_lay_53 : decode cX5_lay 53 = .ok (.iastore, 1) := by decide +kernel
theorem dX5_lay_54 : decode cX5_lay 54 = .ok (.iinc 4 1, 3) := by decide +kernel
theorem dX5_lay_57 : decode cX5_lay 57 = .ok (.goto (-23), 3) := by decide +kernel
theorem dX5_lay_60 : decode cX5_lay 60 = .ok (.return_, 1) := by decide +kernel
set_option maxRecDepth 20000 in
theorem ggX5_hasNumber_X5_isSheet : GoodIn wsX5_hasNumber wsX5_isSheet := goodIn_r _ [5] (by decide +kernel) (by decide +kernel)
set_option maxRecDepth 20000 in
theorem gX5_hasNumber_X5_isSheet : GoodIn wsX5_hasNumber (va_wsS RX5 19 yX5_isSheet wsX5_isSheet) := goodIn_app (goodIn_of _ (by decide +kernel)) ggX5_hasNumber_X5_isSheet
theorem dX5_hasNumber_0 : decode cX5_hasNumber 0 = .ok (.iload_n 1, 1) := by decide +kernel
theorem dX5_hasNumber_1 : decode cX5_hasNumber 1 = .ok (.invokestatic 19, 3) := by decide +kernel
theorem dX5_hasNumber_4 : decode cX5_hasNumber 4 = .ok (.ifCond .eq 27, 3) := by decide +kernel
theorem dX5_hasNumber_7 : decode cX5_hasNumber 7 = .ok (.iload_n 2, 1) := by decide +kernel
theorem dX5_hasNumber_8 : decode cX5_hasNumber 8 = .ok (.ifCond .lt 23, 3) := by decide +kernel
theorem dX5_hasNumber_11 : decode cX5_hasNumber 11 = .ok (.iload_n 2, 1) := by decide +kernel
theorem dX5_hasNumber_12 : decode cX5_hasNumber 12 = .ok (.aload_n 0, 1) := by decide +kernel
theorem dX5_hasNumber_13 : decode cX5_hasNumber 13 = .ok (.getfield 13, 3) := by decide +kernel
theorem dX5_hasNumber_16 : decode cX5_hasNumber 16 = .ok (.iload_n 1, 1) := by decide +kernel
theorem dX5_hasNumber_17 : decode cX5_hasNumber 17 = .ok (.iaload, 1) := by decide +kernel
theorem dX5_hasNumber_18 : decode cX5_hasNumber 18 = .ok (.if_icmp .ge 13, 3) := by decide +kernel
theorem dX5_hasNumber_21 : decode cX5_hasNumber 21 = .ok (.iload_n 2, 1) := by decide +kernel
theorem dX5_hasNumber_22 : decode cX5_hasNumber 22 = .ok (.bipush 24, 2) := by decide +kernel
theorem dX5_hasNumber_24 : decode cX5_hasNumber 24 = .ok (.if_icmp .ge 7, 3) := by decide +kernel
theorem dX5_hasNumber_27 : decode cX5_hasNumber 27 = .ok (.iconst 1, 1) := by decide +kernel
theorem dX5_hasNumber_28 : decode cX5_hasNumber 28 = .ok (.goto 4, 3) := by decide +kernel
theorem dX5_hasNumber_31 : decode cX5_hasNumber 31 = .ok (.iconst 0, 1) := by decide +kernel
theorem dX5_hasNumber_32 : decode cX5_hasNumber 32 = .ok (.ireturn, 1) := by decide +kernel
set_option maxRecDepth 20000 in
theorem ggX5_numberAt_X5_hasNumber : GoodIn wsX5_numberAt wsX5_hasNumber := goodIn_r _ [6, 7, 8, 9, 5, 10, 11, 12, 13] (by decide +kernel) (by decide +kernel)
set_option maxRecDepth 20000 in
theorem gX5_numberAt_X5_hasNumber : GoodIn wsX5_numberAt (wsV RX5 23 RX5 yX5_hasNumber wsX5_hasNumber) := goodIn_app (goodIn_of _ (by decide +kernel)) ggX5_numberAt_X5_hasNumber
theorem dX5_numberAt_0 : decode cX5_numberAt 0 = .ok (.aload_n 0, 1) := by decide +kernel
theorem dX5_numberAt_1 : decode cX5_numberAt 1 = .ok (.iload_n 1, 1) := by decide +kernel
theorem dX5_numberAt_2 : decode cX5_numberAt 2 = .ok (.iload_n 2, 1) := by decide +kernel
theorem dX5_numberAt_3 : decode cX5_numberAt 3 = .ok (.invokevirtual 23, 3) := by decide +kernel
theorem dX5_numberAt_6 : decode cX5_numberAt 6 = .ok (.ifCond .eq 17, 3) := by decide +kernel
theorem dX5_numberAt_9 : decode cX5_numberAt 9 = .ok (.aload_n 0, 1) := by decide +kernel
theorem dX5_numberAt_10 : decode cX5_numberAt 10 = .ok (.getfield 16, 3) := by decide +kernel
theorem dX5_numberAt_13 : decode cX5_numberAt 13 = .ok (.iload_n 1, 1) := by decide +kernel
theorem dX5_numberAt_14 : decode cX5_numberAt 14 = .ok (.bipush 24, 2) := by decide +kernel
theorem dX5_numberAt_16 : decode cX5_numberAt 16 = .ok (.imul, 1) := by decide +kernel
theorem dX5_numberAt_17 : decode cX5_numberAt 17 = .ok (.iload_n 2, 1) := by decide +kernel
theorem dX5_numberAt_18 : decode cX5_numberAt 18 = .ok (.iadd, 1) := by decide +kernel
theorem dX5_numberAt_19 : decode cX5_numberAt 19 = .ok (.iaload, 1) := by decide +kernel
theorem dX5_numberAt_20 : decode cX5_numberAt 20 = .ok (.goto 4, 3) := by decide +kernel
theorem dX5_numberAt_23 : decode cX5_numberAt 23 = .ok (.iconst (-1), 1) := by decide +kernel
theorem dX5_numberAt_24 : decode cX5_numberAt 24 = .ok (.ireturn, 1) := by decide +kernel
set_option maxRecDepth 20000 in
theorem ggX5_write_X5_hasNumber : GoodIn wsX5_write wsX5_hasNumber := goodIn_r _ [7, 8, 9, 10, 6, 11, 15, 16, 17] (by decide +kernel) (by decide +kernel)
set_option maxRecDepth 20000 in
theorem gX5_write_X5_hasNumber : GoodIn wsX5_write (wsV RX5 23 RX5 yX5_hasNumber wsX5_hasNumber) := goodIn_app (goodIn_of _ (by decide +kernel)) ggX5_write_X5_hasNumber
set_option maxRecDepth 20000 in
theorem ggX5_write_X5_lowest : GoodIn wsX5_write wsX5_lowest := goodIn_r _ [14] (by decide +kernel) (by decide +kernel)
set_option maxRecDepth 20000 in
theorem gX5_write_X5_lowest : GoodIn wsX5_write (va_wsS RX5 27 yX5_lowest wsX5_lowest) := goodIn_app (goodIn_of _ (by decide +kernel)) ggX5_write_X5_lowest
theorem dX5_write_0 : decode cX5_write 0 = .ok (.aload_n 0, 1) := by decide +kernel
theorem dX5_write_1 : decode cX5_write 1 = .ok (.iload_n 1, 1) := by decide +kernel
theorem dX5_write_2 : decode cX5_write 2 = .ok (.iload_n 2, 1) := by decide +kernel
theorem dX5_write_3 : decode cX5_write 3 = .ok (.invokevirtual 23, 3) := by decide +kernel
theorem dX5_write_6 : decode cX5_write 6 = .ok (.ifCond .eq 24, 3) := by decide +kernel
theorem dX5_write_9 : decode cX5_write 9 = .ok (.aload_n 0, 1) := by decide +kernel
theorem dX5_write_10 : decode cX5_write 10 = .ok (.getfield 16, 3) := by decide +kernel
theorem dX5_write_13 : decode cX5_write 13 = .ok (.iload_n 1, 1) := by decide +kernel
theorem dX5_write_14 : decode cX5_write 14 = .ok (.bipush 24, 2) := by decide +kernel
theorem dX5_write_16 : decode cX5_write 16 = .ok (.imul, 1) := by decide +kernel
theorem dX5_write_17 : decode cX5_write 17 = .ok (.iload_n 2, 1) := by decide +kernel
theorem dX5_write_18 : decode cX5_write 18 = .ok (.iadd, 1) := by decide +kernel
theorem dX5_write_19 : decode cX5_write 19 = .ok (.aload_n 0, 1) := by decide +kernel
theorem dX5_write_20 : decode cX5_write 20 = .ok (.getfield 9, 3) := by decide +kernel
theorem dX5_write_23 : decode cX5_write 23 = .ok (.iload_n 1, 1) := by decide +kernel
theorem dX5_write_24 : decode cX5_write 24 = .ok (.iaload, 1) := by decide +kernel
theorem dX5_write_25 : decode cX5_write 25 = .ok (.iload_n 3, 1) := by decide +kernel
theorem dX5_write_26 : decode cX5_write 26 = .ok (.invokestatic 27, 3) := by decide +kernel
theorem dX5_write_29 : decode cX5_write 29 = .ok (.iastore, 1) := by decide +kernel
theorem dX5_write_30 : decode cX5_write 30 = .ok (.return_, 1) := by decide +kernel
theorem dX5_lowest_0 : decode cX5_lowest 0 = .ok (.iload_n 0, 1) := by decide +kernel
theorem dX5_lowest_1 : decode cX5_lowest 1 = .ok (.bipush 8, 2) := by decide +kernel
theorem dX5_lowest_3 : decode cX5_lowest 3 = .ok (.if_icmp .ne 6, 3) := by decide +kernel
theorem dX5_lowest_6 : decode cX5_lowest 6 = .ok (.iload_n 1, 1) := by decide +kernel
theorem dX5_lowest_7 : decode cX5_lowest 7 = .ok (.i2b, 1) := by decide +kernel
theorem dX5_lowest_8 : decode cX5_lowest 8 = .ok (.ireturn, 1) := by decide +kernel
theorem dX5_lowest_9 : decode cX5_lowest 9 = .ok (.iload_n 0, 1) := by decide +kernel
theorem dX5_lowest_10 : decode cX5_lowest 10 = .ok (.bipush 16, 2) := by decide +kernel
theorem dX5_lowest_12 : decode cX5_lowest 12 = .ok (.if_icmp .ne 8, 3) := by decide +kernel
theorem dX5_lowest_15 : decode cX5_lowest 15 = .ok (.iload_n 1, 1) := by decide +kernel
theorem dX5_lowest_16 : decode cX5_lowest 16 = .ok (.i2s, 1) := by decide +kernel
theorem dX5_lowest_17 : decode cX5_lowest 17 = .ok (.goto 4, 3) := by decide +kernel
theorem dX5_lowest_20 : decode cX5_lowest 20 = .ok (.iload_n 1, 1) := by decide +kernel
theorem dX5_lowest_21 : decode cX5_lowest 21 = .ok (.ireturn, 1) := by decide +kernel
set_option maxRecDepth 20000 in
theorem ggX5_standThere_X5_isSheet : GoodIn wsX5_standThere wsX5_isSheet := goodIn_r _ [5] (by decide +kernel) (by decide +kernel)
set_option maxRecDepth 20000 in
theorem gX5_standThere_X5_isSheet : GoodIn wsX5_standThere (va_wsS RX5 19 yX5_isSheet wsX5_isSheet) := goodIn_app (goodIn_of _ (by decide +kernel)) ggX5_standThere_X5_isSheet
theorem dX5_standThere_0 : decode cX5_standThere 0 = .ok (.iload_n 1, 1) := by decide +kernel
theorem dX5_standThere_1 : decode cX5_standThere 1 = .ok (.invokestatic 19, 3) := by decide +kernel
theorem dX5_standThere_4 : decode cX5_standThere 4 = .ok (.ifCond .eq 37, 3) := by decide +kernel
theorem dX5_standThere_7 : decode cX5_standThere 7 = .ok (.iload_n 3, 1) := by decide +kernel
theorem dX5_standThere_8 : decode cX5_standThere 8 = .ok (.ifCond .lt 33, 3) := by decide +kernel
theorem dX5_standThere_11 : decode cX5_standThere 11 = .ok (.iload_n 2, 1) := by decide +kernel
theorem dX5_standThere_12 : decode cX5_standThere 12 = .ok (.ifCond .lt 29, 3) := by decide +kernel
theorem dX5_standThere_15 : decode cX5_standThere 15 = .ok (.iload_n 3, 1) := by decide +kernel
theorem dX5_standThere_16 : decode cX5_standThere 16 = .ok (.aload_n 0, 1) := by decide +kernel
theorem dX5_standThere_17 : decode cX5_standThere 17 = .ok (.getfield 13, 3) := by decide +kernel
theorem dX5_standThere_20 : decode cX5_standThere 20 = .ok (.iload_n 1, 1) := by decide +kernel
theorem dX5_standThere_21 : decode cX5_standThere 21 = .ok (.iaload, 1) := by decide +kernel
theorem dX5_standThere_22 : decode cX5_standThere 22 = .ok (.if_icmp .gt 19, 3) := by decide +kernel
theorem dX5_standThere_25 : decode cX5_standThere 25 = .ok (.iload_n 2, 1) := by decide +kernel
theorem dX5_standThere_26 : decode cX5_standThere 26 = .ok (.aload_n 0, 1) := by decide +kernel
theorem dX5_standThere_27 : decode cX5_standThere 27 = .ok (.getfield 13, 3) := by decide +kernel
theorem dX5_standThere_30 : decode cX5_standThere 30 = .ok (.iload_n 1, 1) := by decide +kernel
theorem dX5_standThere_31 : decode cX5_standThere 31 = .ok (.iaload, 1) := by decide +kernel
theorem dX5_standThere_32 : decode cX5_standThere 32 = .ok (.iload_n 3, 1) := by decide +kernel
theorem dX5_standThere_33 : decode cX5_standThere 33 = .ok (.isub, 1) := by decide +kernel
theorem dX5_standThere_34 : decode cX5_standThere 34 = .ok (.if_icmp .gt 7, 3) := by decide +kernel
theorem dX5_standThere_37 : decode cX5_standThere 37 = .ok (.iconst 1, 1) := by decide +kernel
theorem dX5_standThere_38 : decode cX5_standThere 38 = .ok (.goto 4, 3) := by decide +kernel
theorem dX5_standThere_41 : decode cX5_standThere 41 = .ok (.iconst 0, 1) := by decide +kernel
theorem dX5_standThere_42 : decode cX5_standThere 42 = .ok (.ireturn, 1) := by decide +kernel
set_option maxRecDepth 20000 in
theorem ggX5_copyNumbers_X5_standThere : GoodIn wsX5_copyNumbers wsX5_standThere := goodIn_r _ [10, 11, 12, 13, 9, 14, 15, 16, 17] (by decide +kernel) (by decide +kernel)
set_option maxRecDepth 20000 in
theorem gX5_copyNumbers_X5_standThere : GoodIn wsX5_copyNumbers (wsV RX5 31 RX5 yX5_standThere wsX5_standThere) := goodIn_app (goodIn_of _ (by decide +kernel)) ggX5_copyNumbers_X5_standThere
theorem dX5_copyNumbers_0 : decode cX5_copyNumbers 0 = .ok (.aload_n 0, 1) := by decide +kernel
theorem dX5_copyNumbers_1 : decode cX5_copyNumbers 1 = .ok (.iload_n 1, 1) := by decide +kernel
theorem dX5_copyNumbers_2 : decode cX5_copyNumbers 2 = .ok (.iload_n 2, 1) := by decide +kernel
theorem dX5_copyNumbers_3 : decode cX5_copyNumbers 3 = .ok (.iload 5, 2) := by decide +kernel
theorem dX5_copyNumbers_5 : decode cX5_copyNumbers 5 = .ok (.invokevirtual 31, 3) := by decide +kernel
theorem dX5_copyNumbers_8 : decode cX5_copyNumbers 8 = .ok (.ifCond .eq 41, 3) := by decide +kernel
theorem dX5_copyNumbers_11 : decode cX5_copyNumbers 11 = .ok (.aload_n 0, 1) := by decide +kernel
theorem dX5_copyNumbers_12 : decode cX5_copyNumbers 12 = .ok (.iload_n 3, 1) := by decide +kernel
theorem dX5_copyNumbers_13 : decode cX5_copyNumbers 13 = .ok (.iload 4, 2) := by decide +kernel
theorem dX5_copyNumbers_15 : decode cX5_copyNumbers 15 = .ok (.iload 5, 2) := by decide +kernel
theorem dX5_copyNumbers_17 : decode cX5_copyNumbers 17 = .ok (.invokevirtual 31, 3) := by decide +kernel
theorem dX5_copyNumbers_20 : decode cX5_copyNumbers 20 = .ok (.ifCond .eq 29, 3) := by decide +kernel
theorem dX5_copyNumbers_23 : decode cX5_copyNumbers 23 = .ok (.aload_n 0, 1) := by decide +kernel
theorem dX5_copyNumbers_24 : decode cX5_copyNumbers 24 = .ok (.getfield 16, 3) := by decide +kernel
theorem dX5_copyNumbers_27 : decode cX5_copyNumbers 27 = .ok (.iload_n 1, 1) := by decide +kernel
theorem dX5_copyNumbers_28 : decode cX5_copyNumbers 28 = .ok (.bipush 24, 2) := by decide +kernel
theorem dX5_copyNumbers_30 : decode cX5_copyNumbers 30 = .ok (.imul, 1) := by decide +kernel
theorem dX5_copyNumbers_31 : decode cX5_copyNumbers 31 = .ok (.iload_n 2, 1) := by decide +kernel
theorem dX5_copyNumbers_32 : decode cX5_copyNumbers 32 = .ok (.iadd, 1) := by decide +kernel
theorem dX5_copyNumbers_33 : decode cX5_copyNumbers 33 = .ok (.aload_n 0, 1) := by decide +kernel
theorem dX5_copyNumbers_34 : decode cX5_copyNumbers 34 = .ok (.getfield 16, 3) := by decide +kernel
theorem dX5_copyNumbers_37 : decode cX5_copyNumbers 37 = .ok (.iload_n 3, 1) := by decide +kernel
theorem dX5_copyNumbers_38 : decode cX5_copyNumbers 38 = .ok (.bipush 24, 2) := by decide +kernel
theorem dX5_copyNumbers_40 : decode cX5_copyNumbers 40 = .ok (.imul, 1) := by decide +kernel
theorem dX5_copyNumbers_41 : decode cX5_copyNumbers 41 = .ok (.iload 4, 2) := by decide +kernel
theorem dX5_copyNumbers_43 : decode cX5_copyNumbers 43 = .ok (.iadd, 1) := by decide +kernel
theorem dX5_copyNumbers_44 : decode cX5_copyNumbers 44 = .ok (.iload 5, 2) := by decide +kernel
theorem dX5_copyNumbers_46 : decode cX5_copyNumbers 46 = .ok (.invokestatic 35, 3) := by decide +kernel
theorem dX5_copyNumbers_49 : decode cX5_copyNumbers 49 = .ok (.return_, 1) := by decide +kernel
theorem dX6_init_0 : decode cX6_init 0 = .ok (.aload_n 0, 1) := by decide +kernel
theorem dX6_init_1 : decode cX6_init 1 = .ok (.invokespecial 1, 3) := by decide +kernel
theorem dX6_init_4 : decode cX6_init 4 = .ok (.aload_n 0, 1) := by decide +kernel
theorem dX6_init_5 : decode cX6_init 5 = .ok (.bipush 60, 2) := by decide +kernel
theorem dX6_init_7 : decode cX6_init 7 = .ok (.newarray .int, 2) := by decide +kernel
theorem dX6_init_9 : decode cX6_init 9 = .ok (.putfield 9, 3) := by decide +kernel
theorem dX6_init_12 : decode cX6_init 12 = .ok (.aload_n 0, 1) := by decide +kernel
theorem dX6_init_13 : decode cX6_init 13 = .ok (.iconst 0, 1) := by decide +kernel
theorem dX6_init_14 : decode cX6_init 14 = .ok (.putfield 15, 3) := by decide +kernel
theorem dX6_init_17 : decode cX6_init 17 = .ok (.aload_n 0, 1) := by decide +kernel
theorem dX6_init_18 : decode cX6_init 18 = .ok (.iconst (-1), 1) := by decide +kernel
theorem dX6_init_19 : decode cX6_init 19 = .ok (.putfield 19, 3) := by decide +kernel
theorem dX6_init_22 : decode cX6_init 22 = .ok (.aload_n 0, 1) := by decide +kernel
theorem dX6_init_23 : decode cX6_init 23 = .ok (.bipush 60, 2) := by decide +kernel
theorem dX6_init_25 : decode cX6_init 25 = .ok (.newarray .byte, 2) := by decide +kernel
theorem dX6_init_27 : decode cX6_init 27 = .ok (.putfield 24, 3) := by decide +kernel
theorem dX6_init_30 : decode cX6_init 30 = .ok (.aload_n 0, 1) := by decide +kernel
theorem dX6_init_31 : decode cX6_init 31 = .ok (.iconst 0, 1) := by decide +kernel
theorem dX6_init_32 : decode cX6_init 32 = .ok (.putfield 28, 3) := by decide +kernel
theorem dX6_init_35 : decode cX6_init 35 = .ok (.aload_n 0, 1) := by decide +kernel
theorem dX6_init_36 : decode cX6_init 36 = .ok (.iconst 0, 1) := by decide +kernel
theorem dX6_init_37 : decode cX6_init 37 = .ok (.putfield 31, 3) := by decide +kernel
theorem dX6_init_40 : decode cX6_init 40 = .ok (.aload_n 0, 1) := by decide +kernel
theorem dX6_init_41 : decode cX6_init 41 = .ok (.iconst 0, 1) := by decide +kernel
theorem dX6_init_42 : decode cX6_init 42 = .ok (.putfield 34, 3) := by decide +kernel
theorem dX6_init_45 : decode cX6_init 45 = .ok (.return_, 1) := by decide +kernel
set_option maxRecDepth 20000 in
theorem ggX6_read_X6_readRank : GoodIn wsX6_read wsX6_readRank := goodIn_r _ [15, 1, 10, 8, 16, 17, 18, 14, 19, 20, 21, 22, 6, 23, 24, 25, 26, 27, 28, 29, 9, 30, 31, 32, 33, 34, 35, 36, 37, 38, 39, 40, 41, 42, 7, 11, 12, 13, 43, 44, 45, 46, 47, 48, 49, 50, 51, 52, 53, 54, 55, 56, 57, 58, 59, 60, 61] (by decide +kernel) (by decide +kernel)
set_option maxRecDepth 20000 in
theorem gX6_read_X6_readRank : GoodIn wsX6_read (wsV RX6 43 RX6 yX6_readRank wsX6_readRank) := goodIn_app (goodIn_of _ (by decide +kernel)) ggX6_read_X6_readRank
set_option maxRecDepth 20000 in
theorem ggX6_read_X6_refuse : GoodIn wsX6_read wsX6_refuse := goodIn_r _ [50, 10, 8, 55, 56, 57, 58, 59, 60, 61] (by decide +kernel) (by decide +kernel)
set_option maxRecDepth 20000 in
theorem gX6_read_X6_refuse : GoodIn wsX6_read (wsV RX6 47 RX6 yX6_refuse wsX6_refuse) := goodIn_app (goodIn_of _ (by decide +kernel)) ggX6_read_X6_refuse
theorem dX6_read_0 : decode cX6_read 0 = .ok (.aload_n 0, 1) := by decide +kernel
theorem dX6_read_1 : decode cX6_read 1 = .ok (.iload_n 2, 1) := by decide +kernel
theorem dX6_read_2 : decode cX6_read 2 = .ok (.aload_n 1, 1) := by decide +kernel
theorem dX6_read_3 : decode cX6_read 3 = .ok (.arraylength, 1) := by decide +kernel
theorem dX6_read_4 : decode cX6_read 4 = .ok (.aload_n 0, 1) := by decide +kernel
theorem dX6_read_5 : decode cX6_read 5 = .ok (.getfield 24, 3) := by decide +kernel
theorem dX6_read_8 : decode cX6_read 8 = .ok (.arraylength, 1) := by decide +kernel
theorem dX6_read_9 : decode cX6_read 9 = .ok (.invokestatic 37, 3) := by decide +kernel
theorem dX6_read_12 : decode cX6_read 12 = .ok (.invokestatic 37, 3) := by decide +kernel
theorem dX6_read_15 : decode cX6_read 15 = .ok (.putfield 28, 3) := by decide +kernel
theorem dX6_read_18 : decode cX6_read 18 = .ok (.iconst 0, 1) := by decide +kernel
theorem dX6_read_19 : decode cX6_read 19 = .ok (.istore 4, 2) := by decide +kernel
theorem dX6_read_21 : decode cX6_read 21 = .ok (.iload 4, 2) := by decide +kernel
theorem dX6_read_23 : decode cX6_read 23 = .ok (.aload_n 0, 1) := by decide +kernel
theorem dX6_read_24 : decode cX6_read 24 = .ok (.getfield 28, 3) := by decide +kernel
theorem dX6_read_27 : decode cX6_read 27 = .ok (.if_icmp .ge 20, 3) := by decide +kernel
theorem dX6_read_30 : decode cX6_read 30 = .ok (.aload_n 0, 1) := by decide +kernel
theorem dX6_read_31 : decode cX6_read 31 = .ok (.getfield 24, 3) := by decide +kernel
theorem dX6_read_34 : decode cX6_read 34 = .ok (.iload 4, 2) := by decide +kernel
theorem dX6_read_36 : decode cX6_read 36 = .ok (.aload_n 1, 1) := by decide +kernel
theorem dX6_read_37 : decode cX6_read 37 = .ok (.iload 4, 2) := by decide +kernel
theorem dX6_read_39 : decode cX6_read 39 = .ok (.baload, 1) := by decide +kernel
theorem dX6_read_40 : decode cX6_read 40 = .ok (.bastore, 1) := by decide +kernel
theorem dX6_read_41 : decode cX6_read 41 = .ok (.iinc 4 1, 3) := by decide +kernel
theorem dX6_read_44 : decode cX6_read 44 = .ok (.goto (-23), 3) := by decide +kernel
theorem dX6_read_47 : decode cX6_read 47 = .ok (.aload_n 0, 1) := by decide +kernel
theorem dX6_read_48 : decode cX6_read 48 = .ok (.iload_n 3, 1) := by decide +kernel
theorem dX6_read_49 : decode cX6_read 49 = .ok (.putfield 34, 3) := by decide +kernel
theorem dX6_read_52 : decode cX6_read 52 = .ok (.aload_n 0, 1) := by decide +kernel
theorem dX6_read_53 : decode cX6_read 53 = .ok (.iconst 0, 1) := by decide +kernel
theorem dX6_read_54 : decode cX6_read 54 = .ok (.putfield 31, 3) := by decide +kernel
theorem dX6_read_57 : decode cX6_read 57 = .ok (.aload_n 0, 1) := by decide +kernel
theorem dX6_read_58 : decode cX6_read 58 = .ok (.iconst 0, 1) := by decide +kernel
theorem dX6_read_59 : decode cX6_read 59 = .ok (.putfield 15, 3) := by decide +kernel
theorem dX6_read_62 : decode cX6_read 62 = .ok (.aload_n 0, 1) := by decide +kernel
theorem dX6_read_63 : decode cX6_read 63 = .ok (.iconst (-1), 1) := by decide +kernel
theorem dX6_read_64 : decode cX6_read 64 = .ok (.putfield 19, 3) := by decide +kernel
theorem dX6_read_67 : decode cX6_read 67 = .ok (.aload_n 0, 1) := by decide +kernel
theorem dX6_read_68 : decode cX6_read 68 = .ok (.iconst 0, 1) := by decide +kernel
theorem dX6_read_69 : decode cX6_read 69 = .ok (.iconst 0, 1) := by decide +kernel
theorem dX6_read_70 : decode cX6_read 70 = .ok (.invokevirtual 43, 3) := by decide +kernel
theorem dX6_read_73 : decode cX6_read 73 = .ok (.aload_n 0, 1) := by decide +kernel
theorem dX6_read_74 : decode cX6_read 74 = .ok (.getfield 31, 3) := by decide +kernel
theorem dX6_read_77 : decode cX6_read 77 = .ok (.aload_n 0, 1) := by decide +kernel
theorem dX6_read_78 : decode cX6_read 78 = .ok (.getfield 28, 3) := by decide +kernel
theorem dX6_read_81 : decode cX6_read 81 = .ok (.if_icmp .ge 7, 3) := by decide +kernel
theorem dX6_read_84 : decode cX6_read 84 = .ok (.aload_n 0, 1) := by decide +kernel
theorem dX6_read_85 : decode cX6_read 85 = .ok (.invokevirtual 47, 3) := by decide +kernel
theorem dX6_read_88 : decode cX6_read 88 = .ok (.return_, 1) := by decide +kernel
theorem dX6_sign_0 : decode cX6_sign 0 = .ok (.aload_n 0, 1) := by decide +kernel
theorem dX6_sign_1 : decode cX6_sign 1 = .ok (.getfield 31, 3) := by decide +kernel
theorem dX6_sign_4 : decode cX6_sign 4 = .ok (.ifCond .lt 42, 3) := by decide +kernel
theorem dX6_sign_7 : decode cX6_sign 7 = .ok (.aload_n 0, 1) := by decide +kernel
theorem dX6_sign_8 : decode cX6_sign 8 = .ok (.getfield 31, 3) := by decide +kernel
theorem dX6_sign_11 : decode cX6_sign 11 = .ok (.aload_n 0, 1) := by decide +kernel
theorem dX6_sign_12 : decode cX6_sign 12 = .ok (.getfield 28, 3) := by decide +kernel
theorem dX6_sign_15 : decode cX6_sign 15 = .ok (.if_icmp .ge 31, 3) := by decide +kernel
theorem dX6_sign_18 : decode cX6_sign 18 = .ok (.aload_n 0, 1) := by decide +kernel
theorem dX6_sign_19 : decode cX6_sign 19 = .ok (.getfield 31, 3) := by decide +kernel
theorem dX6_sign_22 : decode cX6_sign 22 = .ok (.aload_n 0, 1) := by decide +kernel
theorem dX6_sign_23 : decode cX6_sign 23 = .ok (.getfield 24, 3) := by decide +kernel
theorem dX6_sign_26 : decode cX6_sign 26 = .ok (.arraylength, 1) := by decide +kernel
theorem dX6_sign_27 : decode cX6_sign 27 = .ok (.if_icmp .ge 19, 3) := by decide +kernel
theorem dX6_sign_30 : decode cX6_sign 30 = .ok (.aload_n 0, 1) := by decide +kernel
theorem dX6_sign_31 : decode cX6_sign 31 = .ok (.getfield 24, 3) := by decide +kernel
theorem dX6_sign_34 : decode cX6_sign 34 = .ok (.aload_n 0, 1) := by decide +kernel
theorem dX6_sign_35 : decode cX6_sign 35 = .ok (.getfield 31, 3) := by decide +kernel
theorem dX6_sign_38 : decode cX6_sign 38 = .ok (.baload, 1) := by decide +kernel
theorem dX6_sign_39 : decode cX6_sign 39 = .ok (.sipush 255, 3) := by decide +kernel
theorem dX6_sign_42 : decode cX6_sign 42 = .ok (.iand, 1) := by decide +kernel
theorem dX6_sign_43 : decode cX6_sign 43 = .ok (.goto 4, 3) := by decide +kernel
theorem dX6_sign_46 : decode cX6_sign 46 = .ok (.iconst (-1), 1) := by decide +kernel
theorem dX6_sign_47 : decode cX6_sign 47 = .ok (.ireturn, 1) := by decide +kernel
theorem dX6_refuse_0 : decode cX6_refuse 0 = .ok (.aload_n 0, 1) := by decide +kernel
theorem dX6_refuse_1 : decode cX6_refuse 1 = .ok (.getfield 19, 3) := by decide +kernel
theorem dX6_refuse_4 : decode cX6_refuse 4 = .ok (.ifCond .ge 11, 3) := by decide +kernel
theorem dX6_refuse_7 : decode cX6_refuse 7 = .ok (.aload_n 0, 1) := by decide +kernel
theorem dX6_refuse_8 : decode cX6_refuse 8 = .ok (.aload_n 0, 1) := by decide +kernel
theorem dX6_refuse_9 : decode cX6_refuse 9 = .ok (.getfield 31, 3) := by decide +kernel
theorem dX6_refuse_12 : decode cX6_refuse 12 = .ok (.putfield 19, 3) := by decide +kernel
theorem dX6_refuse_15 : decode cX6_refuse 15 = .ok (.return_, 1) := by decide +kernel
theorem dX6_emit_0 : decode cX6_emit 0 = .ok (.aload_n 0, 1) := by decide +kernel
theorem dX6_emit_1 : decode cX6_emit 1 = .ok (.getfield 15, 3) := by decide +kernel
theorem dX6_emit_4 : decode cX6_emit 4 = .ok (.aload_n 0, 1) := by decide +kernel
theorem dX6_emit_5 : decode cX6_emit 5 = .ok (.getfield 9, 3) := by decide +kernel
theorem dX6_emit_8 : decode cX6_emit 8 = .ok (.arraylength, 1) := by decide +kernel
theorem dX6_emit_9 : decode cX6_emit 9 = .ok (.if_icmp .ge 23, 3) := by decide +kernel
theorem dX6_emit_12 : decode cX6_emit 12 = .ok (.aload_n 0, 1) := by decide +kernel
theorem dX6_emit_13 : decode cX6_emit 13 = .ok (.getfield 9, 3) := by decide +kernel
theorem dX6_emit_16 : decode cX6_emit 16 = .ok (.aload_n 0, 1) := by decide +kernel
theorem dX6_emit_17 : decode cX6_emit 17 = .ok (.getfield 15, 3) := by decide +kernel
theorem dX6_emit_20 : decode cX6_emit 20 = .ok (.iload_n 1, 1) := by decide +kernel
theorem dX6_emit_21 : decode cX6_emit 21 = .ok (.iastore, 1) := by decide +kernel
theorem dX6_emit_22 : decode cX6_emit 22 = .ok (.aload_n 0, 1) := by decide +kernel
theorem dX6_emit_23 : decode cX6_emit 23 = .ok (.dup, 1) := by decide +kernel
theorem dX6_emit_24 : decode cX6_emit 24 = .ok (.getfield 15, 3) := by decide +kernel
theorem dX6_emit_27 : decode cX6_emit 27 = .ok (.iconst 1, 1) := by decide +kernel
theorem dX6_emit_28 : decode cX6_emit 28 = .ok (.iadd, 1) := by decide +kernel
theorem dX6_emit_29 : decode cX6_emit 29 = .ok (.putfield 15, 3) := by decide +kernel
theorem dX6_emit_32 : decode cX6_emit 32 = .ok (.return_, 1) := by decide +kernel
set_option maxRecDepth 20000 in
theorem ggX6_readRank_X6_readPart : GoodIn wsX6_readRank wsX6_readPart := goodIn_r _ [46, 35, 36, 37, 7, 47, 48, 49, 22, 3, 8, 9, 10, 11, 12, 1, 23, 24, 25, 26, 27, 28, 29, 16, 17, 18, 19, 20, 21, 30, 31, 32, 33, 34, 4, 5, 6, 38, 39, 40, 41, 2, 42, 43, 44, 45, 0, 13, 14, 15, 50, 51, 52, 53, 54, 55, 56] (by decide +kernel) (by decide +kernel)
set_option maxRecDepth 20000 in
theorem gX6_readRank_X6_readPart : GoodIn wsX6_readRank (wsV RX6 50 RX6 yX6_readPart wsX6_readPart) := goodIn_app (goodIn_of _ (by decide +kernel)) ggX6_readRank_X6_readPart
set_option maxRecDepth 20000 in
theorem ggX6_readRank_X6_sign : GoodIn wsX6_readRank wsX6_sign := goodIn_r _ [11, 3, 12, 1, 50, 51, 52, 53, 54, 55, 56] (by decide +kernel) (by decide +kernel)
set_option maxRecDepth 20000 in
theorem gX6_readRank_X6_sign : GoodIn wsX6_readRank (wsV RX6 53 RX6 yX6_sign wsX6_sign) := goodIn_app (goodIn_of _ (by decide +kernel)) ggX6_readRank_X6_sign
set_option maxRecDepth 20000 in
theorem ggX6_readRank_X6_rankOf : GoodIn wsX6_readRank wsX6_rankOf := goodIn_r _ [15] (by decide +kernel) (by decide +kernel)
set_option maxRecDepth 20000 in
theorem gX6_readRank_X6_rankOf : GoodIn wsX6_readRank (va_wsS RX6 57 yX6_rankOf wsX6_rankOf) := goodIn_app (goodIn_of _ (by decide +kernel)) ggX6_readRank_X6_rankOf
set_option maxRecDepth 20000 in
theorem ggX6_readRank_X6_emit : GoodIn wsX6_readRank wsX6_emit := goodIn_r _ [19, 20, 21, 50, 51, 52, 53, 54, 55, 56] (by decide +kernel) (by decide +kernel)
set_option maxRecDepth 20000 in
theorem gX6_readRank_X6_emit : GoodIn wsX6_readRank (wsV RX6 61 RX6 yX6_emit wsX6_emit) := goodIn_app (goodIn_of _ (by decide +kernel)) ggX6_readRank_X6_emit
theorem dX6_readRank_0 : decode cX6_readRank 0 = .ok (.aload_n 0, 1) := by decide +kernel
theorem dX6_readRank_1 : decode cX6_readRank 1 = .ok (.iload_n 1, 1) := by decide +kernel
theorem dX6_readRank_2 : decode cX6_readRank 2 = .ok (.iload_n 2, 1) := by decide +kernel
theorem dX6_readRank_3 : decode cX6_readRank 3 = .ok (.invokevirtual 50, 3) := by decide +kernel
theorem dX6_readRank_6 : decode cX6_readRank 6 = .ok (.iload_n 1, 1) := by decide +kernel
theorem dX6_readRank_7 : decode cX6_readRank 7 = .ok (.iconst 2, 1) := by decide +kernel
theorem dX6_readRank_8 : decode cX6_readRank 8 = .ok (.if_icmp .ne 7, 3) := by decide +kernel
theorem dX6_readRank_11 : decode cX6_readRank 11 = .ok (.iconst 1, 1) := by decide +kernel
theorem dX6_readRank_12 : decode cX6_readRank 12 = .ok (.goto 8, 3) := by decide +kernel
theorem dX6_readRank_15 : decode cX6_readRank 15 = .ok (.aload_n 0, 1) := by decide +kernel
theorem dX6_readRank_16 : decode cX6_readRank 16 = .ok (.getfield 24, 3) := by decide +kernel
theorem dX6_readRank_19 : decode cX6_readRank 19 = .ok (.arraylength, 1) := by decide +kernel
theorem dX6_readRank_20 : decode cX6_readRank 20 = .ok (.istore_n 3, 1) := by decide +kernel
theorem dX6_readRank_21 : decode cX6_readRank 21 = .ok (.iconst 0, 1) := by decide +kernel
theorem dX6_readRank_22 : decode cX6_readRank 22 = .ok (.istore 4, 2) := by decide +kernel
theorem dX6_readRank_24 : decode cX6_readRank 24 = .ok (.iload 4, 2) := by decide +kernel
theorem dX6_readRank_26 : decode cX6_readRank 26 = .ok (.iload_n 3, 1) := by decide +kernel
theorem dX6_readRank_27 : decode cX6_readRank 27 = .ok (.if_icmp .ge 59, 3) := by decide +kernel
theorem dX6_readRank_30 : decode cX6_readRank 30 = .ok (.aload_n 0, 1) := by decide +kernel
theorem dX6_readRank_31 : decode cX6_readRank 31 = .ok (.getfield 19, 3) := by decide +kernel
theorem dX6_readRank_34 : decode cX6_readRank 34 = .ok (.ifCond .ge 52, 3) := by decide +kernel
theorem dX6_readRank_37 : decode cX6_readRank 37 = .ok (.aload_n 0, 1) := by decide +kernel
theorem dX6_readRank_38 : decode cX6_readRank 38 = .ok (.invokevirtual 53, 3) := by decide +kernel
theorem dX6_readRank_41 : decode cX6_readRank 41 = .ok (.invokestatic 57, 3) := by decide +kernel
theorem dX6_readRank_44 : decode cX6_readRank 44 = .ok (.iload_n 1, 1) := by decide +kernel
theorem dX6_readRank_45 : decode cX6_readRank 45 = .ok (.if_icmp .ne 41, 3) := by decide +kernel
theorem dX6_readRank_48 : decode cX6_readRank 48 = .ok (.aload_n 0, 1) := by decide +kernel
theorem dX6_readRank_49 : decode cX6_readRank 49 = .ok (.invokevirtual 53, 3) := by decide +kernel
theorem dX6_readRank_52 : decode cX6_readRank 52 = .ok (.istore 5, 2) := by decide +kernel
theorem dX6_readRank_54 : decode cX6_readRank 54 = .ok (.aload_n 0, 1) := by decide +kernel
theorem dX6_readRank_55 : decode cX6_readRank 55 = .ok (.dup, 1) := by decide +kernel
theorem dX6_readRank_56 : decode cX6_readRank 56 = .ok (.getfield 31, 3) := by decide +kernel
theorem dX6_readRank_59 : decode cX6_readRank 59 = .ok (.iconst 1, 1) := by decide +kernel
theorem dX6_readRank_60 : decode cX6_readRank 60 = .ok (.iadd, 1) := by decide +kernel
theorem dX6_readRank_61 : decode cX6_readRank 61 = .ok (.putfield 31, 3) := by decide +kernel
theorem dX6_readRank_64 : decode cX6_readRank 64 = .ok (.aload_n 0, 1) := by decide +kernel
theorem dX6_readRank_65 : decode cX6_readRank 65 = .ok (.iload_n 1, 1) := by decide +kernel
theorem dX6_readRank_66 : decode cX6_readRank 66 = .ok (.iload_n 2, 1) := by decide +kernel
theorem dX6_readRank_67 : decode cX6_readRank 67 = .ok (.invokevirtual 50, 3) := by decide +kernel
theorem dX6_readRank_70 : decode cX6_readRank 70 = .ok (.aload_n 0, 1) := by decide +kernel
theorem dX6_readRank_71 : decode cX6_readRank 71 = .ok (.sipush 20000, 3) := by decide +kernel
theorem dX6_readRank_74 : decode cX6_readRank 74 = .ok (.iload 5, 2) := by decide +kernel
theorem dX6_readRank_76 : decode cX6_readRank 76 = .ok (.iadd, 1) := by decide +kernel
theorem dX6_readRank_77 : decode cX6_readRank 77 = .ok (.invokevirtual 61, 3) := by decide +kernel
theorem dX6_readRank_80 : decode cX6_readRank 80 = .ok (.iinc 4 1, 3) := by decide +kernel
theorem dX6_readRank_83 : decode cX6_readRank 83 = .ok (.goto (-59), 3) := by decide +kernel
theorem dX6_readRank_86 : decode cX6_readRank 86 = .ok (.return_, 1) := by decide +kernel
set_option maxRecDepth 20000 in
theorem ggX6_readPart_X6_readRank : GoodIn wsX6_readPart wsX6_readRank := goodIn_r _ [46, 15, 41, 9, 34, 35, 36, 4, 10, 11, 12, 13, 14, 47, 48, 49, 23, 24, 25, 26, 27, 28, 8, 16, 17, 18, 19, 20, 21, 22, 29, 30, 31, 32, 33, 1, 2, 3, 37, 38, 39, 40, 42, 43, 44, 45, 0, 5, 6, 7, 50, 51, 52, 53, 54, 55, 56] (by decide +kernel) (by decide +kernel)
set_option maxRecDepth 20000 in
theorem gX6_readPart_X6_readRank : GoodIn wsX6_readPart (wsV RX6 43 RX6 yX6_readRank wsX6_readRank) := goodIn_app (goodIn_of _ (by decide +kernel)) ggX6_readPart_X6_readRank
set_option maxRecDepth 20000 in
theorem ggX6_readPart_X6_readFactor : GoodIn wsX6_readPart wsX6_readFactor := goodIn_r _ [8, 9, 10, 11, 12, 4, 13, 14, 15, 16, 17, 18, 19, 20, 21, 22, 23, 24, 25, 26, 27, 28, 29, 30, 31, 32, 33, 34, 35, 36, 1, 2, 3, 37, 38, 39, 40, 41, 42, 43, 44, 45, 0, 5, 6, 7, 46, 47, 48, 49, 50, 51, 52, 53, 54, 55, 56] (by decide +kernel) (by decide +kernel)
set_option maxRecDepth 20000 in
theorem gX6_readPart_X6_readFactor : GoodIn wsX6_readPart (wsV RX6 65 RX6 yX6_readFactor wsX6_readFactor) := goodIn_app (goodIn_of _ (by decide +kernel)) ggX6_readPart_X6_readFactor
theorem dX6_readPart_0 : decode cX6_readPart 0 = .ok (.iload_n 1, 1) := by decide +kernel
theorem dX6_readPart_1 : decode cX6_readPart 1 = .ok (.ifCond .lt 19, 3) := by decide +kernel
theorem dX6_readPart_4 : decode cX6_readPart 4 = .ok (.iload_n 1, 1) := by decide +kernel
theorem dX6_readPart_5 : decode cX6_readPart 5 = .ok (.iconst 4, 1) := by decide +kernel
theorem dX6_readPart_6 : decode cX6_readPart 6 = .ok (.if_icmp .ge 14, 3) := by decide +kernel
theorem dX6_readPart_9 : decode cX6_readPart 9 = .ok (.aload_n 0, 1) := by decide +kernel
theorem dX6_readPart_10 : decode cX6_readPart 10 = .ok (.iload_n 1, 1) := by decide +kernel
theorem dX6_readPart_11 : decode cX6_readPart 11 = .ok (.iconst 1, 1) := by decide +kernel
theorem dX6_readPart_12 : decode cX6_readPart 12 = .ok (.iadd, 1) := by decide +kernel
theorem dX6_readPart_13 : decode cX6_readPart 13 = .ok (.iload_n 2, 1) := by decide +kernel
theorem dX6_readPart_14 : decode cX6_readPart 14 = .ok (.invokevirtual 43, 3) := by decide +kernel
theorem dX6_readPart_17 : decode cX6_readPart 17 = .ok (.goto 8, 3) := by decide +kernel
theorem dX6_readPart_20 : decode cX6_readPart 20 = .ok (.aload_n 0, 1) := by decide +kernel
theorem dX6_readPart_21 : decode cX6_readPart 21 = .ok (.iload_n 2, 1) := by decide +kernel
theorem dX6_readPart_22 : decode cX6_readPart 22 = .ok (.invokevirtual 65, 3) := by decide +kernel
theorem dX6_readPart_25 : decode cX6_readPart 25 = .ok (.return_, 1) := by decide +kernel
theorem dX6_rankOf_0 : decode cX6_rankOf 0 = .ok (.iload_n 0, 1) := by decide +kernel
theorem dX6_rankOf_1 : decode cX6_rankOf 1 = .ok (.lookupswitch 101 #[(37, 99), (38, 93), (42, 99), (43, 97), (45, 97), (47, 99), (60, 95), (61, 95), (62, 95), (124, 91)], 91) := by decide +kernel
theorem dX6_rankOf_92 : decode cX6_rankOf 92 = .ok (.iconst 0, 1) := by decide +kernel
theorem dX6_rankOf_93 : decode cX6_rankOf 93 = .ok (.ireturn, 1) := by decide +kernel
theorem dX6_rankOf_94 : decode cX6_rankOf 94 = .ok (.iconst 1, 1) := by decide +kernel
theorem dX6_rankOf_95 : decode cX6_rankOf 95 = .ok (.ireturn, 1) := by decide +kernel
theorem dX6_rankOf_96 : decode cX6_rankOf 96 = .ok (.iconst 2, 1) := by decide +kernel
theorem dX6_rankOf_97 : decode cX6_rankOf 97 = .ok (.ireturn, 1) := by decide +kernel
theorem dX6_rankOf_98 : decode cX6_rankOf 98 = .ok (.iconst 3, 1) := by decide +kernel
theorem dX6_rankOf_99 : decode cX6_rankOf 99 = .ok (.ireturn, 1) := by decide +kernel
theorem dX6_rankOf_100 : decode cX6_rankOf 100 = .ok (.iconst 4, 1) := by decide +kernel
theorem dX6_rankOf_101 : decode cX6_rankOf 101 = .ok (.ireturn, 1) := by decide +kernel
theorem dX6_rankOf_102 : decode cX6_rankOf 102 = .ok (.iconst (-1), 1) := by decide +kernel
theorem dX6_rankOf_103 : decode cX6_rankOf 103 = .ok (.ireturn, 1) := by decide +kernel
set_option maxRecDepth 20000 in
theorem ggX6_readFactor_X6_sign : GoodIn wsX6_readFactor wsX6_sign := goodIn_r _ [6, 1, 7, 8, 50, 51, 52, 53, 54, 55, 56] (by decide +kernel) (by decide +kernel)
set_option maxRecDepth 20000 in
theorem gX6_readFactor_X6_sign : GoodIn wsX6_readFactor (wsV RX6 53 RX6 yX6_sign wsX6_sign) := goodIn_app (goodIn_of _ (by decide +kernel)) ggX6_readFactor_X6_sign
set_option maxRecDepth 20000 in
theorem ggX6_readFactor_X6_isDigit : GoodIn wsX6_readFactor wsX6_isDigit := goodIn_r _ [11] (by decide +kernel) (by decide +kernel)
set_option maxRecDepth 20000 in
theorem gX6_readFactor_X6_isDigit : GoodIn wsX6_readFactor (va_wsS RX6 68 yX6_isDigit wsX6_isDigit) := goodIn_app (goodIn_of _ (by decide +kernel)) ggX6_readFactor_X6_isDigit
set_option maxRecDepth 20000 in
theorem ggX6_readFactor_X6_readNumber : GoodIn wsX6_readFactor wsX6_readNumber := goodIn_r _ [15, 1, 2, 3, 4, 5, 6, 7, 8, 9, 10, 11, 16, 17, 18, 19, 20, 21, 50, 51, 52, 53, 54, 55, 56] (by decide +kernel) (by decide +kernel)
set_option maxRecDepth 20000 in
theorem gX6_readFactor_X6_readNumber : GoodIn wsX6_readFactor (wsV RX6 72 RX6 yX6_readNumber wsX6_readNumber) := goodIn_app (goodIn_of _ (by decide +kernel)) ggX6_readFactor_X6_readNumber
set_option maxRecDepth 20000 in
theorem ggX6_readFactor_X6_nameOf : GoodIn wsX6_readFactor wsX6_nameOf := goodIn_r _ [25, 26, 50, 51, 52, 53, 54, 55, 56] (by decide +kernel) (by decide +kernel)
set_option maxRecDepth 20000 in
theorem gX6_readFactor_X6_nameOf : GoodIn wsX6_readFactor (wsV RX6 75 RX6 yX6_nameOf wsX6_nameOf) := goodIn_app (goodIn_of _ (by decide +kernel)) ggX6_readFactor_X6_nameOf
set_option maxRecDepth 20000 in
theorem ggX6_readFactor_X6_emit : GoodIn wsX6_readFactor wsX6_emit := goodIn_r _ [19, 20, 21, 50, 51, 52, 53, 54, 55, 56] (by decide +kernel) (by decide +kernel)
set_option maxRecDepth 20000 in
theorem gX6_readFactor_X6_emit : GoodIn wsX6_readFactor (wsV RX6 61 RX6 yX6_emit wsX6_emit) := goodIn_app (goodIn_of _ (by decide +kernel)) ggX6_readFactor_X6_emit
set_option maxRecDepth 20000 in
theorem ggX6_readFactor_X6_readPart : GoodIn wsX6_readFactor wsX6_readPart := goodIn_r _ [42, 30, 31, 32, 5, 43, 44, 45, 0, 1, 2, 3, 4, 6, 7, 8, 9, 10, 11, 12, 13, 14, 15, 16, 17, 18, 19, 20, 21, 22, 23, 24, 25, 26, 27, 28, 29, 33, 34, 35, 36, 37, 38, 39, 40, 41, 46, 47, 48, 49, 50, 51, 52, 53, 54, 55, 56] (by decide +kernel) (by decide +kernel)
set_option maxRecDepth 20000 in
theorem gX6_readFactor_X6_readPart : GoodIn wsX6_readFactor (wsV RX6 50 RX6 yX6_readPart wsX6_readPart) := goodIn_app (goodIn_of _ (by decide +kernel)) ggX6_readFactor_X6_readPart
set_option maxRecDepth 20000 in
theorem ggX6_readFactor_X6_readRank : GoodIn wsX6_readFactor wsX6_readRank := goodIn_r _ [46, 8, 37, 1, 27, 28, 29, 5, 2, 3, 4, 6, 7, 47, 48, 49, 16, 17, 18, 19, 20, 21, 0, 9, 10, 11, 12, 13, 14, 15, 22, 23, 24, 25, 26, 30, 31, 32, 33, 34, 35, 36, 38, 39, 40, 41, 42, 43, 44, 45, 50, 51, 52, 53, 54, 55, 56] (by decide +kernel) (by decide +kernel)
set_option maxRecDepth 20000 in
theorem gX6_readFactor_X6_readRank : GoodIn wsX6_readFactor (wsV RX6 43 RX6 yX6_readRank wsX6_readRank) := goodIn_app (goodIn_of _ (by decide +kernel)) ggX6_readFactor_X6_readRank
set_option maxRecDepth 20000 in
theorem ggX6_readFactor_X6_readClosing : GoodIn wsX6_readFactor wsX6_readClosing := goodIn_r _ [36, 37, 1, 2, 3, 4, 5, 6, 7, 8, 38, 39, 40, 41, 50, 51, 52, 53, 54, 55, 56] (by decide +kernel) (by decide +kernel)
set_option maxRecDepth 20000 in
theorem gX6_readFactor_X6_readClosing : GoodIn wsX6_readFactor (wsV RX6 78 RX6 yX6_readClosing wsX6_readClosing) := goodIn_app (goodIn_of _ (by decide +kernel)) ggX6_readFactor_X6_readClosing
set_option maxRecDepth 20000 in
theorem ggX6_readFactor_X6_refuse : GoodIn wsX6_readFactor wsX6_refuse := goodIn_r _ [41, 37, 1, 50, 51, 52, 53, 54, 55, 56] (by decide +kernel) (by decide +kernel)
set_option maxRecDepth 20000 in
theorem gX6_readFactor_X6_refuse : GoodIn wsX6_readFactor (wsV RX6 47 RX6 yX6_refuse wsX6_refuse) := goodIn_app (goodIn_of _ (by decide +kernel)) ggX6_readFactor_X6_refuse
theorem dX6_readFactor_0 : decode cX6_readFactor 0 = .ok (.aload_n 0, 1) := by decide +kernel
theorem dX6_readFactor_1 : decode cX6_readFactor 1 = .ok (.invokevirtual 53, 3) := by decide +kernel
theorem dX6_readFactor_4 : decode cX6_readFactor 4 = .ok (.istore_n 2, 1) := by decide +kernel
theorem dX6_readFactor_5 : decode cX6_readFactor 5 = .ok (.iload_n 2, 1) := by decide +kernel
theorem dX6_readFactor_6 : decode cX6_readFactor 6 = .ok (.invokestatic 68, 3) := by decide +kernel
theorem dX6_readFactor_9 : decode cX6_readFactor 9 = .ok (.ifCond .eq 10, 3) := by decide +kernel
theorem dX6_readFactor_12 : decode cX6_readFactor 12 = .ok (.aload_n 0, 1) := by decide +kernel
theorem dX6_readFactor_13 : decode cX6_readFactor 13 = .ok (.invokevirtual 72, 3) := by decide +kernel
theorem dX6_readFactor_16 : decode cX6_readFactor 16 = .ok (.goto 116, 3) := by decide +kernel
theorem dX6_readFactor_19 : decode cX6_readFactor 19 = .ok (.aload_n 0, 1) := by decide +kernel
theorem dX6_readFactor_20 : decode cX6_readFactor 20 = .ok (.iload_n 2, 1) := by decide +kernel
theorem dX6_readFactor_21 : decode cX6_readFactor 21 = .ok (.invokevirtual 75, 3) := by decide +kernel
theorem dX6_readFactor_24 : decode cX6_readFactor 24 = .ok (.ifCond .lt 29, 3) := by decide +kernel
theorem dX6_readFactor_27 : decode cX6_readFactor 27 = .ok (.aload_n 0, 1) := by decide +kernel
theorem dX6_readFactor_28 : decode cX6_readFactor 28 = .ok (.sipush 10000, 3) := by decide +kernel
theorem dX6_readFactor_31 : decode cX6_readFactor 31 = .ok (.aload_n 0, 1) := by decide +kernel
theorem dX6_readFactor_32 : decode cX6_readFactor 32 = .ok (.iload_n 2, 1) := by decide +kernel
theorem dX6_readFactor_33 : decode cX6_readFactor 33 = .ok (.invokevirtual 75, 3) := by decide +kernel
theorem dX6_readFactor_36 : decode cX6_readFactor 36 = .ok (.iadd, 1) := by decide +kernel
theorem dX6_readFactor_37 : decode cX6_readFactor 37 = .ok (.invokevirtual 61, 3) := by decide +kernel
theorem dX6_readFactor_40 : decode cX6_readFactor 40 = .ok (.aload_n 0, 1) := by decide +kernel
theorem dX6_readFactor_41 : decode cX6_readFactor 41 = .ok (.dup, 1) := by decide +kernel
theorem dX6_readFactor_42 : decode cX6_readFactor 42 = .ok (.getfield 31, 3) := by decide +kernel
theorem dX6_readFactor_45 : decode cX6_readFactor 45 = .ok (.iconst 1, 1) := by decide +kernel
theorem dX6_readFactor_46 : decode cX6_readFactor 46 = .ok (.iadd, 1) := by decide +kernel
theorem dX6_readFactor_47 : decode cX6_readFactor 47 = .ok (.putfield 31, 3) := by decide +kernel
theorem dX6_readFactor_50 : decode cX6_readFactor 50 = .ok (.goto 82, 3) := by decide +kernel
theorem dX6_readFactor_53 : decode cX6_readFactor 53 = .ok (.iload_n 2, 1) := by decide +kernel
theorem dX6_readFactor_54 : decode cX6_readFactor 54 = .ok (.bipush 33, 2) := by decide +kernel
theorem dX6_readFactor_56 : decode cX6_readFactor 56 = .ok (.if_icmp .ne 36, 3) := by decide +kernel
theorem dX6_readFactor_59 : decode cX6_readFactor 59 = .ok (.iload_n 1, 1) := by decide +kernel
theorem dX6_readFactor_60 : decode cX6_readFactor 60 = .ok (.iconst 5, 1) := by decide +kernel
theorem dX6_readFactor_61 : decode cX6_readFactor 61 = .ok (.if_icmp .ge 31, 3) := by decide +kernel
theorem dX6_readFactor_64 : decode cX6_readFactor 64 = .ok (.aload_n 0, 1) := by decide +kernel
theorem dX6_readFactor_65 : decode cX6_readFactor 65 = .ok (.dup, 1) := by decide +kernel
theorem dX6_readFactor_66 : decode cX6_readFactor 66 = .ok (.getfield 31, 3) := by decide +kernel
theorem dX6_readFactor_69 : decode cX6_readFactor 69 = .ok (.iconst 1, 1) := by decide +kernel
theorem dX6_readFactor_70 : decode cX6_readFactor 70 = .ok (.iadd, 1) := by decide +kernel
theorem dX6_readFactor_71 : decode cX6_readFactor 71 = .ok (.putfield 31, 3) := by decide +kernel
theorem dX6_readFactor_74 : decode cX6_readFactor 74 = .ok (.aload_n 0, 1) := by decide +kernel
theorem dX6_readFactor_75 : decode cX6_readFactor 75 = .ok (.iconst 4, 1) := by decide +kernel
theorem dX6_readFactor_76 : decode cX6_readFactor 76 = .ok (.iload_n 1, 1) := by decide +kernel
theorem dX6_readFactor_77 : decode cX6_readFactor 77 = .ok (.iconst 1, 1) := by decide +kernel
theorem dX6_readFactor_78 : decode cX6_readFactor 78 = .ok (.iadd, 1) := by decide +kernel
theorem dX6_readFactor_79 : decode cX6_readFactor 79 = .ok (.invokevirtual 50, 3) := by decide +kernel
theorem dX6_readFactor_82 : decode cX6_readFactor 82 = .ok (.aload_n 0, 1) := by decide +kernel
theorem dX6_readFactor_83 : decode cX6_readFactor 83 = .ok (.sipush 20033, 3) := by decide +kernel
theorem dX6_readFactor_86 : decode cX6_readFactor 86 = .ok (.invokevirtual 61, 3) := by decide +kernel
theorem dX6_readFactor_89 : decode cX6_readFactor 89 = .ok (.goto 43, 3) := by decide +kernel
theorem dX6_readFactor_92 : decode cX6_readFactor 92 = .ok (.iload_n 2, 1) := by decide +kernel
theorem dX6_readFactor_93 : decode cX6_readFactor 93 = .ok (.bipush 40, 2) := by decide +kernel
theorem dX6_readFactor_95 : decode cX6_readFactor 95 = .ok (.if_icmp .ne 33, 3) := by decide +kernel
theorem dX6_readFactor_98 : decode cX6_readFactor 98 = .ok (.iload_n 1, 1) := by decide +kernel
theorem dX6_readFactor_99 : decode cX6_readFactor 99 = .ok (.iconst 5, 1) := by decide +kernel
theorem dX6_readFactor_100 : decode cX6_readFactor 100 = .ok (.if_icmp .ge 28, 3) := by decide +kernel
theorem dX6_readFactor_103 : decode cX6_readFactor 103 = .ok (.aload_n 0, 1) := by decide +kernel
theorem dX6_readFactor_104 : decode cX6_readFactor 104 = .ok (.dup, 1) := by decide +kernel
theorem dX6_readFactor_105 : decode cX6_readFactor 105 = .ok (.getfield 31, 3) := by decide +kernel
theorem dX6_readFactor_108 : decode cX6_readFactor 108 = .ok (.iconst 1, 1) := by decide +kernel
theorem dX6_readFactor_109 : decode cX6_readFactor 109 = .ok (.iadd, 1) := by decide +kernel
theorem dX6_readFactor_110 : decode cX6_readFactor 110 = .ok (.putfield 31, 3) := by decide +kernel
theorem dX6_readFactor_113 : decode cX6_readFactor 113 = .ok (.aload_n 0, 1) := by decide +kernel
theorem dX6_readFactor_114 : decode cX6_readFactor 114 = .ok (.iconst 0, 1) := by decide +kernel
theorem dX6_readFactor_115 : decode cX6_readFactor 115 = .ok (.iload_n 1, 1) := by decide +kernel
theorem dX6_readFactor_116 : decode cX6_readFactor 116 = .ok (.iconst 1, 1) := by decide +kernel
theorem dX6_readFactor_117 : decode cX6_readFactor 117 = .ok (.iadd, 1) := by decide +kernel
theorem dX6_readFactor_118 : decode cX6_readFactor 118 = .ok (.invokevirtual 43, 3) := by decide +kernel
theorem dX6_readFactor_121 : decode cX6_readFactor 121 = .ok (.aload_n 0, 1) := by decide +kernel
theorem dX6_readFactor_122 : decode cX6_readFactor 122 = .ok (.invokevirtual 78, 3) := by decide +kernel
theorem dX6_readFactor_125 : decode cX6_readFactor 125 = .ok (.goto 7, 3) := by decide +kernel
theorem dX6_readFactor_128 : decode cX6_readFactor 128 = .ok (.aload_n 0, 1) := by decide +kernel
theorem dX6_readFactor_129 : decode cX6_readFactor 129 = .ok (.invokevirtual 47, 3) := by decide +kernel
theorem dX6_readFactor_132 : decode cX6_readFactor 132 = .ok (.return_, 1) := by decide +kernel
set_option maxRecDepth 20000 in
theorem ggX6_readClosing_X6_sign : GoodIn wsX6_readClosing wsX6_sign := goodIn_r _ [7, 2, 8, 9, 14, 15, 16, 17, 18, 19, 20] (by decide +kernel) (by decide +kernel)
set_option maxRecDepth 20000 in
theorem gX6_readClosing_X6_sign : GoodIn wsX6_readClosing (wsV RX6 53 RX6 yX6_sign wsX6_sign) := goodIn_app (goodIn_of _ (by decide +kernel)) ggX6_readClosing_X6_sign
set_option maxRecDepth 20000 in
theorem ggX6_readClosing_X6_refuse : GoodIn wsX6_readClosing wsX6_refuse := goodIn_r _ [13, 1, 2, 14, 15, 16, 17, 18, 19, 20] (by decide +kernel) (by decide +kernel)
set_option maxRecDepth 20000 in
theorem gX6_readClosing_X6_refuse : GoodIn wsX6_readClosing (wsV RX6 47 RX6 yX6_refuse wsX6_refuse) := goodIn_app (goodIn_of _ (by decide +kernel)) ggX6_readClosing_X6_refuse
theorem dX6_readClosing_0 : decode cX6_readClosing 0 = .ok (.aload_n 0, 1) := by decide +kernel
theorem dX6_readClosing_1 : decode cX6_readClosing 1 = .ok (.getfield 19, 3) := by decide +kernel
theorem dX6_readClosing_4 : decode cX6_readClosing 4 = .ok (.ifCond .ge 25, 3) := by decide +kernel
theorem dX6_readClosing_7 : decode cX6_readClosing 7 = .ok (.aload_n 0, 1) := by decide +kernel
theorem dX6_readClosing_8 : decode cX6_readClosing 8 = .ok (.invokevirtual 53, 3) := by decide +kernel
theorem dX6_readClosing_11 : decode cX6_readClosing 11 = .ok (.bipush 41, 2) := by decide +kernel
theorem dX6_readClosing_13 : decode cX6_readClosing 13 = .ok (.if_icmp .ne 16, 3) := by decide +kernel
theorem dX6_readClosing_16 : decode cX6_readClosing 16 = .ok (.aload_n 0, 1) := by decide +kernel
theorem dX6_readClosing_17 : decode cX6_readClosing 17 = .ok (.dup, 1) := by decide +kernel
theorem dX6_readClosing_18 : decode cX6_readClosing 18 = .ok (.getfield 31, 3) := by decide +kernel
theorem dX6_readClosing_21 : decode cX6_readClosing 21 = .ok (.iconst 1, 1) := by decide +kernel
theorem dX6_readClosing_22 : decode cX6_readClosing 22 = .ok (.iadd, 1) := by decide +kernel
theorem dX6_readClosing_23 : decode cX6_readClosing 23 = .ok (.putfield 31, 3) := by decide +kernel
theorem dX6_readClosing_26 : decode cX6_readClosing 26 = .ok (.goto 7, 3) := by decide +kernel
theorem dX6_readClosing_29 : decode cX6_readClosing 29 = .ok (.aload_n 0, 1) := by decide +kernel
theorem dX6_readClosing_30 : decode cX6_readClosing 30 = .ok (.invokevirtual 47, 3) := by decide +kernel
theorem dX6_readClosing_33 : decode cX6_readClosing 33 = .ok (.return_, 1) := by decide +kernel
set_option maxRecDepth 20000 in
theorem ggX6_readNumber_X6_sign : GoodIn wsX6_readNumber wsX6_sign := goodIn_r _ [6, 1, 7, 8, 18, 19, 20, 21, 22, 23, 24] (by decide +kernel) (by decide +kernel)
set_option maxRecDepth 20000 in
theorem gX6_readNumber_X6_sign : GoodIn wsX6_readNumber (wsV RX6 53 RX6 yX6_sign wsX6_sign) := goodIn_app (goodIn_of _ (by decide +kernel)) ggX6_readNumber_X6_sign
set_option maxRecDepth 20000 in
theorem ggX6_readNumber_X6_isDigit : GoodIn wsX6_readNumber wsX6_isDigit := goodIn_r _ [11] (by decide +kernel) (by decide +kernel)
set_option maxRecDepth 20000 in
theorem gX6_readNumber_X6_isDigit : GoodIn wsX6_readNumber (va_wsS RX6 68 yX6_isDigit wsX6_isDigit) := goodIn_app (goodIn_of _ (by decide +kernel)) ggX6_readNumber_X6_isDigit
set_option maxRecDepth 20000 in
theorem ggX6_readNumber_X6_emit : GoodIn wsX6_readNumber wsX6_emit := goodIn_r _ [15, 16, 17, 18, 19, 20, 21, 22, 23, 24] (by decide +kernel) (by decide +kernel)
set_option maxRecDepth 20000 in
theorem gX6_readNumber_X6_emit : GoodIn wsX6_readNumber (wsV RX6 61 RX6 yX6_emit wsX6_emit) := goodIn_app (goodIn_of _ (by decide +kernel)) ggX6_readNumber_X6_emit
theorem dX6_readNumber_0 : decode cX6_readNumber 0 = .ok (.iconst 0, 1) := by decide +kernel
theorem dX6_readNumber_1 : decode cX6_readNumber 1 = .ok (.istore_n 1, 1) := by decide +kernel
theorem dX6_readNumber_2 : decode cX6_readNumber 2 = .ok (.iconst 0, 1) := by decide +kernel
theorem dX6_readNumber_3 : decode cX6_readNumber 3 = .ok (.istore_n 2, 1) := by decide +kernel
theorem dX6_readNumber_4 : decode cX6_readNumber 4 = .ok (.iload_n 2, 1) := by decide +kernel
theorem dX6_readNumber_5 : decode cX6_readNumber 5 = .ok (.iconst 4, 1) := by decide +kernel
theorem dX6_readNumber_6 : decode cX6_readNumber 6 = .ok (.if_icmp .ge 42, 3) := by decide +kernel
theorem dX6_readNumber_9 : decode cX6_readNumber 9 = .ok (.aload_n 0, 1) := by decide +kernel
theorem dX6_readNumber_10 : decode cX6_readNumber 10 = .ok (.invokevirtual 53, 3) := by decide +kernel
theorem dX6_readNumber_13 : decode cX6_readNumber 13 = .ok (.invokestatic 68, 3) := by decide +kernel
theorem dX6_readNumber_16 : decode cX6_readNumber 16 = .ok (.ifCond .eq 32, 3) := by decide +kernel
theorem dX6_readNumber_19 : decode cX6_readNumber 19 = .ok (.iload_n 1, 1) := by decide +kernel
theorem dX6_readNumber_20 : decode cX6_readNumber 20 = .ok (.bipush 10, 2) := by decide +kernel
theorem dX6_readNumber_22 : decode cX6_readNumber 22 = .ok (.imul, 1) := by decide +kernel
theorem dX6_readNumber_23 : decode cX6_readNumber 23 = .ok (.aload_n 0, 1) := by decide +kernel
theorem dX6_readNumber_24 : decode cX6_readNumber 24 = .ok (.invokevirtual 53, 3) := by decide +kernel
theorem dX6_readNumber_27 : decode cX6_readNumber 27 = .ok (.iadd, 1) := by decide +kernel
theorem dX6_readNumber_28 : decode cX6_readNumber 28 = .ok (.bipush 48, 2) := by decide +kernel
theorem dX6_readNumber_30 : decode cX6_readNumber 30 = .ok (.isub, 1) := by decide +kernel
theorem dX6_readNumber_31 : decode cX6_readNumber 31 = .ok (.istore_n 1, 1) := by decide +kernel
theorem dX6_readNumber_32 : decode cX6_readNumber 32 = .ok (.aload_n 0, 1) := by decide +kernel
theorem dX6_readNumber_33 : decode cX6_readNumber 33 = .ok (.dup, 1) := by decide +kernel
theorem dX6_readNumber_34 : decode cX6_readNumber 34 = .ok (.getfield 31, 3) := by decide +kernel
theorem dX6_readNumber_37 : decode cX6_readNumber 37 = .ok (.iconst 1, 1) := by decide +kernel
theorem dX6_readNumber_38 : decode cX6_readNumber 38 = .ok (.iadd, 1) := by decide +kernel
theorem dX6_readNumber_39 : decode cX6_readNumber 39 = .ok (.putfield 31, 3) := by decide +kernel
theorem dX6_readNumber_42 : decode cX6_readNumber 42 = .ok (.iinc 2 1, 3) := by decide +kernel
theorem dX6_readNumber_45 : decode cX6_readNumber 45 = .ok (.goto (-41), 3) := by decide +kernel
theorem dX6_readNumber_48 : decode cX6_readNumber 48 = .ok (.aload_n 0, 1) := by decide +kernel
theorem dX6_readNumber_49 : decode cX6_readNumber 49 = .ok (.iload_n 1, 1) := by decide +kernel
theorem dX6_readNumber_50 : decode cX6_readNumber 50 = .ok (.invokevirtual 61, 3) := by decide +kernel
theorem dX6_readNumber_53 : decode cX6_readNumber 53 = .ok (.return_, 1) := by decide +kernel
theorem dX6_isDigit_0 : decode cX6_isDigit 0 = .ok (.iload_n 0, 1) := by decide +kernel
theorem dX6_isDigit_1 : decode cX6_isDigit 1 = .ok (.bipush 48, 2) := by decide +kernel
theorem dX6_isDigit_3 : decode cX6_isDigit 3 = .ok (.if_icmp .lt 13, 3) := by decide +kernel
theorem dX6_isDigit_6 : decode cX6_isDigit 6 = .ok (.iload_n 0, 1) := by decide +kernel
theorem dX6_isDigit_7 : decode cX6_isDigit 7 = .ok (.bipush 57, 2) := by decide +kernel
theorem dX6_isDigit_9 : decode cX6_isDigit 9 = .ok (.if_icmp .gt 7, 3) := by decide +kernel
theorem dX6_isDigit_12 : decode cX6_isDigit 12 = .ok (.iconst 1, 1) := by decide +kernel
theorem dX6_isDigit_13 : decode cX6_isDigit 13 = .ok (.goto 4, 3) := by decide +kernel
theorem dX6_isDigit_16 : decode cX6_isDigit 16 = .ok (.iconst 0, 1) := by decide +kernel
theorem dX6_isDigit_17 : decode cX6_isDigit 17 = .ok (.ireturn, 1) := by decide +kernel
theorem dX6_nameOf_0 : decode cX6_nameOf 0 = .ok (.iload_n 1, 1) := by decide +kernel
theorem dX6_nameOf_1 : decode cX6_nameOf 1 = .ok (.tableswitch 140 100 110 #[72, 140, 98, 140, 59, 140, 140, 126, 140, 112, 85], 59) := by decide +kernel
theorem dX6_nameOf_60 : decode cX6_nameOf 60 = .ok (.aload_n 0, 1) := by decide +kernel
theorem dX6_nameOf_61 : decode cX6_nameOf 61 = .ok (.getfield 34, 3) := by decide +kernel
theorem dX6_nameOf_64 : decode cX6_nameOf 64 = .ok (.ifCond .ne 7, 3) := by decide +kernel
theorem dX6_nameOf_67 : decode cX6_nameOf 67 = .ok (.iconst 0, 1) := by decide +kernel
theorem dX6_nameOf_68 : decode cX6_nameOf 68 = .ok (.goto 4, 3) := by decide +kernel
theorem dX6_nameOf_71 : decode cX6_nameOf 71 = .ok (.iconst (-1), 1) := by decide +kernel
theorem dX6_nameOf_72 : decode cX6_nameOf 72 = .ok (.ireturn, 1) := by decide +kernel
theorem dX6_nameOf_73 : decode cX6_nameOf 73 = .ok (.aload_n 0, 1) := by decide +kernel
theorem dX6_nameOf_74 : decode cX6_nameOf 74 = .ok (.getfield 34, 3) := by decide +kernel
theorem dX6_nameOf_77 : decode cX6_nameOf 77 = .ok (.ifCond .ne 7, 3) := by decide +kernel
theorem dX6_nameOf_80 : decode cX6_nameOf 80 = .ok (.iconst 1, 1) := by decide +kernel
theorem dX6_nameOf_81 : decode cX6_nameOf 81 = .ok (.goto 4, 3) := by decide +kernel
theorem dX6_nameOf_84 : decode cX6_nameOf 84 = .ok (.iconst (-1), 1) := by decide +kernel
theorem dX6_nameOf_85 : decode cX6_nameOf 85 = .ok (.ireturn, 1) := by decide +kernel
theorem dX6_nameOf_86 : decode cX6_nameOf 86 = .ok (.aload_n 0, 1) := by decide +kernel
theorem dX6_nameOf_87 : decode cX6_nameOf 87 = .ok (.getfield 34, 3) := by decide +kernel
theorem dX6_nameOf_90 : decode cX6_nameOf 90 = .ok (.ifCond .ne 7, 3) := by decide +kernel
theorem dX6_nameOf_93 : decode cX6_nameOf 93 = .ok (.iconst 2, 1) := by decide +kernel
theorem dX6_nameOf_94 : decode cX6_nameOf 94 = .ok (.goto 4, 3) := by decide +kernel
theorem dX6_nameOf_97 : decode cX6_nameOf 97 = .ok (.iconst (-1), 1) := by decide +kernel
theorem dX6_nameOf_98 : decode cX6_nameOf 98 = .ok (.ireturn, 1) := by decide +kernel
theorem dX6_nameOf_99 : decode cX6_nameOf 99 = .ok (.aload_n 0, 1) := by decide +kernel
theorem dX6_nameOf_100 : decode cX6_nameOf 100 = .ok (.getfield 34, 3) := by decide +kernel
theorem dX6_nameOf_103 : decode cX6_nameOf 103 = .ok (.iconst 1, 1) := by decide +kernel
theorem dX6_nameOf_104 : decode cX6_nameOf 104 = .ok (.if_icmp .ne 7, 3) := by decide +kernel
theorem dX6_nameOf_107 : decode cX6_nameOf 107 = .ok (.iconst 0, 1) := by decide +kernel
theorem dX6_nameOf_108 : decode cX6_nameOf 108 = .ok (.goto 4, 3) := by decide +kernel
theorem dX6_nameOf_111 : decode cX6_nameOf 111 = .ok (.iconst (-1), 1) := by decide +kernel
theorem dX6_nameOf_112 : decode cX6_nameOf 112 = .ok (.ireturn, 1) := by decide +kernel
theorem dX6_nameOf_113 : decode cX6_nameOf 113 = .ok (.aload_n 0, 1) := by decide +kernel
theorem dX6_nameOf_114 : decode cX6_nameOf 114 = .ok (.getfield 34, 3) := by decide +kernel
theorem dX6_nameOf_117 : decode cX6_nameOf 117 = .ok (.iconst 1, 1) := by decide +kernel
theorem dX6_nameOf_118 : decode cX6_nameOf 118 = .ok (.if_icmp .ne 7, 3) := by decide +kernel
theorem dX6_nameOf_121 : decode cX6_nameOf 121 = .ok (.iconst 1, 1) := by decide +kernel
theorem dX6_nameOf_122 : decode cX6_nameOf 122 = .ok (.goto 4, 3) := by decide +kernel
theorem dX6_nameOf_125 : decode cX6_nameOf 125 = .ok (.iconst (-1), 1) := by decide +kernel
theorem dX6_nameOf_126 : decode cX6_nameOf 126 = .ok (.ireturn, 1) := by decide +kernel
theorem dX6_nameOf_127 : decode cX6_nameOf 127 = .ok (.aload_n 0, 1) := by decide +kernel
theorem dX6_nameOf_128 : decode cX6_nameOf 128 = .ok (.getfield 34, 3) := by decide +kernel
theorem dX6_nameOf_131 : decode cX6_nameOf 131 = .ok (.iconst 1, 1) := by decide +kernel
theorem dX6_nameOf_132 : decode cX6_nameOf 132 = .ok (.if_icmp .ne 7, 3) := by decide +kernel
theorem dX6_nameOf_135 : decode cX6_nameOf 135 = .ok (.iconst 2, 1) := by decide +kernel
theorem dX6_nameOf_136 : decode cX6_nameOf 136 = .ok (.goto 4, 3) := by decide +kernel
theorem dX6_nameOf_139 : decode cX6_nameOf 139 = .ok (.iconst (-1), 1) := by decide +kernel
theorem dX6_nameOf_140 : decode cX6_nameOf 140 = .ok (.ireturn, 1) := by decide +kernel
theorem dX6_nameOf_141 : decode cX6_nameOf 141 = .ok (.iconst (-1), 1) := by decide +kernel
theorem dX6_nameOf_142 : decode cX6_nameOf 142 = .ok (.ireturn, 1) := by decide +kernel
theorem dX7_init_0 : decode cX7_init 0 = .ok (.aload_n 0, 1) := by decide +kernel
theorem dX7_init_1 : decode cX7_init 1 = .ok (.invokespecial 3, 3) := by decide +kernel
theorem dX7_init_4 : decode cX7_init 4 = .ok (.aload_n 0, 1) := by decide +kernel
theorem dX7_init_5 : decode cX7_init 5 = .ok (.bipush 6, 2) := by decide +kernel
theorem dX7_init_7 : decode cX7_init 7 = .ok (.newarray .int, 2) := by decide +kernel
theorem dX7_init_9 : decode cX7_init 9 = .ok (.putfield 11, 3) := by decide +kernel
theorem dX7_init_12 : decode cX7_init 12 = .ok (.aload_n 0, 1) := by decide +kernel
theorem dX7_init_13 : decode cX7_init 13 = .ok (.bipush 6, 2) := by decide +kernel
theorem dX7_init_15 : decode cX7_init 15 = .ok (.newarray .int, 2) := by decide +kernel
theorem dX7_init_17 : decode cX7_init 17 = .ok (.putfield 15, 3) := by decide +kernel
theorem dX7_init_20 : decode cX7_init 20 = .ok (.aload_n 0, 1) := by decide +kernel
theorem dX7_init_21 : decode cX7_init 21 = .ok (.bipush 6, 2) := by decide +kernel
theorem dX7_init_23 : decode cX7_init 23 = .ok (.newarray .int, 2) := by decide +kernel
theorem dX7_init_25 : decode cX7_init 25 = .ok (.putfield 18, 3) := by decide +kernel
theorem dX7_init_28 : decode cX7_init 28 = .ok (.aload_n 0, 1) := by decide +kernel
theorem dX7_init_29 : decode cX7_init 29 = .ok (.bipush 6, 2) := by decide +kernel
theorem dX7_init_31 : decode cX7_init 31 = .ok (.newarray .int, 2) := by decide +kernel
theorem dX7_init_33 : decode cX7_init 33 = .ok (.putfield 21, 3) := by decide +kernel
theorem dX7_init_36 : decode cX7_init 36 = .ok (.aload_n 0, 1) := by decide +kernel
theorem dX7_init_37 : decode cX7_init 37 = .ok (.bipush 6, 2) := by decide +kernel
theorem dX7_init_39 : decode cX7_init 39 = .ok (.newarray .int, 2) := by decide +kernel
theorem dX7_init_41 : decode cX7_init 41 = .ok (.putfield 24, 3) := by decide +kernel
theorem dX7_init_44 : decode cX7_init 44 = .ok (.aload_n 0, 1) := by decide +kernel
theorem dX7_init_45 : decode cX7_init 45 = .ok (.iconst 0, 1) := by decide +kernel
theorem dX7_init_46 : decode cX7_init 46 = .ok (.putfield 27, 3) := by decide +kernel
theorem dX7_init_49 : decode cX7_init 49 = .ok (.aload_n 0, 1) := by decide +kernel
theorem dX7_init_50 : decode cX7_init 50 = .ok (.lconst 0, 1) := by decide +kernel
theorem dX7_init_51 : decode cX7_init 51 = .ok (.putfield 31, 3) := by decide +kernel
theorem dX7_init_54 : decode cX7_init 54 = .ok (.return_, 1) := by decide +kernel
theorem dX7_has_0 : decode cX7_has 0 = .ok (.iload_n 1, 1) := by decide +kernel
theorem dX7_has_1 : decode cX7_has 1 = .ok (.ifCond .lt 21, 3) := by decide +kernel
theorem dX7_has_4 : decode cX7_has 4 = .ok (.iload_n 1, 1) := by decide +kernel
theorem dX7_has_5 : decode cX7_has 5 = .ok (.aload_n 0, 1) := by decide +kernel
theorem dX7_has_6 : decode cX7_has 6 = .ok (.getfield 27, 3) := by decide +kernel
theorem dX7_has_9 : decode cX7_has 9 = .ok (.if_icmp .ge 13, 3) := by decide +kernel
theorem dX7_has_12 : decode cX7_has 12 = .ok (.iload_n 1, 1) := by decide +kernel
theorem dX7_has_13 : decode cX7_has 13 = .ok (.bipush 6, 2) := by decide +kernel
theorem dX7_has_15 : decode cX7_has 15 = .ok (.if_icmp .ge 7, 3) := by decide +kernel
theorem dX7_has_18 : decode cX7_has 18 = .ok (.iconst 1, 1) := by decide +kernel
theorem dX7_has_19 : decode cX7_has 19 = .ok (.goto 4, 3) := by decide +kernel
theorem dX7_has_22 : decode cX7_has 22 = .ok (.iconst 0, 1) := by decide +kernel
theorem dX7_has_23 : decode cX7_has 23 = .ok (.ireturn, 1) := by decide +kernel
theorem dX7_isFull_0 : decode cX7_isFull 0 = .ok (.aload_n 0, 1) := by decide +kernel
theorem dX7_isFull_1 : decode cX7_isFull 1 = .ok (.getfield 27, 3) := by decide +kernel
theorem dX7_isFull_4 : decode cX7_isFull 4 = .ok (.bipush 6, 2) := by decide +kernel
theorem dX7_isFull_6 : decode cX7_isFull 6 = .ok (.if_icmp .lt 7, 3) := by decide +kernel
theorem dX7_isFull_9 : decode cX7_isFull 9 = .ok (.iconst 1, 1) := by decide +kernel
theorem dX7_isFull_10 : decode cX7_isFull 10 = .ok (.goto 4, 3) := by decide +kernel
theorem dX7_isFull_13 : decode cX7_isFull 13 = .ok (.iconst 0, 1) := by decide +kernel
theorem dX7_isFull_14 : decode cX7_isFull 14 = .ok (.ireturn, 1) := by decide +kernel
theorem dX7_inCell_0 : decode cX7_inCell 0 = .ok (.iconst 0, 1) := by decide +kernel
theorem dX7_inCell_1 : decode cX7_inCell 1 = .ok (.istore_n 2, 1) := by decide +kernel
theorem dX7_inCell_2 : decode cX7_inCell 2 = .ok (.iload_n 2, 1) := by decide +kernel
theorem dX7_inCell_3 : decode cX7_inCell 3 = .ok (.aload_n 0, 1) := by decide +kernel
theorem dX7_inCell_4 : decode cX7_inCell 4 = .ok (.getfield 27, 3) := by decide +kernel
theorem dX7_inCell_7 : decode cX7_inCell 7 = .ok (.if_icmp .ge 27, 3) := by decide +kernel
theorem dX7_inCell_10 : decode cX7_inCell 10 = .ok (.iload_n 2, 1) := by decide +kernel
theorem dX7_inCell_11 : decode cX7_inCell 11 = .ok (.bipush 6, 2) := by decide +kernel
theorem dX7_inCell_13 : decode cX7_inCell 13 = .ok (.if_icmp .ge 21, 3) := by decide +kernel
theorem dX7_inCell_16 : decode cX7_inCell 16 = .ok (.aload_n 0, 1) := by decide +kernel
theorem dX7_inCell_17 : decode cX7_inCell 17 = .ok (.getfield 18, 3) := by decide +kernel
theorem dX7_inCell_20 : decode cX7_inCell 20 = .ok (.iload_n 2, 1) := by decide +kernel
theorem dX7_inCell_21 : decode cX7_inCell 21 = .ok (.iaload, 1) := by decide +kernel
theorem dX7_inCell_22 : decode cX7_inCell 22 = .ok (.iload_n 1, 1) := by decide +kernel
theorem dX7_inCell_23 : decode cX7_inCell 23 = .ok (.if_icmp .ne 5, 3) := by decide +kernel
theorem dX7_inCell_26 : decode cX7_inCell 26 = .ok (.iload_n 2, 1) := by decide +kernel
theorem dX7_inCell_27 : decode cX7_inCell 27 = .ok (.ireturn, 1) := by decide +kernel
theorem dX7_inCell_28 : decode cX7_inCell 28 = .ok (.iinc 2 1, 3) := by decide +kernel
theorem dX7_inCell_31 : decode cX7_inCell 31 = .ok (.goto (-29), 3) := by decide +kernel
theorem dX7_inCell_34 : decode cX7_inCell 34 = .ok (.iconst (-1), 1) := by decide +kernel
theorem dX7_inCell_35 : decode cX7_inCell 35 = .ok (.ireturn, 1) := by decide +kernel
set_option maxRecDepth 20000 in
theorem ggX7_add_X7_isFull : GoodIn wsX7_add wsX7_isFull := goodIn_r _ [10, 1, 21, 22, 23, 24, 25, 26, 27] (by decide +kernel) (by decide +kernel)
set_option maxRecDepth 20000 in
theorem gX7_add_X7_isFull : GoodIn wsX7_add (wsV RX7 35 RX7 yX7_isFull wsX7_isFull) := goodIn_app (goodIn_of _ (by decide +kernel)) ggX7_add_X7_isFull
set_option maxRecDepth 20000 in
theorem ggX7_add_X7_setKind : GoodIn wsX7_add wsX7_setKind := goodIn_r _ [14, 15, 16, 17, 18, 19, 9, 20, 1, 21, 22, 23, 24, 25, 26, 27] (by decide +kernel) (by decide +kernel)
set_option maxRecDepth 20000 in
theorem gX7_add_X7_setKind : GoodIn wsX7_add (wsV RX7 39 RX7 yX7_setKind wsX7_setKind) := goodIn_app (goodIn_of _ (by decide +kernel)) ggX7_add_X7_setKind
theorem dX7_add_0 : decode cX7_add 0 = .ok (.aload_n 0, 1) := by decide +kernel
theorem dX7_add_1 : decode cX7_add 1 = .ok (.invokevirtual 35, 3) := by decide +kernel
theorem dX7_add_4 : decode cX7_add 4 = .ok (.ifCond .eq 5, 3) := by decide +kernel
theorem dX7_add_7 : decode cX7_add 7 = .ok (.iconst (-1), 1) := by decide +kernel
theorem dX7_add_8 : decode cX7_add 8 = .ok (.ireturn, 1) := by decide +kernel
theorem dX7_add_9 : decode cX7_add 9 = .ok (.aload_n 0, 1) := by decide +kernel
theorem dX7_add_10 : decode cX7_add 10 = .ok (.getfield 27, 3) := by decide +kernel
theorem dX7_add_13 : decode cX7_add 13 = .ok (.istore_n 3, 1) := by decide +kernel
theorem dX7_add_14 : decode cX7_add 14 = .ok (.aload_n 0, 1) := by decide +kernel
theorem dX7_add_15 : decode cX7_add 15 = .ok (.dup, 1) := by decide +kernel
theorem dX7_add_16 : decode cX7_add 16 = .ok (.getfield 27, 3) := by decide +kernel
theorem dX7_add_19 : decode cX7_add 19 = .ok (.iconst 1, 1) := by decide +kernel
theorem dX7_add_20 : decode cX7_add 20 = .ok (.iadd, 1) := by decide +kernel
theorem dX7_add_21 : decode cX7_add 21 = .ok (.putfield 27, 3) := by decide +kernel
theorem dX7_add_24 : decode cX7_add 24 = .ok (.aload_n 0, 1) := by decide +kernel
theorem dX7_add_25 : decode cX7_add 25 = .ok (.iload_n 3, 1) := by decide +kernel
theorem dX7_add_26 : decode cX7_add 26 = .ok (.iload_n 1, 1) := by decide +kernel
theorem dX7_add_27 : decode cX7_add 27 = .ok (.invokevirtual 39, 3) := by decide +kernel
theorem dX7_add_30 : decode cX7_add 30 = .ok (.aload_n 0, 1) := by decide +kernel
theorem dX7_add_31 : decode cX7_add 31 = .ok (.getfield 18, 3) := by decide +kernel
theorem dX7_add_34 : decode cX7_add 34 = .ok (.iload_n 3, 1) := by decide +kernel
theorem dX7_add_35 : decode cX7_add 35 = .ok (.iload_n 2, 1) := by decide +kernel
theorem dX7_add_36 : decode cX7_add 36 = .ok (.iastore, 1) := by decide +kernel
theorem dX7_add_37 : decode cX7_add 37 = .ok (.aload_n 0, 1) := by decide +kernel
theorem dX7_add_38 : decode cX7_add 38 = .ok (.getfield 21, 3) := by decide +kernel
theorem dX7_add_41 : decode cX7_add 41 = .ok (.iload_n 3, 1) := by decide +kernel
theorem dX7_add_42 : decode cX7_add 42 = .ok (.iconst 0, 1) := by decide +kernel
theorem dX7_add_43 : decode cX7_add 43 = .ok (.iastore, 1) := by decide +kernel
theorem dX7_add_44 : decode cX7_add 44 = .ok (.aload_n 0, 1) := by decide +kernel
theorem dX7_add_45 : decode cX7_add 45 = .ok (.getfield 24, 3) := by decide +kernel
theorem dX7_add_48 : decode cX7_add 48 = .ok (.iload_n 3, 1) := by decide +kernel
theorem dX7_add_49 : decode cX7_add 49 = .ok (.iconst 0, 1) := by decide +kernel
theorem dX7_add_50 : decode cX7_add 50 = .ok (.iastore, 1) := by decide +kernel
theorem dX7_add_51 : decode cX7_add 51 = .ok (.aload_n 0, 1) := by decide +kernel
theorem dX7_add_52 : decode cX7_add 52 = .ok (.dup, 1) := by decide +kernel
theorem dX7_add_53 : decode cX7_add 53 = .ok (.getfield 31, 3) := by decide +kernel
theorem dX7_add_56 : decode cX7_add 56 = .ok (.lconst 1, 1) := by decide +kernel
theorem dX7_add_57 : decode cX7_add 57 = .ok (.iload_n 2, 1) := by decide +kernel
theorem dX7_add_58 : decode cX7_add 58 = .ok (.lshl, 1) := by decide +kernel
theorem dX7_add_59 : decode cX7_add 59 = .ok (.lor, 1) := by decide +kernel
theorem dX7_add_60 : decode cX7_add 60 = .ok (.putfield 31, 3) := by decide +kernel
theorem dX7_add_63 : decode cX7_add 63 = .ok (.iload_n 3, 1) := by decide +kernel
theorem dX7_add_64 : decode cX7_add 64 = .ok (.ireturn, 1) := by decide +kernel
set_option maxRecDepth 20000 in
theorem ggX7_setKind_X7_has : GoodIn wsX7_setKind wsX7_has := goodIn_r _ [7, 8, 9, 10, 11, 12, 13, 14, 15] (by decide +kernel) (by decide +kernel)
set_option maxRecDepth 20000 in
theorem gX7_setKind_X7_has : GoodIn wsX7_setKind (wsV RX7 43 RX7 yX7_has wsX7_has) := goodIn_app (goodIn_of _ (by decide +kernel)) ggX7_setKind_X7_has
theorem dX7_setKind_0 : decode cX7_setKind 0 = .ok (.aload_n 0, 1) := by decide +kernel
theorem dX7_setKind_1 : decode cX7_setKind 1 = .ok (.iload_n 1, 1) := by decide +kernel
theorem dX7_setKind_2 : decode cX7_setKind 2 = .ok (.invokevirtual 43, 3) := by decide +kernel
theorem dX7_setKind_5 : decode cX7_setKind 5 = .ok (.ifCond .eq 23, 3) := by decide +kernel
theorem dX7_setKind_8 : decode cX7_setKind 8 = .ok (.aload_n 0, 1) := by decide +kernel
theorem dX7_setKind_9 : decode cX7_setKind 9 = .ok (.getfield 11, 3) := by decide +kernel
theorem dX7_setKind_12 : decode cX7_setKind 12 = .ok (.iload_n 1, 1) := by decide +kernel
theorem dX7_setKind_13 : decode cX7_setKind 13 = .ok (.iload_n 2, 1) := by decide +kernel
theorem dX7_setKind_14 : decode cX7_setKind 14 = .ok (.bipush 10, 2) := by decide +kernel
theorem dX7_setKind_16 : decode cX7_setKind 16 = .ok (.idiv, 1) := by decide +kernel
theorem dX7_setKind_17 : decode cX7_setKind 17 = .ok (.iastore, 1) := by decide +kernel
theorem dX7_setKind_18 : decode cX7_setKind 18 = .ok (.aload_n 0, 1) := by decide +kernel
theorem dX7_setKind_19 : decode cX7_setKind 19 = .ok (.getfield 15, 3) := by decide +kernel
theorem dX7_setKind_22 : decode cX7_setKind 22 = .ok (.iload_n 1, 1) := by decide +kernel
theorem dX7_setKind_23 : decode cX7_setKind 23 = .ok (.iload_n 2, 1) := by decide +kernel
theorem dX7_setKind_24 : decode cX7_setKind 24 = .ok (.bipush 10, 2) := by decide +kernel
theorem dX7_setKind_26 : decode cX7_setKind 26 = .ok (.irem, 1) := by decide +kernel
theorem dX7_setKind_27 : decode cX7_setKind 27 = .ok (.iastore, 1) := by decide +kernel
theorem dX7_setKind_28 : decode cX7_setKind 28 = .ok (.return_, 1) := by decide +kernel
set_option maxRecDepth 20000 in
theorem ggX7_place_X7_has : GoodIn wsX7_place wsX7_has := goodIn_r _ [8, 9, 10, 11, 12, 13, 14, 15, 16] (by decide +kernel) (by decide +kernel)
set_option maxRecDepth 20000 in
theorem gX7_place_X7_has : GoodIn wsX7_place (wsV RX7 43 RX7 yX7_has wsX7_has) := goodIn_app (goodIn_of _ (by decide +kernel)) ggX7_place_X7_has
theorem dX7_place_0 : decode cX7_place 0 = .ok (.aload_n 0, 1) := by decide +kernel
theorem dX7_place_1 : decode cX7_place 1 = .ok (.iload_n 1, 1) := by decide +kernel
theorem dX7_place_2 : decode cX7_place 2 = .ok (.invokevirtual 43, 3) := by decide +kernel
theorem dX7_place_5 : decode cX7_place 5 = .ok (.ifCond .eq 35, 3) := by decide +kernel
theorem dX7_place_8 : decode cX7_place 8 = .ok (.aload_n 0, 1) := by decide +kernel
theorem dX7_place_9 : decode cX7_place 9 = .ok (.aload_n 0, 1) := by decide +kernel
theorem dX7_place_10 : decode cX7_place 10 = .ok (.getfield 31, 3) := by decide +kernel
theorem dX7_place_13 : decode cX7_place 13 = .ok (.lconst 1, 1) := by decide +kernel
theorem dX7_place_14 : decode cX7_place 14 = .ok (.aload_n 0, 1) := by decide +kernel
theorem dX7_place_15 : decode cX7_place 15 = .ok (.getfield 18, 3) := by decide +kernel
theorem dX7_place_18 : decode cX7_place 18 = .ok (.iload_n 1, 1) := by decide +kernel
theorem dX7_place_19 : decode cX7_place 19 = .ok (.iaload, 1) := by decide +kernel
theorem dX7_place_20 : decode cX7_place 20 = .ok (.lshl, 1) := by decide +kernel
theorem dX7_place_21 : decode cX7_place 21 = .ok (.ldc2_w 47, 3) := by decide +kernel
theorem dX7_place_24 : decode cX7_place 24 = .ok (.lxor, 1) := by decide +kernel
theorem dX7_place_25 : decode cX7_place 25 = .ok (.land, 1) := by decide +kernel
theorem dX7_place_26 : decode cX7_place 26 = .ok (.lconst 1, 1) := by decide +kernel
theorem dX7_place_27 : decode cX7_place 27 = .ok (.iload_n 2, 1) := by decide +kernel
theorem dX7_place_28 : decode cX7_place 28 = .ok (.lshl, 1) := by decide +kernel
theorem dX7_place_29 : decode cX7_place 29 = .ok (.lor, 1) := by decide +kernel
theorem dX7_place_30 : decode cX7_place 30 = .ok (.putfield 31, 3) := by decide +kernel
theorem dX7_place_33 : decode cX7_place 33 = .ok (.aload_n 0, 1) := by decide +kernel
theorem dX7_place_34 : decode cX7_place 34 = .ok (.getfield 18, 3) := by decide +kernel
theorem dX7_place_37 : decode cX7_place 37 = .ok (.iload_n 1, 1) := by decide +kernel
theorem dX7_place_38 : decode cX7_place 38 = .ok (.iload_n 2, 1) := by decide +kernel
theorem dX7_place_39 : decode cX7_place 39 = .ok (.iastore, 1) := by decide +kernel
theorem dX7_place_40 : decode cX7_place 40 = .ok (.return_, 1) := by decide +kernel
set_option maxRecDepth 20000 in
theorem ggX7_ofThing_X7_has : GoodIn wsX7_ofThing wsX7_has := goodIn_r _ [10, 11, 12, 13, 14, 15, 16, 17, 18] (by decide +kernel) (by decide +kernel)
set_option maxRecDepth 20000 in
theorem gX7_ofThing_X7_has : GoodIn wsX7_ofThing (wsV RX7 43 RX7 yX7_has wsX7_has) := goodIn_app (goodIn_of _ (by decide +kernel)) ggX7_ofThing_X7_has
theorem dX7_ofThing_0 : decode cX7_ofThing 0 = .ok (.aload_n 0, 1) := by decide +kernel
theorem dX7_ofThing_1 : decode cX7_ofThing 1 = .ok (.iload_n 1, 1) := by decide +kernel
theorem dX7_ofThing_2 : decode cX7_ofThing 2 = .ok (.invokevirtual 43, 3) := by decide +kernel
theorem dX7_ofThing_5 : decode cX7_ofThing 5 = .ok (.ifCond .ne 5, 3) := by decide +kernel
theorem dX7_ofThing_8 : decode cX7_ofThing 8 = .ok (.iconst 0, 1) := by decide +kernel
theorem dX7_ofThing_9 : decode cX7_ofThing 9 = .ok (.ireturn, 1) := by decide +kernel
theorem dX7_ofThing_10 : decode cX7_ofThing 10 = .ok (.iload_n 2, 1) := by decide +kernel
theorem dX7_ofThing_11 : decode cX7_ofThing 11 = .ok (.tableswitch 57 0 3 #[29, 36, 43, 50], 29) := by decide +kernel
theorem dX7_ofThing_40 : decode cX7_ofThing 40 = .ok (.aload_n 0, 1) := by decide +kernel
theorem dX7_ofThing_41 : decode cX7_ofThing 41 = .ok (.getfield 11, 3) := by decide +kernel
theorem dX7_ofThing_44 : decode cX7_ofThing 44 = .ok (.iload_n 1, 1) := by decide +kernel
theorem dX7_ofThing_45 : decode cX7_ofThing 45 = .ok (.iaload, 1) := by decide +kernel
theorem dX7_ofThing_46 : decode cX7_ofThing 46 = .ok (.ireturn, 1) := by decide +kernel
theorem dX7_ofThing_47 : decode cX7_ofThing 47 = .ok (.aload_n 0, 1) := by decide +kernel
theorem dX7_ofThing_48 : decode cX7_ofThing 48 = .ok (.getfield 15, 3) := by decide +kernel
theorem dX7_ofThing_51 : decode cX7_ofThing 51 = .ok (.iload_n 1, 1) := by decide +kernel
theorem dX7_ofThing_52 : decode cX7_ofThing 52 = .ok (.iaload, 1) := by decide +kernel
theorem dX7_ofThing_53 : decode cX7_ofThing 53 = .ok (.ireturn, 1) := by decide +kernel
theorem dX7_ofThing_54 : decode cX7_ofThing 54 = .ok (.aload_n 0, 1) := by decide +kernel
theorem dX7_ofThing_55 : decode cX7_ofThing 55 = .ok (.getfield 18, 3) := by decide +kernel
theorem dX7_ofThing_58 : decode cX7_ofThing 58 = .ok (.iload_n 1, 1) := by decide +kernel
theorem dX7_ofThing_59 : decode cX7_ofThing 59 = .ok (.iaload, 1) := by decide +kernel
theorem dX7_ofThing_60 : decode cX7_ofThing 60 = .ok (.ireturn, 1) := by decide +kernel
theorem dX7_ofThing_61 : decode cX7_ofThing 61 = .ok (.aload_n 0, 1) := by decide +kernel
theorem dX7_ofThing_62 : decode cX7_ofThing 62 = .ok (.getfield 21, 3) := by decide +kernel
theorem dX7_ofThing_65 : decode cX7_ofThing 65 = .ok (.iload_n 1, 1) := by decide +kernel
theorem dX7_ofThing_66 : decode cX7_ofThing 66 = .ok (.iaload, 1) := by decide +kernel
theorem dX7_ofThing_67 : decode cX7_ofThing 67 = .ok (.ireturn, 1) := by decide +kernel
theorem dX7_ofThing_68 : decode cX7_ofThing 68 = .ok (.aload_n 0, 1) := by decide +kernel
theorem dX7_ofThing_69 : decode cX7_ofThing 69 = .ok (.getfield 24, 3) := by decide +kernel
theorem dX7_ofThing_72 : decode cX7_ofThing 72 = .ok (.iload_n 1, 1) := by decide +kernel
theorem dX7_ofThing_73 : decode cX7_ofThing 73 = .ok (.iaload, 1) := by decide +kernel
theorem dX7_ofThing_74 : decode cX7_ofThing 74 = .ok (.ireturn, 1) := by decide +kernel
theorem dX7_brokenCount_0 : decode cX7_brokenCount 0 = .ok (.iconst 0, 1) := by decide +kernel
theorem dX7_brokenCount_1 : decode cX7_brokenCount 1 = .ok (.istore_n 1, 1) := by decide +kernel
theorem dX7_brokenCount_2 : decode cX7_brokenCount 2 = .ok (.iconst 0, 1) := by decide +kernel
theorem dX7_brokenCount_3 : decode cX7_brokenCount 3 = .ok (.istore_n 2, 1) := by decide +kernel
theorem dX7_brokenCount_4 : decode cX7_brokenCount 4 = .ok (.iload_n 2, 1) := by decide +kernel
theorem dX7_brokenCount_5 : decode cX7_brokenCount 5 = .ok (.aload_n 0, 1) := by decide +kernel
theorem dX7_brokenCount_6 : decode cX7_brokenCount 6 = .ok (.getfield 27, 3) := by decide +kernel
theorem dX7_brokenCount_9 : decode cX7_brokenCount 9 = .ok (.if_icmp .ge 24, 3) := by decide +kernel
theorem dX7_brokenCount_12 : decode cX7_brokenCount 12 = .ok (.iload_n 2, 1) := by decide +kernel
theorem dX7_brokenCount_13 : decode cX7_brokenCount 13 = .ok (.bipush 6, 2) := by decide +kernel
theorem dX7_brokenCount_15 : decode cX7_brokenCount 15 = .ok (.if_icmp .ge 18, 3) := by decide +kernel
theorem dX7_brokenCount_18 : decode cX7_brokenCount 18 = .ok (.iload_n 1, 1) := by decide +kernel
theorem dX7_brokenCount_19 : decode cX7_brokenCount 19 = .ok (.aload_n 0, 1) := by decide +kernel
theorem dX7_brokenCount_20 : decode cX7_brokenCount 20 = .ok (.getfield 21, 3) := by decide +kernel
theorem dX7_brokenCount_23 : decode cX7_brokenCount 23 = .ok (.iload_n 2, 1) := by decide +kernel
theorem dX7_brokenCount_24 : decode cX7_brokenCount 24 = .ok (.iaload, 1) := by decide +kernel
theorem dX7_brokenCount_25 : decode cX7_brokenCount 25 = .ok (.iadd, 1) := by decide +kernel
theorem dX7_brokenCount_26 : decode cX7_brokenCount 26 = .ok (.istore_n 1, 1) := by decide +kernel
theorem dX7_brokenCount_27 : decode cX7_brokenCount 27 = .ok (.iinc 2 1, 3) := by decide +kernel
theorem dX7_brokenCount_30 : decode cX7_brokenCount 30 = .ok (.goto (-26), 3) := by decide +kernel
theorem dX7_brokenCount_33 : decode cX7_brokenCount 33 = .ok (.iload_n 1, 1) := by decide +kernel
theorem dX7_brokenCount_34 : decode cX7_brokenCount 34 = .ok (.ireturn, 1) := by decide +kernel
theorem dX7_takeOver_0 : decode cX7_takeOver 0 = .ok (.aload_n 0, 1) := by decide +kernel
theorem dX7_takeOver_1 : decode cX7_takeOver 1 = .ok (.aload_n 1, 1) := by decide +kernel
theorem dX7_takeOver_2 : decode cX7_takeOver 2 = .ok (.getfield 27, 3) := by decide +kernel
theorem dX7_takeOver_5 : decode cX7_takeOver 5 = .ok (.putfield 27, 3) := by decide +kernel
theorem dX7_takeOver_8 : decode cX7_takeOver 8 = .ok (.aload_n 0, 1) := by decide +kernel
theorem dX7_takeOver_9 : decode cX7_takeOver 9 = .ok (.aload_n 1, 1) := by decide +kernel
theorem dX7_takeOver_10 : decode cX7_takeOver 10 = .ok (.getfield 31, 3) := by decide +kernel
theorem dX7_takeOver_13 : decode cX7_takeOver 13 = .ok (.putfield 31, 3) := by decide +kernel
theorem dX7_takeOver_16 : decode cX7_takeOver 16 = .ok (.iconst 0, 1) := by decide +kernel
theorem dX7_takeOver_17 : decode cX7_takeOver 17 = .ok (.istore_n 2, 1) := by decide +kernel
theorem dX7_takeOver_18 : decode cX7_takeOver 18 = .ok (.iload_n 2, 1) := by decide +kernel
theorem dX7_takeOver_19 : decode cX7_takeOver 19 = .ok (.bipush 6, 2) := by decide +kernel
theorem dX7_takeOver_21 : decode cX7_takeOver 21 = .ok (.if_icmp .ge 69, 3) := by decide +kernel
theorem dX7_takeOver_24 : decode cX7_takeOver 24 = .ok (.aload_n 0, 1) := by decide +kernel
theorem dX7_takeOver_25 : decode cX7_takeOver 25 = .ok (.getfield 11, 3) := by decide +kernel
theorem dX7_takeOver_28 : decode cX7_takeOver 28 = .ok (.iload_n 2, 1) := by decide +kernel
theorem dX7_takeOver_29 : decode cX7_takeOver 29 = .ok (.aload_n 1, 1) := by decide +kernel
theorem dX7_takeOver_30 : decode cX7_takeOver 30 = .ok (.getfield 11, 3) := by decide +kernel
theorem dX7_takeOver_33 : decode cX7_takeOver 33 = .ok (.iload_n 2, 1) := by decide +kernel
theorem dX7_takeOver_34 : decode cX7_takeOver 34 = .ok (.iaload, 1) := by decide +kernel
theorem dX7_takeOver_35 : decode cX7_takeOver 35 = .ok (.iastore, 1) := by decide +kernel
theorem dX7_takeOver_36 : decode cX7_takeOver 36 = .ok (.aload_n 0, 1) := by decide +kernel
theorem dX7_takeOver_37 : decode cX7_takeOver 37 = .ok (.getfield 15, 3) := by decide +kernel
theorem dX7_takeOver_40 : decode cX7_takeOver 40 = .ok (.iload_n 2, 1) := by decide +kernel
theorem dX7_takeOver_41 : decode cX7_takeOver 41 = .ok (.aload_n 1, 1) := by decide +kernel
theorem dX7_takeOver_42 : decode cX7_takeOver 42 = .ok (.getfield 15, 3) := by decide +kernel
theorem dX7_takeOver_45 : decode cX7_takeOver 45 = .ok (.iload_n 2, 1) := by decide +kernel
theorem dX7_takeOver_46 : decode cX7_takeOver 46 = .ok (.iaload, 1) := by decide +kernel
theorem dX7_takeOver_47 : decode cX7_takeOver 47 = .ok (.iastore, 1) := by decide +kernel
theorem dX7_takeOver_48 : decode cX7_takeOver 48 = .ok (.aload_n 0, 1) := by decide +kernel
theorem dX7_takeOver_49 : decode cX7_takeOver 49 = .ok (.getfield 18, 3) := by decide +kernel
theorem dX7_takeOver_52 : decode cX7_takeOver 52 = .ok (.iload_n 2, 1) := by decide +kernel
theorem dX7_takeOver_53 : decode cX7_takeOver 53 = .ok (.aload_n 1, 1) := by decide +kernel
theorem dX7_takeOver_54 : decode cX7_takeOver 54 = .ok (.getfield 18, 3) := by decide +kernel
theorem dX7_takeOver_57 : decode cX7_takeOver 57 = .ok (.iload_n 2, 1) := by decide +kernel
theorem dX7_takeOver_58 : decode cX7_takeOver 58 = .ok (.iaload, 1) := by decide +kernel
theorem dX7_takeOver_59 : decode cX7_takeOver 59 = .ok (.iastore, 1) := by decide +kernel
theorem dX7_takeOver_60 : decode cX7_takeOver 60 = .ok (.aload_n 0, 1) := by decide +kernel
theorem dX7_takeOver_61 : decode cX7_takeOver 61 = .ok (.getfield 21, 3) := by decide +kernel
theorem dX7_takeOver_64 : decode cX7_takeOver 64 = .ok (.iload_n 2, 1) := by decide +kernel
theorem dX7_takeOver_65 : decode cX7_takeOver 65 = .ok (.aload_n 1, 1) := by decide +kernel
theorem dX7_takeOver_66 : decode cX7_takeOver 66 = .ok (.getfield 21, 3) := by decide +kernel
theorem dX7_takeOver_69 : decode cX7_takeOver 69 = .ok (.iload_n 2, 1) := by decide +kernel
theorem dX7_takeOver_70 : decode cX7_takeOver 70 = .ok (.iaload, 1) := by decide +kernel
theorem dX7_takeOver_71 : decode cX7_takeOver 71 = .ok (.iastore, 1) := by decide +kernel
theorem dX7_takeOver_72 : decode cX7_takeOver 72 = .ok (.aload_n 0, 1) := by decide +kernel
theorem dX7_takeOver_73 : decode cX7_takeOver 73 = .ok (.getfield 24, 3) := by decide +kernel
theorem dX7_takeOver_76 : decode cX7_takeOver 76 = .ok (.iload_n 2, 1) := by decide +kernel
theorem dX7_takeOver_77 : decode cX7_takeOver 77 = .ok (.aload_n 1, 1) := by decide +kernel
theorem dX7_takeOver_78 : decode cX7_takeOver 78 = .ok (.getfield 24, 3) := by decide +kernel
theorem dX7_takeOver_81 : decode cX7_takeOver 81 = .ok (.iload_n 2, 1) := by decide +kernel
theorem dX7_takeOver_82 : decode cX7_takeOver 82 = .ok (.iaload, 1) := by decide +kernel
theorem dX7_takeOver_83 : decode cX7_takeOver 83 = .ok (.iastore, 1) := by decide +kernel
theorem dX7_takeOver_84 : decode cX7_takeOver 84 = .ok (.iinc 2 1, 3) := by decide +kernel
theorem dX7_takeOver_87 : decode cX7_takeOver 87 = .ok (.goto (-69), 3) := by decide +kernel
theorem dX7_takeOver_90 : decode cX7_takeOver 90 = .ok (.return_, 1) := by decide +kernel
set_option maxRecDepth 20000 in
theorem ggX7_fall_X7_has : GoodIn wsX7_fall wsX7_has := goodIn_r _ [11, 12, 38, 39, 40, 41, 42, 43, 44] (by decide +kernel) (by decide +kernel)
set_option maxRecDepth 20000 in
theorem gX7_fall_X7_has : GoodIn wsX7_fall (wsV RX7 43 RX7 yX7_has wsX7_has) := goodIn_app (goodIn_of _ (by decide +kernel)) ggX7_fall_X7_has
set_option maxRecDepth 20000 in
theorem ggX7_fall_X7_roll : GoodIn wsX7_fall wsX7_roll := goodIn_r _ [16, 17, 18, 19, 10, 20, 21, 22, 23, 7, 8, 9, 11, 12, 24, 25, 26, 27, 28, 29, 30, 31, 32, 33, 38, 39, 40, 41, 42, 43, 44] (by decide +kernel) (by decide +kernel)
set_option maxRecDepth 20000 in
theorem gX7_fall_X7_roll : GoodIn wsX7_fall (wsV RX7 49 RX7 yX7_roll wsX7_roll) := goodIn_app (goodIn_of _ (by decide +kernel)) ggX7_fall_X7_roll
set_option maxRecDepth 20000 in
theorem ggX7_fall_X7_slide : GoodIn wsX7_fall wsX7_slide := goodIn_r _ [20, 21, 22, 23, 7, 8, 9, 10, 11, 12, 24, 25, 26, 27, 28, 29, 30, 38, 39, 40, 41, 42, 43, 44] (by decide +kernel) (by decide +kernel)
set_option maxRecDepth 20000 in
theorem gX7_fall_X7_slide : GoodIn wsX7_fall (wsV RX7 53 RX7 yX7_slide wsX7_slide) := goodIn_app (goodIn_of _ (by decide +kernel)) ggX7_fall_X7_slide
set_option maxRecDepth 20000 in
theorem ggX7_fall_X7_walk : GoodIn wsX7_fall wsX7_walk := goodIn_r _ [37, 17, 18, 19, 10, 20, 21, 22, 23, 7, 8, 9, 11, 12, 24, 25, 26, 27, 28, 29, 30, 31, 32, 33, 38, 39, 40, 41, 42, 43, 44] (by decide +kernel) (by decide +kernel)
set_option maxRecDepth 20000 in
theorem gX7_fall_X7_walk : GoodIn wsX7_fall (wsV RX7 57 RX7 yX7_walk wsX7_walk) := goodIn_app (goodIn_of _ (by decide +kernel)) ggX7_fall_X7_walk
set_option maxRecDepth 20000 in
theorem ggX7_fall_X0_turned : GoodIn wsX7_fall wsX0_turned := goodIn_r _ [33] (by decide +kernel) (by decide +kernel)
set_option maxRecDepth 20000 in
theorem gX7_fall_X0_turned : GoodIn wsX7_fall (va_wsS RX7 66 yX0_turned wsX0_turned) := goodIn_app (goodIn_of _ (by decide +kernel)) ggX7_fall_X0_turned
theorem dX7_fall_0 : decode cX7_fall 0 = .ok (.aload_n 0, 1) := by decide +kernel
theorem dX7_fall_1 : decode cX7_fall 1 = .ok (.iload_n 1, 1) := by decide +kernel
theorem dX7_fall_2 : decode cX7_fall 2 = .ok (.invokevirtual 43, 3) := by decide +kernel
theorem dX7_fall_5 : decode cX7_fall 5 = .ok (.ifCond .ne 5, 3) := by decide +kernel
theorem dX7_fall_8 : decode cX7_fall 8 = .ok (.iconst 0, 1) := by decide +kernel
theorem dX7_fall_9 : decode cX7_fall 9 = .ok (.ireturn, 1) := by decide +kernel
theorem dX7_fall_10 : decode cX7_fall 10 = .ok (.aload_n 0, 1) := by decide +kernel
theorem dX7_fall_11 : decode cX7_fall 11 = .ok (.getfield 11, 3) := by decide +kernel
theorem dX7_fall_14 : decode cX7_fall 14 = .ok (.iload_n 1, 1) := by decide +kernel
theorem dX7_fall_15 : decode cX7_fall 15 = .ok (.iaload, 1) := by decide +kernel
theorem dX7_fall_16 : decode cX7_fall 16 = .ok (.tableswitch 152 1 6 #[40, 48, 74, 82, 100, 138], 40) := by decide +kernel
theorem dX7_fall_56 : decode cX7_fall 56 = .ok (.aload_n 0, 1) := by decide +kernel
theorem dX7_fall_57 : decode cX7_fall 57 = .ok (.iload_n 1, 1) := by decide +kernel
theorem dX7_fall_58 : decode cX7_fall 58 = .ok (.iload_n 2, 1) := by decide +kernel
theorem dX7_fall_59 : decode cX7_fall 59 = .ok (.lload_n 3, 1) := by decide +kernel
theorem dX7_fall_60 : decode cX7_fall 60 = .ok (.invokevirtual 49, 3) := by decide +kernel
theorem dX7_fall_63 : decode cX7_fall 63 = .ok (.ireturn, 1) := by decide +kernel
theorem dX7_fall_64 : decode cX7_fall 64 = .ok (.iload_n 2, 1) := by decide +kernel
theorem dX7_fall_65 : decode cX7_fall 65 = .ok (.aload_n 0, 1) := by decide +kernel
theorem dX7_fall_66 : decode cX7_fall 66 = .ok (.getfield 15, 3) := by decide +kernel
theorem dX7_fall_69 : decode cX7_fall 69 = .ok (.iload_n 1, 1) := by decide +kernel
theorem dX7_fall_70 : decode cX7_fall 70 = .ok (.iaload, 1) := by decide +kernel
theorem dX7_fall_71 : decode cX7_fall 71 = .ok (.iconst 4, 1) := by decide +kernel
theorem dX7_fall_72 : decode cX7_fall 72 = .ok (.irem, 1) := by decide +kernel
theorem dX7_fall_73 : decode cX7_fall 73 = .ok (.if_icmp .ne 7, 3) := by decide +kernel
theorem dX7_fall_76 : decode cX7_fall 76 = .ok (.iconst 0, 1) := by decide +kernel
theorem dX7_fall_77 : decode cX7_fall 77 = .ok (.goto 12, 3) := by decide +kernel
theorem dX7_fall_80 : decode cX7_fall 80 = .ok (.aload_n 0, 1) := by decide +kernel
theorem dX7_fall_81 : decode cX7_fall 81 = .ok (.iload_n 1, 1) := by decide +kernel
theorem dX7_fall_82 : decode cX7_fall 82 = .ok (.iload_n 2, 1) := by decide +kernel
theorem dX7_fall_83 : decode cX7_fall 83 = .ok (.bipush 6, 2) := by decide +kernel
theorem dX7_fall_85 : decode cX7_fall 85 = .ok (.lload_n 3, 1) := by decide +kernel
theorem dX7_fall_86 : decode cX7_fall 86 = .ok (.invokevirtual 53, 3) := by decide +kernel
theorem dX7_fall_89 : decode cX7_fall 89 = .ok (.ireturn, 1) := by decide +kernel
theorem dX7_fall_90 : decode cX7_fall 90 = .ok (.aload_n 0, 1) := by decide +kernel
theorem dX7_fall_91 : decode cX7_fall 91 = .ok (.iload_n 1, 1) := by decide +kernel
theorem dX7_fall_92 : decode cX7_fall 92 = .ok (.iload_n 2, 1) := by decide +kernel
theorem dX7_fall_93 : decode cX7_fall 93 = .ok (.lload_n 3, 1) := by decide +kernel
theorem dX7_fall_94 : decode cX7_fall 94 = .ok (.invokevirtual 57, 3) := by decide +kernel
theorem dX7_fall_97 : decode cX7_fall 97 = .ok (.ireturn, 1) := by decide +kernel
theorem dX7_fall_98 : decode cX7_fall 98 = .ok (.aload_n 0, 1) := by decide +kernel
theorem dX7_fall_99 : decode cX7_fall 99 = .ok (.iload_n 1, 1) := by decide +kernel
theorem dX7_fall_100 : decode cX7_fall 100 = .ok (.iload_n 2, 1) := by decide +kernel
theorem dX7_fall_101 : decode cX7_fall 101 = .ok (.lload_n 3, 1) := by decide +kernel
theorem dX7_fall_102 : decode cX7_fall 102 = .ok (.invokevirtual 49, 3) := by decide +kernel
theorem dX7_fall_105 : decode cX7_fall 105 = .ok (.aload_n 0, 1) := by decide +kernel
theorem dX7_fall_106 : decode cX7_fall 106 = .ok (.iload_n 1, 1) := by decide +kernel
theorem dX7_fall_107 : decode cX7_fall 107 = .ok (.iload_n 2, 1) := by decide +kernel
theorem dX7_fall_108 : decode cX7_fall 108 = .ok (.lload_n 3, 1) := by decide +kernel
theorem dX7_fall_109 : decode cX7_fall 109 = .ok (.invokevirtual 49, 3) := by decide +kernel
theorem dX7_fall_112 : decode cX7_fall 112 = .ok (.invokestatic 60, 3) := by decide +kernel
theorem dX7_fall_115 : decode cX7_fall 115 = .ok (.ireturn, 1) := by decide +kernel
theorem dX7_fall_116 : decode cX7_fall 116 = .ok (.aload_n 0, 1) := by decide +kernel
theorem dX7_fall_117 : decode cX7_fall 117 = .ok (.getfield 15, 3) := by decide +kernel
theorem dX7_fall_120 : decode cX7_fall 120 = .ok (.iload_n 1, 1) := by decide +kernel
theorem dX7_fall_121 : decode cX7_fall 121 = .ok (.iaload, 1) := by decide +kernel
theorem dX7_fall_122 : decode cX7_fall 122 = .ok (.iconst 2, 1) := by decide +kernel
theorem dX7_fall_123 : decode cX7_fall 123 = .ok (.irem, 1) := by decide +kernel
theorem dX7_fall_124 : decode cX7_fall 124 = .ok (.iconst 1, 1) := by decide +kernel
theorem dX7_fall_125 : decode cX7_fall 125 = .ok (.if_icmp .eq 15, 3) := by decide +kernel
theorem dX7_fall_128 : decode cX7_fall 128 = .ok (.iload_n 2, 1) := by decide +kernel
theorem dX7_fall_129 : decode cX7_fall 129 = .ok (.aload_n 0, 1) := by decide +kernel
theorem dX7_fall_130 : decode cX7_fall 130 = .ok (.getfield 15, 3) := by decide +kernel
theorem dX7_fall_133 : decode cX7_fall 133 = .ok (.iload_n 1, 1) := by decide +kernel
theorem dX7_fall_134 : decode cX7_fall 134 = .ok (.iaload, 1) := by decide +kernel
theorem dX7_fall_135 : decode cX7_fall 135 = .ok (.iconst 4, 1) := by decide +kernel
theorem dX7_fall_136 : decode cX7_fall 136 = .ok (.irem, 1) := by decide +kernel
theorem dX7_fall_137 : decode cX7_fall 137 = .ok (.if_icmp .ne 7, 3) := by decide +kernel
theorem dX7_fall_140 : decode cX7_fall 140 = .ok (.iconst 0, 1) := by decide +kernel
theorem dX7_fall_141 : decode cX7_fall 141 = .ok (.goto 12, 3) := by decide +kernel
theorem dX7_fall_144 : decode cX7_fall 144 = .ok (.aload_n 0, 1) := by decide +kernel
theorem dX7_fall_145 : decode cX7_fall 145 = .ok (.iload_n 1, 1) := by decide +kernel
theorem dX7_fall_146 : decode cX7_fall 146 = .ok (.iload_n 2, 1) := by decide +kernel
theorem dX7_fall_147 : decode cX7_fall 147 = .ok (.bipush 6, 2) := by decide +kernel
theorem dX7_fall_149 : decode cX7_fall 149 = .ok (.lload_n 3, 1) := by decide +kernel
theorem dX7_fall_150 : decode cX7_fall 150 = .ok (.invokevirtual 53, 3) := by decide +kernel
theorem dX7_fall_153 : decode cX7_fall 153 = .ok (.ireturn, 1) := by decide +kernel
theorem dX7_fall_154 : decode cX7_fall 154 = .ok (.aload_n 0, 1) := by decide +kernel
theorem dX7_fall_155 : decode cX7_fall 155 = .ok (.iload_n 1, 1) := by decide +kernel
theorem dX7_fall_156 : decode cX7_fall 156 = .ok (.iload_n 2, 1) := by decide +kernel
theorem dX7_fall_157 : decode cX7_fall 157 = .ok (.iconst 2, 1) := by decide +kernel
theorem dX7_fall_158 : decode cX7_fall 158 = .ok (.invokestatic 66, 3) := by decide +kernel
theorem dX7_fall_161 : decode cX7_fall 161 = .ok (.bipush 6, 2) := by decide +kernel
theorem dX7_fall_163 : decode cX7_fall 163 = .ok (.lload_n 3, 1) := by decide +kernel
theorem dX7_fall_164 : decode cX7_fall 164 = .ok (.invokevirtual 53, 3) := by decide +kernel
theorem dX7_fall_167 : decode cX7_fall 167 = .ok (.ireturn, 1) := by decide +kernel
theorem dX7_fall_168 : decode cX7_fall 168 = .ok (.aload_n 0, 1) := by decide +kernel
theorem dX7_fall_169 : decode cX7_fall 169 = .ok (.iload_n 1, 1) := by decide +kernel
theorem dX7_fall_170 : decode cX7_fall 170 = .ok (.iload_n 2, 1) := by decide +kernel
theorem dX7_fall_171 : decode cX7_fall 171 = .ok (.bipush 6, 2) := by decide +kernel
theorem dX7_fall_173 : decode cX7_fall 173 = .ok (.lload_n 3, 1) := by decide +kernel
theorem dX7_fall_174 : decode cX7_fall 174 = .ok (.invokevirtual 53, 3) := by decide +kernel
theorem dX7_fall_177 : decode cX7_fall 177 = .ok (.ireturn, 1) := by decide +kernel
set_option maxRecDepth 20000 in
theorem ggX7_roll_X7_slide : GoodIn wsX7_roll wsX7_slide := goodIn_r _ [5, 6, 7, 8, 9, 10, 11, 4, 12, 13, 14, 15, 16, 17, 18, 19, 20, 24, 25, 26, 27, 28, 29, 30] (by decide +kernel) (by decide +kernel)
set_option maxRecDepth 20000 in
theorem gX7_roll_X7_slide : GoodIn wsX7_roll (wsV RX7 53 RX7 yX7_slide wsX7_slide) := goodIn_app (goodIn_of _ (by decide +kernel)) ggX7_roll_X7_slide
set_option maxRecDepth 20000 in
theorem ggX7_roll_X0_turned : GoodIn wsX7_roll wsX0_turned := goodIn_r _ [23] (by decide +kernel) (by decide +kernel)
set_option maxRecDepth 20000 in
theorem gX7_roll_X0_turned : GoodIn wsX7_roll (va_wsS RX7 66 yX0_turned wsX0_turned) := goodIn_app (goodIn_of _ (by decide +kernel)) ggX7_roll_X0_turned
theorem dX7_roll_0 : decode cX7_roll 0 = .ok (.aload_n 0, 1) := by decide +kernel
theorem dX7_roll_1 : decode cX7_roll 1 = .ok (.iload_n 1, 1) := by decide +kernel
theorem dX7_roll_2 : decode cX7_roll 2 = .ok (.iload_n 2, 1) := by decide +kernel
theorem dX7_roll_3 : decode cX7_roll 3 = .ok (.bipush 6, 2) := by decide +kernel
theorem dX7_roll_5 : decode cX7_roll 5 = .ok (.lload_n 3, 1) := by decide +kernel
theorem dX7_roll_6 : decode cX7_roll 6 = .ok (.invokevirtual 53, 3) := by decide +kernel
theorem dX7_roll_9 : decode cX7_roll 9 = .ok (.istore 5, 2) := by decide +kernel
theorem dX7_roll_11 : decode cX7_roll 11 = .ok (.aload_n 0, 1) := by decide +kernel
theorem dX7_roll_12 : decode cX7_roll 12 = .ok (.iload_n 1, 1) := by decide +kernel
theorem dX7_roll_13 : decode cX7_roll 13 = .ok (.iload_n 2, 1) := by decide +kernel
theorem dX7_roll_14 : decode cX7_roll 14 = .ok (.iconst 1, 1) := by decide +kernel
theorem dX7_roll_15 : decode cX7_roll 15 = .ok (.invokestatic 66, 3) := by decide +kernel
theorem dX7_roll_18 : decode cX7_roll 18 = .ok (.iconst 1, 1) := by decide +kernel
theorem dX7_roll_19 : decode cX7_roll 19 = .ok (.lload_n 3, 1) := by decide +kernel
theorem dX7_roll_20 : decode cX7_roll 20 = .ok (.invokevirtual 53, 3) := by decide +kernel
theorem dX7_roll_23 : decode cX7_roll 23 = .ok (.pop, 1) := by decide +kernel
theorem dX7_roll_24 : decode cX7_roll 24 = .ok (.iload 5, 2) := by decide +kernel
theorem dX7_roll_26 : decode cX7_roll 26 = .ok (.ireturn, 1) := by decide +kernel
set_option maxRecDepth 20000 in
theorem ggX7_walk_X7_slide : GoodIn wsX7_walk wsX7_slide := goodIn_r _ [5, 6, 7, 8, 9, 10, 11, 4, 12, 13, 14, 15, 16, 17, 18, 19, 20, 24, 25, 26, 27, 28, 29, 30] (by decide +kernel) (by decide +kernel)
set_option maxRecDepth 20000 in
theorem gX7_walk_X7_slide : GoodIn wsX7_walk (wsV RX7 53 RX7 yX7_slide wsX7_slide) := goodIn_app (goodIn_of _ (by decide +kernel)) ggX7_walk_X7_slide
set_option maxRecDepth 20000 in
theorem ggX7_walk_X0_turned : GoodIn wsX7_walk wsX0_turned := goodIn_r _ [23] (by decide +kernel) (by decide +kernel)
set_option maxRecDepth 20000 in
theorem gX7_walk_X0_turned : GoodIn wsX7_walk (va_wsS RX7 66 yX0_turned wsX0_turned) := goodIn_app (goodIn_of _ (by decide +kernel)) ggX7_walk_X0_turned
theorem dX7_walk_0 : decode cX7_walk 0 = .ok (.aload_n 0, 1) := by decide +kernel
theorem dX7_walk_1 : decode cX7_walk 1 = .ok (.iload_n 1, 1) := by decide +kernel
theorem dX7_walk_2 : decode cX7_walk 2 = .ok (.iload_n 2, 1) := by decide +kernel
theorem dX7_walk_3 : decode cX7_walk 3 = .ok (.iconst 1, 1) := by decide +kernel
theorem dX7_walk_4 : decode cX7_walk 4 = .ok (.lload_n 3, 1) := by decide +kernel
theorem dX7_walk_5 : decode cX7_walk 5 = .ok (.invokevirtual 53, 3) := by decide +kernel
theorem dX7_walk_8 : decode cX7_walk 8 = .ok (.istore 5, 2) := by decide +kernel
theorem dX7_walk_10 : decode cX7_walk 10 = .ok (.iload 5, 2) := by decide +kernel
theorem dX7_walk_12 : decode cX7_walk 12 = .ok (.ifCond .ne 16, 3) := by decide +kernel
theorem dX7_walk_15 : decode cX7_walk 15 = .ok (.aload_n 0, 1) := by decide +kernel
theorem dX7_walk_16 : decode cX7_walk 16 = .ok (.iload_n 1, 1) := by decide +kernel
theorem dX7_walk_17 : decode cX7_walk 17 = .ok (.iload_n 2, 1) := by decide +kernel
theorem dX7_walk_18 : decode cX7_walk 18 = .ok (.iconst 1, 1) := by decide +kernel
theorem dX7_walk_19 : decode cX7_walk 19 = .ok (.invokestatic 66, 3) := by decide +kernel
theorem dX7_walk_22 : decode cX7_walk 22 = .ok (.iconst 1, 1) := by decide +kernel
theorem dX7_walk_23 : decode cX7_walk 23 = .ok (.lload_n 3, 1) := by decide +kernel
theorem dX7_walk_24 : decode cX7_walk 24 = .ok (.invokevirtual 53, 3) := by decide +kernel
theorem dX7_walk_27 : decode cX7_walk 27 = .ok (.pop, 1) := by decide +kernel
theorem dX7_walk_28 : decode cX7_walk 28 = .ok (.iload 5, 2) := by decide +kernel
theorem dX7_walk_30 : decode cX7_walk 30 = .ok (.ireturn, 1) := by decide +kernel
set_option maxRecDepth 20000 in
theorem ggX7_slide_X7_has : GoodIn wsX7_slide wsX7_has := goodIn_r _ [8, 9, 17, 18, 19, 20, 21, 22, 23] (by decide +kernel) (by decide +kernel)
set_option maxRecDepth 20000 in
theorem gX7_slide_X7_has : GoodIn wsX7_slide (wsV RX7 43 RX7 yX7_has wsX7_has) := goodIn_app (goodIn_of _ (by decide +kernel)) ggX7_slide_X7_has
set_option maxRecDepth 20000 in
theorem ggX7_slide_X0_next : GoodIn wsX7_slide wsX0_next := goodIn_r _ [13] (by decide +kernel) (by decide +kernel)
set_option maxRecDepth 20000 in
theorem gX7_slide_X0_next : GoodIn wsX7_slide (va_wsS RX7 69 yX0_next wsX0_next) := goodIn_app (goodIn_of _ (by decide +kernel)) ggX7_slide_X0_next
set_option maxRecDepth 20000 in
theorem ggX7_slide_X0_isIn : GoodIn wsX7_slide wsX0_isIn := goodIn_r _ [16] (by decide +kernel) (by decide +kernel)
set_option maxRecDepth 20000 in
theorem gX7_slide_X0_isIn : GoodIn wsX7_slide (va_wsS RX7 72 yX0_isIn wsX0_isIn) := goodIn_app (goodIn_of _ (by decide +kernel)) ggX7_slide_X0_isIn
theorem dX7_slide_0 : decode cX7_slide 0 = .ok (.aload_n 0, 1) := by decide +kernel
theorem dX7_slide_1 : decode cX7_slide 1 = .ok (.iload_n 1, 1) := by decide +kernel
theorem dX7_slide_2 : decode cX7_slide 2 = .ok (.invokevirtual 43, 3) := by decide +kernel
theorem dX7_slide_5 : decode cX7_slide 5 = .ok (.ifCond .ne 5, 3) := by decide +kernel
theorem dX7_slide_8 : decode cX7_slide 8 = .ok (.iconst 0, 1) := by decide +kernel
theorem dX7_slide_9 : decode cX7_slide 9 = .ok (.ireturn, 1) := by decide +kernel
theorem dX7_slide_10 : decode cX7_slide 10 = .ok (.lload 4, 2) := by decide +kernel
theorem dX7_slide_12 : decode cX7_slide 12 = .ok (.aload_n 0, 1) := by decide +kernel
theorem dX7_slide_13 : decode cX7_slide 13 = .ok (.getfield 31, 3) := by decide +kernel
theorem dX7_slide_16 : decode cX7_slide 16 = .ok (.lor, 1) := by decide +kernel
theorem dX7_slide_17 : decode cX7_slide 17 = .ok (.lstore 6, 2) := by decide +kernel
theorem dX7_slide_19 : decode cX7_slide 19 = .ok (.aload_n 0, 1) := by decide +kernel
theorem dX7_slide_20 : decode cX7_slide 20 = .ok (.getfield 18, 3) := by decide +kernel
theorem dX7_slide_23 : decode cX7_slide 23 = .ok (.iload_n 1, 1) := by decide +kernel
theorem dX7_slide_24 : decode cX7_slide 24 = .ok (.iaload, 1) := by decide +kernel
theorem dX7_slide_25 : decode cX7_slide 25 = .ok (.istore 8, 2) := by decide +kernel
theorem dX7_slide_27 : decode cX7_slide 27 = .ok (.iload 8, 2) := by decide +kernel
theorem dX7_slide_29 : decode cX7_slide 29 = .ok (.istore 9, 2) := by decide +kernel
theorem dX7_slide_31 : decode cX7_slide 31 = .ok (.iconst 0, 1) := by decide +kernel
theorem dX7_slide_32 : decode cX7_slide 32 = .ok (.istore 10, 2) := by decide +kernel
theorem dX7_slide_34 : decode cX7_slide 34 = .ok (.iconst 0, 1) := by decide +kernel
theorem dX7_slide_35 : decode cX7_slide 35 = .ok (.istore 11, 2) := by decide +kernel
theorem dX7_slide_37 : decode cX7_slide 37 = .ok (.iload 11, 2) := by decide +kernel
theorem dX7_slide_39 : decode cX7_slide 39 = .ok (.iload_n 3, 1) := by decide +kernel
theorem dX7_slide_40 : decode cX7_slide 40 = .ok (.if_icmp .ge 42, 3) := by decide +kernel
theorem dX7_slide_43 : decode cX7_slide 43 = .ok (.iload 9, 2) := by decide +kernel
theorem dX7_slide_45 : decode cX7_slide 45 = .ok (.iload_n 2, 1) := by decide +kernel
theorem dX7_slide_46 : decode cX7_slide 46 = .ok (.invokestatic 69, 3) := by decide +kernel
theorem dX7_slide_49 : decode cX7_slide 49 = .ok (.istore 12, 2) := by decide +kernel
theorem dX7_slide_51 : decode cX7_slide 51 = .ok (.iload 12, 2) := by decide +kernel
theorem dX7_slide_53 : decode cX7_slide 53 = .ok (.ifCond .lt 29, 3) := by decide +kernel
theorem dX7_slide_56 : decode cX7_slide 56 = .ok (.lload 6, 2) := by decide +kernel
theorem dX7_slide_58 : decode cX7_slide 58 = .ok (.iload 12, 2) := by decide +kernel
theorem dX7_slide_60 : decode cX7_slide 60 = .ok (.invokestatic 72, 3) := by decide +kernel
theorem dX7_slide_63 : decode cX7_slide 63 = .ok (.ifCond .eq 6, 3) := by decide +kernel
theorem dX7_slide_66 : decode cX7_slide 66 = .ok (.goto 16, 3) := by decide +kernel
theorem dX7_slide_69 : decode cX7_slide 69 = .ok (.iload 12, 2) := by decide +kernel
theorem dX7_slide_71 : decode cX7_slide 71 = .ok (.istore 9, 2) := by decide +kernel
theorem dX7_slide_73 : decode cX7_slide 73 = .ok (.iinc 10 1, 3) := by decide +kernel
theorem dX7_slide_76 : decode cX7_slide 76 = .ok (.iinc 11 1, 3) := by decide +kernel
theorem dX7_slide_79 : decode cX7_slide 79 = .ok (.goto (-42), 3) := by decide +kernel
theorem dX7_slide_82 : decode cX7_slide 82 = .ok (.aload_n 0, 1) := by decide +kernel
theorem dX7_slide_83 : decode cX7_slide 83 = .ok (.aload_n 0, 1) := by decide +kernel
theorem dX7_slide_84 : decode cX7_slide 84 = .ok (.getfield 31, 3) := by decide +kernel
theorem dX7_slide_87 : decode cX7_slide 87 = .ok (.lconst 1, 1) := by decide +kernel
theorem dX7_slide_88 : decode cX7_slide 88 = .ok (.iload 8, 2) := by decide +kernel
theorem dX7_slide_90 : decode cX7_slide 90 = .ok (.lshl, 1) := by decide +kernel
theorem dX7_slide_91 : decode cX7_slide 91 = .ok (.ldc2_w 47, 3) := by decide +kernel
theorem dX7_slide_94 : decode cX7_slide 94 = .ok (.lxor, 1) := by decide +kernel
theorem dX7_slide_95 : decode cX7_slide 95 = .ok (.land, 1) := by decide +kernel
theorem dX7_slide_96 : decode cX7_slide 96 = .ok (.lconst 1, 1) := by decide +kernel
theorem dX7_slide_97 : decode cX7_slide 97 = .ok (.iload 9, 2) := by decide +kernel
theorem dX7_slide_99 : decode cX7_slide 99 = .ok (.lshl, 1) := by decide +kernel
theorem dX7_slide_100 : decode cX7_slide 100 = .ok (.lor, 1) := by decide +kernel
theorem dX7_slide_101 : decode cX7_slide 101 = .ok (.putfield 31, 3) := by decide +kernel
theorem dX7_slide_104 : decode cX7_slide 104 = .ok (.aload_n 0, 1) := by decide +kernel
theorem dX7_slide_105 : decode cX7_slide 105 = .ok (.getfield 18, 3) := by decide +kernel
theorem dX7_slide_108 : decode cX7_slide 108 = .ok (.iload_n 1, 1) := by decide +kernel
theorem dX7_slide_109 : decode cX7_slide 109 = .ok (.iload 9, 2) := by decide +kernel
theorem dX7_slide_111 : decode cX7_slide 111 = .ok (.iastore, 1) := by decide +kernel
theorem dX7_slide_112 : decode cX7_slide 112 = .ok (.iload 10, 2) := by decide +kernel
theorem dX7_slide_114 : decode cX7_slide 114 = .ok (.ireturn, 1) := by decide +kernel
set_option maxRecDepth 20000 in
theorem ggX8_init_X7_init : GoodIn wsX8_init wsX7_init := goodIn_r _ [14, 15, 2, 3, 8, 16, 17, 18, 19, 20, 21, 22, 23, 24, 25, 26, 27, 28, 29] (by decide +kernel) (by decide +kernel)
set_option maxRecDepth 20000 in
theorem gX8_init_X7_init_n11 : GoodIn wsX8_init (wsX7_init) := ggX8_init_X7_init
theorem dX8_init_0 : decode cX8_init 0 = .ok (.aload_n 0, 1) := by decide +kernel
theorem dX8_init_1 : decode cX8_init 1 = .ok (.invokespecial 3, 3) := by decide +kernel
theorem dX8_init_4 : decode cX8_init 4 = .ok (.aload_n 0, 1) := by decide +kernel
theorem dX8_init_5 : decode cX8_init 5 = .ok (.new 9, 3) := by decide +kernel
theorem dX8_init_8 : decode cX8_init 8 = .ok (.dup, 1) := by decide +kernel
theorem dX8_init_9 : decode cX8_init 9 = .ok (.invokespecial 11, 3) := by decide +kernel
theorem dX8_init_12 : decode cX8_init 12 = .ok (.putfield 12, 3) := by decide +kernel
theorem dX8_init_15 : decode cX8_init 15 = .ok (.aload_n 0, 1) := by decide +kernel
theorem dX8_init_16 : decode cX8_init 16 = .ok (.bipush 100, 2) := by decide +kernel
theorem dX8_init_18 : decode cX8_init 18 = .ok (.newarray .int, 2) := by decide +kernel
theorem dX8_init_20 : decode cX8_init 20 = .ok (.putfield 18, 3) := by decide +kernel
theorem dX8_init_23 : decode cX8_init 23 = .ok (.aload_n 0, 1) := by decide +kernel
theorem dX8_init_24 : decode cX8_init 24 = .ok (.iconst 0, 1) := by decide +kernel
theorem dX8_init_25 : decode cX8_init 25 = .ok (.putfield 22, 3) := by decide +kernel
theorem dX8_init_28 : decode cX8_init 28 = .ok (.aload_n 0, 1) := by decide +kernel
theorem dX8_init_29 : decode cX8_init 29 = .ok (.iconst (-1), 1) := by decide +kernel
theorem dX8_init_30 : decode cX8_init 30 = .ok (.putfield 26, 3) := by decide +kernel
theorem dX8_init_33 : decode cX8_init 33 = .ok (.aload_n 0, 1) := by decide +kernel
theorem dX8_init_34 : decode cX8_init 34 = .ok (.iconst 0, 1) := by decide +kernel
theorem dX8_init_35 : decode cX8_init 35 = .ok (.putfield 29, 3) := by decide +kernel
theorem dX8_init_38 : decode cX8_init 38 = .ok (.return_, 1) := by decide +kernel
set_option maxRecDepth 20000 in
theorem ggX8_foresee_X1_pullAt : GoodIn wsX8_foresee wsX1_pullAt := goodIn_r _ [6, 7, 8, 9, 10, 11, 5, 12, 13, 14, 15, 16, 17, 18, 19, 20, 21, 22, 23, 24, 25, 26, 27, 28, 29, 30, 31, 32, 33, 34, 35, 41, 42, 43, 44, 45, 46, 47, 48, 49, 50, 51, 52, 53, 54, 55, 56, 57, 58, 59, 60] (by decide +kernel) (by decide +kernel)
set_option maxRecDepth 20000 in
theorem gX8_foresee_X1_pullAt : GoodIn wsX8_foresee (wsV RX8 32 RX1 yX1_pullAt wsX1_pullAt) := goodIn_app (goodIn_of _ (by decide +kernel)) ggX8_foresee_X1_pullAt
theorem dX8_foresee_0 : decode cX8_foresee 0 = .ok (.iconst 0, 1) := by decide +kernel
theorem dX8_foresee_1 : decode cX8_foresee 1 = .ok (.istore 4, 2) := by decide +kernel
theorem dX8_foresee_3 : decode cX8_foresee 3 = .ok (.iload 4, 2) := by decide +kernel
theorem dX8_foresee_5 : decode cX8_foresee 5 = .ok (.iload_n 3, 1) := by decide +kernel
theorem dX8_foresee_6 : decode cX8_foresee 6 = .ok (.if_icmp .ge 31, 3) := by decide +kernel
theorem dX8_foresee_9 : decode cX8_foresee 9 = .ok (.iload 4, 2) := by decide +kernel
theorem dX8_foresee_11 : decode cX8_foresee 11 = .ok (.bipush 100, 2) := by decide +kernel
theorem dX8_foresee_13 : decode cX8_foresee 13 = .ok (.if_icmp .ge 24, 3) := by decide +kernel
theorem dX8_foresee_16 : decode cX8_foresee 16 = .ok (.aload_n 0, 1) := by decide +kernel
theorem dX8_foresee_17 : decode cX8_foresee 17 = .ok (.getfield 18, 3) := by decide +kernel
theorem dX8_foresee_20 : decode cX8_foresee 20 = .ok (.iload 4, 2) := by decide +kernel
theorem dX8_foresee_22 : decode cX8_foresee 22 = .ok (.aload_n 1, 1) := by decide +kernel
theorem dX8_foresee_23 : decode cX8_foresee 23 = .ok (.iload_n 2, 1) := by decide +kernel
theorem dX8_foresee_24 : decode cX8_foresee 24 = .ok (.iload 4, 2) := by decide +kernel
theorem dX8_foresee_26 : decode cX8_foresee 26 = .ok (.iadd, 1) := by decide +kernel
theorem dX8_foresee_27 : decode cX8_foresee 27 = .ok (.invokevirtual 32, 3) := by decide +kernel
theorem dX8_foresee_30 : decode cX8_foresee 30 = .ok (.iastore, 1) := by decide +kernel
theorem dX8_foresee_31 : decode cX8_foresee 31 = .ok (.iinc 4 1, 3) := by decide +kernel
theorem dX8_foresee_34 : decode cX8_foresee 34 = .ok (.goto (-31), 3) := by decide +kernel
theorem dX8_foresee_37 : decode cX8_foresee 37 = .ok (.return_, 1) := by decide +kernel
theorem dX8_pullOf_0 : decode cX8_pullOf 0 = .ok (.iload_n 1, 1) := by decide +kernel
theorem dX8_pullOf_1 : decode cX8_pullOf 1 = .ok (.ifCond .lt 18, 3) := by decide +kernel
theorem dX8_pullOf_4 : decode cX8_pullOf 4 = .ok (.iload_n 1, 1) := by decide +kernel
theorem dX8_pullOf_5 : decode cX8_pullOf 5 = .ok (.bipush 100, 2) := by decide +kernel
theorem dX8_pullOf_7 : decode cX8_pullOf 7 = .ok (.if_icmp .ge 12, 3) := by decide +kernel
theorem dX8_pullOf_10 : decode cX8_pullOf 10 = .ok (.aload_n 0, 1) := by decide +kernel
theorem dX8_pullOf_11 : decode cX8_pullOf 11 = .ok (.getfield 18, 3) := by decide +kernel
theorem dX8_pullOf_14 : decode cX8_pullOf 14 = .ok (.iload_n 1, 1) := by decide +kernel
theorem dX8_pullOf_15 : decode cX8_pullOf 15 = .ok (.iaload, 1) := by decide +kernel
theorem dX8_pullOf_16 : decode cX8_pullOf 16 = .ok (.goto 4, 3) := by decide +kernel
theorem dX8_pullOf_19 : decode cX8_pullOf 19 = .ok (.iconst 0, 1) := by decide +kernel
theorem dX8_pullOf_20 : decode cX8_pullOf 20 = .ok (.ireturn, 1) := by decide +kernel
set_option maxRecDepth 20000 in
theorem ggX8_cellBehind_X7_takeOver : GoodIn wsX8_cellBehind wsX7_takeOver := goodIn_r _ [8, 9, 10, 11, 12, 13, 14, 15, 81, 82, 83, 84, 85, 86, 87] (by decide +kernel) (by decide +kernel)
set_option maxRecDepth 20000 in
theorem gX8_cellBehind_X7_takeOver : GoodIn wsX8_cellBehind (wsV RX8 39 RX7 yX7_takeOver wsX7_takeOver) := goodIn_app (goodIn_of _ (by decide +kernel)) ggX8_cellBehind_X7_takeOver
set_option maxRecDepth 20000 in
theorem ggX8_cellBehind_X8_passHour : GoodIn wsX8_cellBehind wsX8_passHour := goodIn_r _ [20, 1, 21, 22, 23, 24, 25, 26, 27, 28, 29, 30, 19, 31, 32, 33, 34, 35, 7, 36, 11, 12, 37, 38, 39, 40, 41, 9, 42, 43, 44, 45, 46, 47, 48, 49, 10, 13, 50, 51, 52, 53, 54, 55, 56, 57, 58, 59, 60, 61, 62, 63, 64, 66, 67, 68, 69, 70, 81, 82, 83, 84, 85, 86, 87, 71, 72, 73, 74, 75, 76, 77, 78, 79, 80] (by decide +kernel) (by decide +kernel)
set_option maxRecDepth 20000 in
theorem gX8_cellBehind_X8_passHour : GoodIn wsX8_cellBehind (wsV RX8 43 RX8 yX8_passHour wsX8_passHour) := goodIn_app (goodIn_of _ (by decide +kernel)) ggX8_cellBehind_X8_passHour
set_option maxRecDepth 20000 in
theorem ggX8_cellBehind_X7_has : GoodIn wsX8_cellBehind wsX7_has := goodIn_r _ [41, 9, 81, 82, 83, 84, 85, 86, 87] (by decide +kernel) (by decide +kernel)
set_option maxRecDepth 20000 in
theorem gX8_cellBehind_X7_has : GoodIn wsX8_cellBehind (wsV RX8 47 RX7 yX7_has wsX7_has) := goodIn_app (goodIn_of _ (by decide +kernel)) ggX8_cellBehind_X7_has
theorem dX8_cellBehind_0 : decode cX8_cellBehind 0 = .ok (.aload_n 0, 1) := by decide +kernel
theorem dX8_cellBehind_1 : decode cX8_cellBehind 1 = .ok (.getfield 12, 3) := by decide +kernel
theorem dX8_cellBehind_4 : decode cX8_cellBehind 4 = .ok (.aload_n 1, 1) := by decide +kernel
theorem dX8_cellBehind_5 : decode cX8_cellBehind 5 = .ok (.getfield 38, 3) := by decide +kernel
theorem dX8_cellBehind_8 : decode cX8_cellBehind 8 = .ok (.invokevirtual 39, 3) := by decide +kernel
theorem dX8_cellBehind_11 : decode cX8_cellBehind 11 = .ok (.iconst 0, 1) := by decide +kernel
theorem dX8_cellBehind_12 : decode cX8_cellBehind 12 = .ok (.istore 4, 2) := by decide +kernel
theorem dX8_cellBehind_14 : decode cX8_cellBehind 14 = .ok (.iload 4, 2) := by decide +kernel
theorem dX8_cellBehind_16 : decode cX8_cellBehind 16 = .ok (.iload_n 3, 1) := by decide +kernel
theorem dX8_cellBehind_17 : decode cX8_cellBehind 17 = .ok (.if_icmp .ge 18, 3) := by decide +kernel
theorem dX8_cellBehind_20 : decode cX8_cellBehind 20 = .ok (.aload_n 0, 1) := by decide +kernel
theorem dX8_cellBehind_21 : decode cX8_cellBehind 21 = .ok (.aload_n 1, 1) := by decide +kernel
theorem dX8_cellBehind_22 : decode cX8_cellBehind 22 = .ok (.iload 4, 2) := by decide +kernel
theorem dX8_cellBehind_24 : decode cX8_cellBehind 24 = .ok (.iconst 0, 1) := by decide +kernel
theorem dX8_cellBehind_25 : decode cX8_cellBehind 25 = .ok (.invokevirtual 43, 3) := by decide +kernel
theorem dX8_cellBehind_28 : decode cX8_cellBehind 28 = .ok (.pop, 1) := by decide +kernel
theorem dX8_cellBehind_29 : decode cX8_cellBehind 29 = .ok (.iinc 4 1, 3) := by decide +kernel
theorem dX8_cellBehind_32 : decode cX8_cellBehind 32 = .ok (.goto (-18), 3) := by decide +kernel
theorem dX8_cellBehind_35 : decode cX8_cellBehind 35 = .ok (.aload_n 0, 1) := by decide +kernel
theorem dX8_cellBehind_36 : decode cX8_cellBehind 36 = .ok (.getfield 12, 3) := by decide +kernel
theorem dX8_cellBehind_39 : decode cX8_cellBehind 39 = .ok (.iload_n 2, 1) := by decide +kernel
theorem dX8_cellBehind_40 : decode cX8_cellBehind 40 = .ok (.invokevirtual 47, 3) := by decide +kernel
theorem dX8_cellBehind_43 : decode cX8_cellBehind 43 = .ok (.ifCond .eq 15, 3) := by decide +kernel
theorem dX8_cellBehind_46 : decode cX8_cellBehind 46 = .ok (.aload_n 0, 1) := by decide +kernel
theorem dX8_cellBehind_47 : decode cX8_cellBehind 47 = .ok (.getfield 12, 3) := by decide +kernel
theorem dX8_cellBehind_50 : decode cX8_cellBehind 50 = .ok (.getfield 51, 3) := by decide +kernel
theorem dX8_cellBehind_53 : decode cX8_cellBehind 53 = .ok (.iload_n 2, 1) := by decide +kernel
theorem dX8_cellBehind_54 : decode cX8_cellBehind 54 = .ok (.iaload, 1) := by decide +kernel
theorem dX8_cellBehind_55 : decode cX8_cellBehind 55 = .ok (.goto 4, 3) := by decide +kernel
theorem dX8_cellBehind_58 : decode cX8_cellBehind 58 = .ok (.iconst (-1), 1) := by decide +kernel
theorem dX8_cellBehind_59 : decode cX8_cellBehind 59 = .ok (.ireturn, 1) := by decide +kernel
set_option maxRecDepth 20000 in
theorem ggX8_hoursUntil_X7_takeOver : GoodIn wsX8_hoursUntil wsX7_takeOver := goodIn_r _ [7, 8, 9, 10, 11, 12, 13, 14, 83, 84, 85, 86, 87, 88, 89] (by decide +kernel) (by decide +kernel)
set_option maxRecDepth 20000 in
theorem gX8_hoursUntil_X7_takeOver : GoodIn wsX8_hoursUntil (wsV RX8 39 RX7 yX7_takeOver wsX7_takeOver) := goodIn_app (goodIn_of _ (by decide +kernel)) ggX8_hoursUntil_X7_takeOver
set_option maxRecDepth 20000 in
theorem ggX8_hoursUntil_X7_inCell : GoodIn wsX8_hoursUntil wsX7_inCell := goodIn_r _ [18, 8, 12, 83, 84, 85, 86, 87, 88, 89] (by decide +kernel) (by decide +kernel)
set_option maxRecDepth 20000 in
theorem gX8_hoursUntil_X7_inCell : GoodIn wsX8_hoursUntil (wsV RX8 54 RX7 yX7_inCell wsX7_inCell) := goodIn_app (goodIn_of _ (by decide +kernel)) ggX8_hoursUntil_X7_inCell
set_option maxRecDepth 20000 in
theorem ggX8_hoursUntil_X8_passHour : GoodIn wsX8_hoursUntil wsX8_passHour := goodIn_r _ [23, 1, 24, 25, 26, 27, 28, 29, 30, 31, 32, 33, 22, 34, 35, 36, 37, 38, 6, 39, 10, 11, 40, 41, 42, 43, 44, 8, 45, 46, 47, 48, 49, 50, 51, 52, 9, 12, 53, 54, 55, 56, 57, 58, 59, 60, 61, 62, 63, 64, 65, 66, 67, 68, 69, 70, 71, 72, 83, 84, 85, 86, 87, 88, 89, 73, 74, 75, 76, 77, 78, 79, 80, 81, 82] (by decide +kernel) (by decide +kernel)
set_option maxRecDepth 20000 in
theorem gX8_hoursUntil_X8_passHour : GoodIn wsX8_hoursUntil (wsV RX8 43 RX8 yX8_passHour wsX8_passHour) := goodIn_app (goodIn_of _ (by decide +kernel)) ggX8_hoursUntil_X8_passHour
theorem dX8_hoursUntil_0 : decode cX8_hoursUntil 0 = .ok (.aload_n 0, 1) := by decide +kernel
theorem dX8_hoursUntil_1 : decode cX8_hoursUntil 1 = .ok (.getfield 12, 3) := by decide +kernel
theorem dX8_hoursUntil_4 : decode cX8_hoursUntil 4 = .ok (.aload_n 1, 1) := by decide +kernel
theorem dX8_hoursUntil_5 : decode cX8_hoursUntil 5 = .ok (.getfield 38, 3) := by decide +kernel
theorem dX8_hoursUntil_8 : decode cX8_hoursUntil 8 = .ok (.invokevirtual 39, 3) := by decide +kernel
theorem dX8_hoursUntil_11 : decode cX8_hoursUntil 11 = .ok (.iconst 0, 1) := by decide +kernel
theorem dX8_hoursUntil_12 : decode cX8_hoursUntil 12 = .ok (.istore 5, 2) := by decide +kernel
theorem dX8_hoursUntil_14 : decode cX8_hoursUntil 14 = .ok (.iload 5, 2) := by decide +kernel
theorem dX8_hoursUntil_16 : decode cX8_hoursUntil 16 = .ok (.iload 4, 2) := by decide +kernel
theorem dX8_hoursUntil_18 : decode cX8_hoursUntil 18 = .ok (.if_icmp .ge 33, 3) := by decide +kernel
theorem dX8_hoursUntil_21 : decode cX8_hoursUntil 21 = .ok (.aload_n 0, 1) := by decide +kernel
theorem dX8_hoursUntil_22 : decode cX8_hoursUntil 22 = .ok (.getfield 12, 3) := by decide +kernel
theorem dX8_hoursUntil_25 : decode cX8_hoursUntil 25 = .ok (.iload_n 3, 1) := by decide +kernel
theorem dX8_hoursUntil_26 : decode cX8_hoursUntil 26 = .ok (.invokevirtual 54, 3) := by decide +kernel
theorem dX8_hoursUntil_29 : decode cX8_hoursUntil 29 = .ok (.iload_n 2, 1) := by decide +kernel
theorem dX8_hoursUntil_30 : decode cX8_hoursUntil 30 = .ok (.if_icmp .ne 6, 3) := by decide +kernel
theorem dX8_hoursUntil_33 : decode cX8_hoursUntil 33 = .ok (.iload 5, 2) := by decide +kernel
theorem dX8_hoursUntil_35 : decode cX8_hoursUntil 35 = .ok (.ireturn, 1) := by decide +kernel
theorem dX8_hoursUntil_36 : decode cX8_hoursUntil 36 = .ok (.aload_n 0, 1) := by decide +kernel
theorem dX8_hoursUntil_37 : decode cX8_hoursUntil 37 = .ok (.aload_n 1, 1) := by decide +kernel
theorem dX8_hoursUntil_38 : decode cX8_hoursUntil 38 = .ok (.iload 5, 2) := by decide +kernel
theorem dX8_hoursUntil_40 : decode cX8_hoursUntil 40 = .ok (.iconst 0, 1) := by decide +kernel
theorem dX8_hoursUntil_41 : decode cX8_hoursUntil 41 = .ok (.invokevirtual 43, 3) := by decide +kernel
theorem dX8_hoursUntil_44 : decode cX8_hoursUntil 44 = .ok (.pop, 1) := by decide +kernel
theorem dX8_hoursUntil_45 : decode cX8_hoursUntil 45 = .ok (.iinc 5 1, 3) := by decide +kernel
theorem dX8_hoursUntil_48 : decode cX8_hoursUntil 48 = .ok (.goto (-34), 3) := by decide +kernel
theorem dX8_hoursUntil_51 : decode cX8_hoursUntil 51 = .ok (.aload_n 0, 1) := by decide +kernel
theorem dX8_hoursUntil_52 : decode cX8_hoursUntil 52 = .ok (.getfield 12, 3) := by decide +kernel
theorem dX8_hoursUntil_55 : decode cX8_hoursUntil 55 = .ok (.iload_n 3, 1) := by decide +kernel
theorem dX8_hoursUntil_56 : decode cX8_hoursUntil 56 = .ok (.invokevirtual 54, 3) := by decide +kernel
theorem dX8_hoursUntil_59 : decode cX8_hoursUntil 59 = .ok (.iload_n 2, 1) := by decide +kernel
theorem dX8_hoursUntil_60 : decode cX8_hoursUntil 60 = .ok (.if_icmp .ne 8, 3) := by decide +kernel
theorem dX8_hoursUntil_63 : decode cX8_hoursUntil 63 = .ok (.iload 4, 2) := by decide +kernel
theorem dX8_hoursUntil_65 : decode cX8_hoursUntil 65 = .ok (.goto 4, 3) := by decide +kernel
theorem dX8_hoursUntil_68 : decode cX8_hoursUntil 68 = .ok (.iconst (-1), 1) := by decide +kernel
theorem dX8_hoursUntil_69 : decode cX8_hoursUntil 69 = .ok (.ireturn, 1) := by decide +kernel
set_option maxRecDepth 20000 in
theorem ggX8_fallFarthest_X7_takeOver : GoodIn wsX8_fallFarthest wsX7_takeOver := goodIn_r _ [10, 11, 12, 13, 14, 15, 16, 17, 86, 87, 88, 89, 90, 91, 92] (by decide +kernel) (by decide +kernel)
set_option maxRecDepth 20000 in
theorem gX8_fallFarthest_X7_takeOver : GoodIn wsX8_fallFarthest (wsV RX8 39 RX7 yX7_takeOver wsX7_takeOver) := goodIn_app (goodIn_of _ (by decide +kernel)) ggX8_fallFarthest_X7_takeOver
set_option maxRecDepth 20000 in
theorem ggX8_fallFarthest_X8_passHour : GoodIn wsX8_fallFarthest wsX8_passHour := goodIn_r _ [22, 1, 23, 24, 25, 26, 27, 28, 29, 30, 31, 32, 21, 33, 34, 35, 36, 37, 9, 38, 13, 14, 39, 40, 41, 42, 43, 11, 44, 45, 46, 47, 48, 49, 50, 51, 12, 15, 52, 53, 54, 55, 56, 57, 58, 59, 60, 61, 62, 63, 64, 65, 66, 71, 72, 73, 74, 75, 86, 87, 88, 89, 90, 91, 92, 76, 77, 78, 79, 80, 81, 82, 83, 84, 85] (by decide +kernel) (by decide +kernel)
set_option maxRecDepth 20000 in
theorem gX8_fallFarthest_X8_passHour : GoodIn wsX8_fallFarthest (wsV RX8 43 RX8 yX8_passHour wsX8_passHour) := goodIn_app (goodIn_of _ (by decide +kernel)) ggX8_fallFarthest_X8_passHour
set_option maxRecDepth 20000 in
theorem ggX8_fallFarthest_X8_noteFarthest : GoodIn wsX8_fallFarthest wsX8_noteFarthest := goodIn_r _ [70, 1, 23, 24, 3, 4, 5, 71, 72, 73, 74, 75, 86, 87, 88, 89, 90, 91, 92] (by decide +kernel) (by decide +kernel)
set_option maxRecDepth 20000 in
theorem gX8_fallFarthest_X8_noteFarthest : GoodIn wsX8_fallFarthest (wsV RX8 57 RX8 yX8_noteFarthest wsX8_noteFarthest) := goodIn_app (goodIn_of _ (by decide +kernel)) ggX8_fallFarthest_X8_noteFarthest
theorem dX8_fallFarthest_0 : decode cX8_fallFarthest 0 = .ok (.aload_n 0, 1) := by decide +kernel
theorem dX8_fallFarthest_1 : decode cX8_fallFarthest 1 = .ok (.getfield 12, 3) := by decide +kernel
theorem dX8_fallFarthest_4 : decode cX8_fallFarthest 4 = .ok (.aload_n 1, 1) := by decide +kernel
theorem dX8_fallFarthest_5 : decode cX8_fallFarthest 5 = .ok (.getfield 38, 3) := by decide +kernel
theorem dX8_fallFarthest_8 : decode cX8_fallFarthest 8 = .ok (.invokevirtual 39, 3) := by decide +kernel
theorem dX8_fallFarthest_11 : decode cX8_fallFarthest 11 = .ok (.aload_n 0, 1) := by decide +kernel
theorem dX8_fallFarthest_12 : decode cX8_fallFarthest 12 = .ok (.iconst 0, 1) := by decide +kernel
theorem dX8_fallFarthest_13 : decode cX8_fallFarthest 13 = .ok (.putfield 22, 3) := by decide +kernel
theorem dX8_fallFarthest_16 : decode cX8_fallFarthest 16 = .ok (.aload_n 0, 1) := by decide +kernel
theorem dX8_fallFarthest_17 : decode cX8_fallFarthest 17 = .ok (.iconst (-1), 1) := by decide +kernel
theorem dX8_fallFarthest_18 : decode cX8_fallFarthest 18 = .ok (.putfield 26, 3) := by decide +kernel
theorem dX8_fallFarthest_21 : decode cX8_fallFarthest 21 = .ok (.aload_n 0, 1) := by decide +kernel
theorem dX8_fallFarthest_22 : decode cX8_fallFarthest 22 = .ok (.iconst 0, 1) := by decide +kernel
theorem dX8_fallFarthest_23 : decode cX8_fallFarthest 23 = .ok (.putfield 29, 3) := by decide +kernel
theorem dX8_fallFarthest_26 : decode cX8_fallFarthest 26 = .ok (.iconst 0, 1) := by decide +kernel
theorem dX8_fallFarthest_27 : decode cX8_fallFarthest 27 = .ok (.istore_n 3, 1) := by decide +kernel
theorem dX8_fallFarthest_28 : decode cX8_fallFarthest 28 = .ok (.iload_n 3, 1) := by decide +kernel
theorem dX8_fallFarthest_29 : decode cX8_fallFarthest 29 = .ok (.iload_n 2, 1) := by decide +kernel
theorem dX8_fallFarthest_30 : decode cX8_fallFarthest 30 = .ok (.if_icmp .ge 24, 3) := by decide +kernel
theorem dX8_fallFarthest_33 : decode cX8_fallFarthest 33 = .ok (.aload_n 0, 1) := by decide +kernel
theorem dX8_fallFarthest_34 : decode cX8_fallFarthest 34 = .ok (.aload_n 1, 1) := by decide +kernel
theorem dX8_fallFarthest_35 : decode cX8_fallFarthest 35 = .ok (.iload_n 3, 1) := by decide +kernel
theorem dX8_fallFarthest_36 : decode cX8_fallFarthest 36 = .ok (.iconst 0, 1) := by decide +kernel
theorem dX8_fallFarthest_37 : decode cX8_fallFarthest 37 = .ok (.invokevirtual 43, 3) := by decide +kernel
theorem dX8_fallFarthest_40 : decode cX8_fallFarthest 40 = .ok (.pop, 1) := by decide +kernel
theorem dX8_fallFarthest_41 : decode cX8_fallFarthest 41 = .ok (.aload_n 0, 1) := by decide +kernel
theorem dX8_fallFarthest_42 : decode cX8_fallFarthest 42 = .ok (.iload_n 3, 1) := by decide +kernel
theorem dX8_fallFarthest_43 : decode cX8_fallFarthest 43 = .ok (.iconst 1, 1) := by decide +kernel
theorem dX8_fallFarthest_44 : decode cX8_fallFarthest 44 = .ok (.iadd, 1) := by decide +kernel
theorem dX8_fallFarthest_45 : decode cX8_fallFarthest 45 = .ok (.invokevirtual 57, 3) := by decide +kernel
theorem dX8_fallFarthest_48 : decode cX8_fallFarthest 48 = .ok (.iinc 3 1, 3) := by decide +kernel
theorem dX8_fallFarthest_51 : decode cX8_fallFarthest 51 = .ok (.goto (-23), 3) := by decide +kernel
theorem dX8_fallFarthest_54 : decode cX8_fallFarthest 54 = .ok (.return_, 1) := by decide +kernel
set_option maxRecDepth 20000 in
theorem ggX8_staysWithin_X7_takeOver : GoodIn wsX8_staysWithin wsX7_takeOver := goodIn_r _ [7, 8, 9, 10, 11, 12, 13, 14, 79, 80, 81, 82, 83, 84, 85] (by decide +kernel) (by decide +kernel)
set_option maxRecDepth 20000 in
theorem gX8_staysWithin_X7_takeOver : GoodIn wsX8_staysWithin (wsV RX8 39 RX7 yX7_takeOver wsX7_takeOver) := goodIn_app (goodIn_of _ (by decide +kernel)) ggX8_staysWithin_X7_takeOver
set_option maxRecDepth 20000 in
theorem ggX8_staysWithin_X8_passHour : GoodIn wsX8_staysWithin wsX8_passHour := goodIn_r _ [19, 1, 20, 21, 22, 23, 24, 25, 26, 27, 28, 29, 18, 30, 31, 32, 33, 34, 6, 35, 10, 11, 36, 37, 38, 39, 40, 8, 41, 42, 43, 44, 45, 46, 47, 48, 9, 12, 49, 50, 51, 52, 53, 54, 55, 56, 57, 58, 59, 60, 61, 62, 63, 64, 65, 66, 67, 68, 79, 80, 81, 82, 83, 84, 85, 69, 70, 71, 72, 73, 74, 75, 76, 77, 78] (by decide +kernel) (by decide +kernel)
set_option maxRecDepth 20000 in
theorem gX8_staysWithin_X8_passHour : GoodIn wsX8_staysWithin (wsV RX8 43 RX8 yX8_passHour wsX8_passHour) := goodIn_app (goodIn_of _ (by decide +kernel)) ggX8_staysWithin_X8_passHour
theorem dX8_staysWithin_0 : decode cX8_staysWithin 0 = .ok (.aload_n 0, 1) := by decide +kernel
theorem dX8_staysWithin_1 : decode cX8_staysWithin 1 = .ok (.getfield 12, 3) := by decide +kernel
theorem dX8_staysWithin_4 : decode cX8_staysWithin 4 = .ok (.aload_n 1, 1) := by decide +kernel
theorem dX8_staysWithin_5 : decode cX8_staysWithin 5 = .ok (.getfield 38, 3) := by decide +kernel
theorem dX8_staysWithin_8 : decode cX8_staysWithin 8 = .ok (.invokevirtual 39, 3) := by decide +kernel
theorem dX8_staysWithin_11 : decode cX8_staysWithin 11 = .ok (.iconst 0, 1) := by decide +kernel
theorem dX8_staysWithin_12 : decode cX8_staysWithin 12 = .ok (.istore 5, 2) := by decide +kernel
theorem dX8_staysWithin_14 : decode cX8_staysWithin 14 = .ok (.iload 5, 2) := by decide +kernel
theorem dX8_staysWithin_16 : decode cX8_staysWithin 16 = .ok (.iload_n 2, 1) := by decide +kernel
theorem dX8_staysWithin_17 : decode cX8_staysWithin 17 = .ok (.if_icmp .ge 24, 3) := by decide +kernel
theorem dX8_staysWithin_20 : decode cX8_staysWithin 20 = .ok (.aload_n 0, 1) := by decide +kernel
theorem dX8_staysWithin_21 : decode cX8_staysWithin 21 = .ok (.aload_n 1, 1) := by decide +kernel
theorem dX8_staysWithin_22 : decode cX8_staysWithin 22 = .ok (.iload 5, 2) := by decide +kernel
theorem dX8_staysWithin_24 : decode cX8_staysWithin 24 = .ok (.iload 4, 2) := by decide +kernel
theorem dX8_staysWithin_26 : decode cX8_staysWithin 26 = .ok (.invokevirtual 43, 3) := by decide +kernel
theorem dX8_staysWithin_29 : decode cX8_staysWithin 29 = .ok (.iload_n 3, 1) := by decide +kernel
theorem dX8_staysWithin_30 : decode cX8_staysWithin 30 = .ok (.if_icmp .le 5, 3) := by decide +kernel
theorem dX8_staysWithin_33 : decode cX8_staysWithin 33 = .ok (.iconst 0, 1) := by decide +kernel
theorem dX8_staysWithin_34 : decode cX8_staysWithin 34 = .ok (.ireturn, 1) := by decide +kernel
theorem dX8_staysWithin_35 : decode cX8_staysWithin 35 = .ok (.iinc 5 1, 3) := by decide +kernel
theorem dX8_staysWithin_38 : decode cX8_staysWithin 38 = .ok (.goto (-24), 3) := by decide +kernel
theorem dX8_staysWithin_41 : decode cX8_staysWithin 41 = .ok (.iconst 1, 1) := by decide +kernel
theorem dX8_staysWithin_42 : decode cX8_staysWithin 42 = .ok (.ireturn, 1) := by decide +kernel
theorem dX8_noteFarthest_0 : decode cX8_noteFarthest 0 = .ok (.iconst 0, 1) := by decide +kernel
theorem dX8_noteFarthest_1 : decode cX8_noteFarthest 1 = .ok (.istore_n 2, 1) := by decide +kernel
theorem dX8_noteFarthest_2 : decode cX8_noteFarthest 2 = .ok (.iload_n 2, 1) := by decide +kernel
theorem dX8_noteFarthest_3 : decode cX8_noteFarthest 3 = .ok (.aload_n 0, 1) := by decide +kernel
theorem dX8_noteFarthest_4 : decode cX8_noteFarthest 4 = .ok (.getfield 12, 3) := by decide +kernel
theorem dX8_noteFarthest_7 : decode cX8_noteFarthest 7 = .ok (.getfield 61, 3) := by decide +kernel
theorem dX8_noteFarthest_10 : decode cX8_noteFarthest 10 = .ok (.if_icmp .ge 54, 3) := by decide +kernel
theorem dX8_noteFarthest_13 : decode cX8_noteFarthest 13 = .ok (.iload_n 2, 1) := by decide +kernel
theorem dX8_noteFarthest_14 : decode cX8_noteFarthest 14 = .ok (.bipush 6, 2) := by decide +kernel
theorem dX8_noteFarthest_16 : decode cX8_noteFarthest 16 = .ok (.if_icmp .ge 48, 3) := by decide +kernel
theorem dX8_noteFarthest_19 : decode cX8_noteFarthest 19 = .ok (.aload_n 0, 1) := by decide +kernel
theorem dX8_noteFarthest_20 : decode cX8_noteFarthest 20 = .ok (.getfield 12, 3) := by decide +kernel
theorem dX8_noteFarthest_23 : decode cX8_noteFarthest 23 = .ok (.getfield 64, 3) := by decide +kernel
theorem dX8_noteFarthest_26 : decode cX8_noteFarthest 26 = .ok (.iload_n 2, 1) := by decide +kernel
theorem dX8_noteFarthest_27 : decode cX8_noteFarthest 27 = .ok (.iaload, 1) := by decide +kernel
theorem dX8_noteFarthest_28 : decode cX8_noteFarthest 28 = .ok (.aload_n 0, 1) := by decide +kernel
theorem dX8_noteFarthest_29 : decode cX8_noteFarthest 29 = .ok (.getfield 22, 3) := by decide +kernel
theorem dX8_noteFarthest_32 : decode cX8_noteFarthest 32 = .ok (.if_icmp .le 26, 3) := by decide +kernel
theorem dX8_noteFarthest_35 : decode cX8_noteFarthest 35 = .ok (.aload_n 0, 1) := by decide +kernel
theorem dX8_noteFarthest_36 : decode cX8_noteFarthest 36 = .ok (.aload_n 0, 1) := by decide +kernel
theorem dX8_noteFarthest_37 : decode cX8_noteFarthest 37 = .ok (.getfield 12, 3) := by decide +kernel
theorem dX8_noteFarthest_40 : decode cX8_noteFarthest 40 = .ok (.getfield 64, 3) := by decide +kernel
theorem dX8_noteFarthest_43 : decode cX8_noteFarthest 43 = .ok (.iload_n 2, 1) := by decide +kernel
theorem dX8_noteFarthest_44 : decode cX8_noteFarthest 44 = .ok (.iaload, 1) := by decide +kernel
theorem dX8_noteFarthest_45 : decode cX8_noteFarthest 45 = .ok (.putfield 22, 3) := by decide +kernel
theorem dX8_noteFarthest_48 : decode cX8_noteFarthest 48 = .ok (.aload_n 0, 1) := by decide +kernel
theorem dX8_noteFarthest_49 : decode cX8_noteFarthest 49 = .ok (.iload_n 2, 1) := by decide +kernel
theorem dX8_noteFarthest_50 : decode cX8_noteFarthest 50 = .ok (.putfield 26, 3) := by decide +kernel
theorem dX8_noteFarthest_53 : decode cX8_noteFarthest 53 = .ok (.aload_n 0, 1) := by decide +kernel
theorem dX8_noteFarthest_54 : decode cX8_noteFarthest 54 = .ok (.iload_n 1, 1) := by decide +kernel
theorem dX8_noteFarthest_55 : decode cX8_noteFarthest 55 = .ok (.putfield 29, 3) := by decide +kernel
theorem dX8_noteFarthest_58 : decode cX8_noteFarthest 58 = .ok (.iinc 2 1, 3) := by decide +kernel
theorem dX8_noteFarthest_61 : decode cX8_noteFarthest 61 = .ok (.goto (-59), 3) := by decide +kernel
theorem dX8_noteFarthest_64 : decode cX8_noteFarthest 64 = .ok (.return_, 1) := by decide +kernel
set_option maxRecDepth 20000 in
theorem ggX8_passHour_X8_pullOf : GoodIn wsX8_passHour wsX8_pullOf := goodIn_r _ [13, 14, 53, 54, 55, 56, 57] (by decide +kernel) (by decide +kernel)
set_option maxRecDepth 20000 in
theorem gX8_passHour_X8_pullOf : GoodIn wsX8_passHour (wsV RX8 67 RX8 yX8_pullOf wsX8_pullOf) := goodIn_app (goodIn_of _ (by decide +kernel)) ggX8_passHour_X8_pullOf
set_option maxRecDepth 20000 in
theorem ggX8_passHour_X7_fall : GoodIn wsX8_passHour wsX7_fall := goodIn_r _ [19, 20, 21, 22, 6, 7, 8, 23, 24, 25, 18, 26, 27, 28, 29, 30, 31, 32, 33, 34, 35, 36, 37, 38, 39, 40, 41, 42, 43, 44, 45, 46, 47, 48, 49, 50, 51, 52, 58, 59, 60, 61, 62, 63, 64] (by decide +kernel) (by decide +kernel)
set_option maxRecDepth 20000 in
theorem gX8_passHour_X7_fall : GoodIn wsX8_passHour (wsV RX8 74 RX7 yX7_fall wsX7_fall) := goodIn_app (goodIn_of _ (by decide +kernel)) ggX8_passHour_X7_fall
theorem dX8_passHour_0 : decode cX8_passHour 0 = .ok (.iconst 0, 1) := by decide +kernel
theorem dX8_passHour_1 : decode cX8_passHour 1 = .ok (.istore 4, 2) := by decide +kernel
theorem dX8_passHour_3 : decode cX8_passHour 3 = .ok (.iconst 0, 1) := by decide +kernel
theorem dX8_passHour_4 : decode cX8_passHour 4 = .ok (.istore 5, 2) := by decide +kernel
theorem dX8_passHour_6 : decode cX8_passHour 6 = .ok (.iload 5, 2) := by decide +kernel
theorem dX8_passHour_8 : decode cX8_passHour 8 = .ok (.aload_n 0, 1) := by decide +kernel
theorem dX8_passHour_9 : decode cX8_passHour 9 = .ok (.getfield 12, 3) := by decide +kernel
theorem dX8_passHour_12 : decode cX8_passHour 12 = .ok (.getfield 61, 3) := by decide +kernel
theorem dX8_passHour_15 : decode cX8_passHour 15 = .ok (.if_icmp .ge 86, 3) := by decide +kernel
theorem dX8_passHour_18 : decode cX8_passHour 18 = .ok (.iload 5, 2) := by decide +kernel
theorem dX8_passHour_20 : decode cX8_passHour 20 = .ok (.bipush 6, 2) := by decide +kernel
theorem dX8_passHour_22 : decode cX8_passHour 22 = .ok (.if_icmp .ge 79, 3) := by decide +kernel
theorem dX8_passHour_25 : decode cX8_passHour 25 = .ok (.iload_n 3, 1) := by decide +kernel
theorem dX8_passHour_26 : decode cX8_passHour 26 = .ok (.iload 5, 2) := by decide +kernel
theorem dX8_passHour_28 : decode cX8_passHour 28 = .ok (.ishr, 1) := by decide +kernel
theorem dX8_passHour_29 : decode cX8_passHour 29 = .ok (.iconst 1, 1) := by decide +kernel
theorem dX8_passHour_30 : decode cX8_passHour 30 = .ok (.iand, 1) := by decide +kernel
theorem dX8_passHour_31 : decode cX8_passHour 31 = .ok (.ifCond .eq 7, 3) := by decide +kernel
theorem dX8_passHour_34 : decode cX8_passHour 34 = .ok (.iconst 1, 1) := by decide +kernel
theorem dX8_passHour_35 : decode cX8_passHour 35 = .ok (.goto 4, 3) := by decide +kernel
theorem dX8_passHour_38 : decode cX8_passHour 38 = .ok (.iconst 0, 1) := by decide +kernel
theorem dX8_passHour_39 : decode cX8_passHour 39 = .ok (.istore 6, 2) := by decide +kernel
theorem dX8_passHour_41 : decode cX8_passHour 41 = .ok (.aload_n 0, 1) := by decide +kernel
theorem dX8_passHour_42 : decode cX8_passHour 42 = .ok (.getfield 12, 3) := by decide +kernel
theorem dX8_passHour_45 : decode cX8_passHour 45 = .ok (.getfield 64, 3) := by decide +kernel
theorem dX8_passHour_48 : decode cX8_passHour 48 = .ok (.iload 5, 2) := by decide +kernel
theorem dX8_passHour_50 : decode cX8_passHour 50 = .ok (.iload 6, 2) := by decide +kernel
theorem dX8_passHour_52 : decode cX8_passHour 52 = .ok (.ifCond .eq 7, 3) := by decide +kernel
theorem dX8_passHour_55 : decode cX8_passHour 55 = .ok (.iconst 0, 1) := by decide +kernel
theorem dX8_passHour_56 : decode cX8_passHour 56 = .ok (.goto 21, 3) := by decide +kernel
theorem dX8_passHour_59 : decode cX8_passHour 59 = .ok (.aload_n 0, 1) := by decide +kernel
theorem dX8_passHour_60 : decode cX8_passHour 60 = .ok (.getfield 12, 3) := by decide +kernel
theorem dX8_passHour_63 : decode cX8_passHour 63 = .ok (.iload 5, 2) := by decide +kernel
theorem dX8_passHour_65 : decode cX8_passHour 65 = .ok (.aload_n 0, 1) := by decide +kernel
theorem dX8_passHour_66 : decode cX8_passHour 66 = .ok (.iload_n 2, 1) := by decide +kernel
theorem dX8_passHour_67 : decode cX8_passHour 67 = .ok (.invokevirtual 67, 3) := by decide +kernel
theorem dX8_passHour_70 : decode cX8_passHour 70 = .ok (.aload_n 1, 1) := by decide +kernel
theorem dX8_passHour_71 : decode cX8_passHour 71 = .ok (.getfield 70, 3) := by decide +kernel
theorem dX8_passHour_74 : decode cX8_passHour 74 = .ok (.invokevirtual 74, 3) := by decide +kernel
theorem dX8_passHour_77 : decode cX8_passHour 77 = .ok (.iastore, 1) := by decide +kernel
theorem dX8_passHour_78 : decode cX8_passHour 78 = .ok (.iload 4, 2) := by decide +kernel
theorem dX8_passHour_80 : decode cX8_passHour 80 = .ok (.aload_n 0, 1) := by decide +kernel
theorem dX8_passHour_81 : decode cX8_passHour 81 = .ok (.getfield 12, 3) := by decide +kernel
theorem dX8_passHour_84 : decode cX8_passHour 84 = .ok (.getfield 64, 3) := by decide +kernel
theorem dX8_passHour_87 : decode cX8_passHour 87 = .ok (.iload 5, 2) := by decide +kernel
theorem dX8_passHour_89 : decode cX8_passHour 89 = .ok (.iaload, 1) := by decide +kernel
theorem dX8_passHour_90 : decode cX8_passHour 90 = .ok (.invokestatic 78, 3) := by decide +kernel
theorem dX8_passHour_93 : decode cX8_passHour 93 = .ok (.istore 4, 2) := by decide +kernel
theorem dX8_passHour_95 : decode cX8_passHour 95 = .ok (.iinc 5 1, 3) := by decide +kernel
theorem dX8_passHour_98 : decode cX8_passHour 98 = .ok (.goto (-92), 3) := by decide +kernel
theorem dX8_passHour_101 : decode cX8_passHour 101 = .ok (.iload 4, 2) := by decide +kernel
theorem dX8_passHour_103 : decode cX8_passHour 103 = .ok (.ireturn, 1) := by decide +kernel
theorem dX9_init_0 : decode cX9_init 0 = .ok (.aload_n 0, 1) := by decide +kernel
theorem dX9_init_1 : decode cX9_init 1 = .ok (.invokespecial 1, 3) := by decide +kernel
theorem dX9_init_4 : decode cX9_init 4 = .ok (.aload_n 0, 1) := by decide +kernel
theorem dX9_init_5 : decode cX9_init 5 = .ok (.iconst 0, 1) := by decide +kernel
theorem dX9_init_6 : decode cX9_init 6 = .ok (.putfield 7, 3) := by decide +kernel
theorem dX9_init_9 : decode cX9_init 9 = .ok (.aload_n 0, 1) := by decide +kernel
theorem dX9_init_10 : decode cX9_init 10 = .ok (.iconst 0, 1) := by decide +kernel
theorem dX9_init_11 : decode cX9_init 11 = .ok (.putfield 13, 3) := by decide +kernel
theorem dX9_init_14 : decode cX9_init 14 = .ok (.aload_n 0, 1) := by decide +kernel
theorem dX9_init_15 : decode cX9_init 15 = .ok (.bipush 30, 2) := by decide +kernel
theorem dX9_init_17 : decode cX9_init 17 = .ok (.newarray .int, 2) := by decide +kernel
theorem dX9_init_19 : decode cX9_init 19 = .ok (.putfield 17, 3) := by decide +kernel
theorem dX9_init_22 : decode cX9_init 22 = .ok (.aload_n 0, 1) := by decide +kernel
theorem dX9_init_23 : decode cX9_init 23 = .ok (.iconst 0, 1) := by decide +kernel
theorem dX9_init_24 : decode cX9_init 24 = .ok (.putfield 21, 3) := by decide +kernel
theorem dX9_init_27 : decode cX9_init 27 = .ok (.aload_n 0, 1) := by decide +kernel
theorem dX9_init_28 : decode cX9_init 28 = .ok (.iconst 0, 1) := by decide +kernel
theorem dX9_init_29 : decode cX9_init 29 = .ok (.putfield 24, 3) := by decide +kernel
theorem dX9_init_32 : decode cX9_init 32 = .ok (.aload_n 0, 1) := by decide +kernel
theorem dX9_init_33 : decode cX9_init 33 = .ok (.iconst 0, 1) := by decide +kernel
theorem dX9_init_34 : decode cX9_init 34 = .ok (.putfield 27, 3) := by decide +kernel
theorem dX9_init_37 : decode cX9_init 37 = .ok (.return_, 1) := by decide +kernel
set_option maxRecDepth 20000 in
theorem ggX9_speak_X9_sound : GoodIn wsX9_speak wsX9_sound := goodIn_r _ [10, 4, 11, 12, 9, 13, 14, 15, 16, 17, 18, 19, 20, 21, 22, 23, 24, 25, 26, 5, 27, 28, 29, 30, 31, 2, 1, 3, 6, 7, 8, 32, 33, 34, 35, 36, 37, 38, 39, 40, 41] (by decide +kernel) (by decide +kernel)
set_option maxRecDepth 20000 in
theorem gX9_speak_X9_sound : GoodIn wsX9_speak (wsV RX9 30 RX9 yX9_sound wsX9_sound) := goodIn_app (goodIn_of _ (by decide +kernel)) ggX9_speak_X9_sound
theorem dX9_speak_0 : decode cX9_speak 0 = .ok (.aload_n 0, 1) := by decide +kernel
theorem dX9_speak_1 : decode cX9_speak 1 = .ok (.iload_n 1, 1) := by decide +kernel
theorem dX9_speak_2 : decode cX9_speak 2 = .ok (.putfield 21, 3) := by decide +kernel
theorem dX9_speak_5 : decode cX9_speak 5 = .ok (.aload_n 0, 1) := by decide +kernel
theorem dX9_speak_6 : decode cX9_speak 6 = .ok (.iload_n 2, 1) := by decide +kernel
theorem dX9_speak_7 : decode cX9_speak 7 = .ok (.putfield 24, 3) := by decide +kernel
theorem dX9_speak_10 : decode cX9_speak 10 = .ok (.aload_n 0, 1) := by decide +kernel
theorem dX9_speak_11 : decode cX9_speak 11 = .ok (.iload_n 3, 1) := by decide +kernel
theorem dX9_speak_12 : decode cX9_speak 12 = .ok (.putfield 27, 3) := by decide +kernel
theorem dX9_speak_15 : decode cX9_speak 15 = .ok (.aload_n 0, 1) := by decide +kernel
theorem dX9_speak_16 : decode cX9_speak 16 = .ok (.iconst 0, 1) := by decide +kernel
theorem dX9_speak_17 : decode cX9_speak 17 = .ok (.putfield 7, 3) := by decide +kernel
theorem dX9_speak_20 : decode cX9_speak 20 = .ok (.aload_n 0, 1) := by decide +kernel
theorem dX9_speak_21 : decode cX9_speak 21 = .ok (.iconst 0, 1) := by decide +kernel
theorem dX9_speak_22 : decode cX9_speak 22 = .ok (.putfield 13, 3) := by decide +kernel
theorem dX9_speak_25 : decode cX9_speak 25 = .ok (.aload_n 0, 1) := by decide +kernel
theorem dX9_speak_26 : decode cX9_speak 26 = .ok (.aload_n 0, 1) := by decide +kernel
theorem dX9_speak_27 : decode cX9_speak 27 = .ok (.getfield 21, 3) := by decide +kernel
theorem dX9_speak_30 : decode cX9_speak 30 = .ok (.iload 4, 2) := by decide +kernel
theorem dX9_speak_32 : decode cX9_speak 32 = .ok (.iload 5, 2) := by decide +kernel
theorem dX9_speak_34 : decode cX9_speak 34 = .ok (.iconst 0, 1) := by decide +kernel
theorem dX9_speak_35 : decode cX9_speak 35 = .ok (.invokevirtual 30, 3) := by decide +kernel
theorem dX9_speak_38 : decode cX9_speak 38 = .ok (.ireturn, 1) := by decide +kernel
theorem dX9_bodyInTrace_0 : decode cX9_bodyInTrace 0 = .ok (.iload_n 1, 1) := by decide +kernel
theorem dX9_bodyInTrace_1 : decode cX9_bodyInTrace 1 = .ok (.ifCond .lt 26, 3) := by decide +kernel
theorem dX9_bodyInTrace_4 : decode cX9_bodyInTrace 4 = .ok (.iload_n 1, 1) := by decide +kernel
theorem dX9_bodyInTrace_5 : decode cX9_bodyInTrace 5 = .ok (.aload_n 0, 1) := by decide +kernel
theorem dX9_bodyInTrace_6 : decode cX9_bodyInTrace 6 = .ok (.getfield 13, 3) := by decide +kernel
theorem dX9_bodyInTrace_9 : decode cX9_bodyInTrace 9 = .ok (.if_icmp .ge 18, 3) := by decide +kernel
theorem dX9_bodyInTrace_12 : decode cX9_bodyInTrace 12 = .ok (.iload_n 1, 1) := by decide +kernel
theorem dX9_bodyInTrace_13 : decode cX9_bodyInTrace 13 = .ok (.bipush 30, 2) := by decide +kernel
theorem dX9_bodyInTrace_15 : decode cX9_bodyInTrace 15 = .ok (.if_icmp .ge 12, 3) := by decide +kernel
theorem dX9_bodyInTrace_18 : decode cX9_bodyInTrace 18 = .ok (.aload_n 0, 1) := by decide +kernel
theorem dX9_bodyInTrace_19 : decode cX9_bodyInTrace 19 = .ok (.getfield 17, 3) := by decide +kernel
theorem dX9_bodyInTrace_22 : decode cX9_bodyInTrace 22 = .ok (.iload_n 1, 1) := by decide +kernel
theorem dX9_bodyInTrace_23 : decode cX9_bodyInTrace 23 = .ok (.iaload, 1) := by decide +kernel
theorem dX9_bodyInTrace_24 : decode cX9_bodyInTrace 24 = .ok (.goto 4, 3) := by decide +kernel
theorem dX9_bodyInTrace_27 : decode cX9_bodyInTrace 27 = .ok (.iconst 0, 1) := by decide +kernel
theorem dX9_bodyInTrace_28 : decode cX9_bodyInTrace 28 = .ok (.ireturn, 1) := by decide +kernel
set_option maxRecDepth 20000 in
theorem ggX9_sound_X9_bodyOf : GoodIn wsX9_sound wsX9_bodyOf := goodIn_r _ [5, 6] (by decide +kernel) (by decide +kernel)
set_option maxRecDepth 20000 in
theorem gX9_sound_X9_bodyOf : GoodIn wsX9_sound (va_wsS RX9 36 yX9_bodyOf wsX9_bodyOf) := goodIn_app (goodIn_of _ (by decide +kernel)) ggX9_sound_X9_bodyOf
set_option maxRecDepth 20000 in
theorem ggX9_sound_X2_above : GoodIn wsX9_sound wsX2_above := goodIn_r _ [10, 11, 12, 13, 9, 14] (by decide +kernel) (by decide +kernel)
set_option maxRecDepth 20000 in
theorem gX9_sound_X2_above : GoodIn wsX9_sound (va_wsS RX9 40 yX2_above wsX2_above) := goodIn_app (goodIn_of _ (by decide +kernel)) ggX9_sound_X2_above
set_option maxRecDepth 20000 in
theorem ggX9_sound_X9_begin : GoodIn wsX9_sound wsX9_begin := goodIn_r _ [18, 19, 20, 35, 36, 37, 38, 39, 40] (by decide +kernel) (by decide +kernel)
set_option maxRecDepth 20000 in
theorem gX9_sound_X9_begin : GoodIn wsX9_sound (wsV RX9 44 RX9 yX9_begin wsX9_begin) := goodIn_app (goodIn_of _ (by decide +kernel)) ggX9_sound_X9_begin
set_option maxRecDepth 20000 in
theorem ggX9_sound_X9_run : GoodIn wsX9_sound wsX9_run := goodIn_r _ [24, 25, 26, 27, 7, 8, 9, 10, 11, 12, 13, 14, 28, 29, 30, 4, 31, 32, 33, 34, 1, 0, 2, 3, 5, 6, 15, 16, 17, 18, 19, 20, 21, 22, 23, 35, 36, 37, 38, 39, 40] (by decide +kernel) (by decide +kernel)
set_option maxRecDepth 20000 in
theorem gX9_sound_X9_run : GoodIn wsX9_sound (wsV RX9 48 RX9 yX9_run wsX9_run) := goodIn_app (goodIn_of _ (by decide +kernel)) ggX9_sound_X9_run
theorem dX9_sound_0 : decode cX9_sound 0 = .ok (.aload_n 0, 1) := by decide +kernel
theorem dX9_sound_1 : decode cX9_sound 1 = .ok (.getfield 7, 3) := by decide +kernel
theorem dX9_sound_4 : decode cX9_sound 4 = .ok (.ifCond .ne 10, 3) := by decide +kernel
theorem dX9_sound_7 : decode cX9_sound 7 = .ok (.iload 4, 2) := by decide +kernel
theorem dX9_sound_9 : decode cX9_sound 9 = .ok (.bipush 12, 2) := by decide +kernel
theorem dX9_sound_11 : decode cX9_sound 11 = .ok (.if_icmp .le 5, 3) := by decide +kernel
theorem dX9_sound_14 : decode cX9_sound 14 = .ok (.iconst 0, 1) := by decide +kernel
theorem dX9_sound_15 : decode cX9_sound 15 = .ok (.ireturn, 1) := by decide +kernel
theorem dX9_sound_16 : decode cX9_sound 16 = .ok (.iload_n 1, 1) := by decide +kernel
theorem dX9_sound_17 : decode cX9_sound 17 = .ok (.istore 5, 2) := by decide +kernel
theorem dX9_sound_19 : decode cX9_sound 19 = .ok (.iconst 0, 1) := by decide +kernel
theorem dX9_sound_20 : decode cX9_sound 20 = .ok (.istore 6, 2) := by decide +kernel
theorem dX9_sound_22 : decode cX9_sound 22 = .ok (.iload 6, 2) := by decide +kernel
theorem dX9_sound_24 : decode cX9_sound 24 = .ok (.bipush 7, 2) := by decide +kernel
theorem dX9_sound_26 : decode cX9_sound 26 = .ok (.if_icmp .ge 25, 3) := by decide +kernel
theorem dX9_sound_29 : decode cX9_sound 29 = .ok (.iload 5, 2) := by decide +kernel
theorem dX9_sound_31 : decode cX9_sound 31 = .ok (.iload_n 2, 1) := by decide +kernel
theorem dX9_sound_32 : decode cX9_sound 32 = .ok (.invokestatic 36, 3) := by decide +kernel
theorem dX9_sound_35 : decode cX9_sound 35 = .ok (.ifCond .ne 16, 3) := by decide +kernel
theorem dX9_sound_38 : decode cX9_sound 38 = .ok (.iload 5, 2) := by decide +kernel
theorem dX9_sound_40 : decode cX9_sound 40 = .ok (.invokestatic 40, 3) := by decide +kernel
theorem dX9_sound_43 : decode cX9_sound 43 = .ok (.istore 5, 2) := by decide +kernel
theorem dX9_sound_45 : decode cX9_sound 45 = .ok (.iinc 6 1, 3) := by decide +kernel
theorem dX9_sound_48 : decode cX9_sound 48 = .ok (.goto (-26), 3) := by decide +kernel
theorem dX9_sound_51 : decode cX9_sound 51 = .ok (.aload_n 0, 1) := by decide +kernel
theorem dX9_sound_52 : decode cX9_sound 52 = .ok (.iload 5, 2) := by decide +kernel
theorem dX9_sound_54 : decode cX9_sound 54 = .ok (.iload_n 2, 1) := by decide +kernel
theorem dX9_sound_55 : decode cX9_sound 55 = .ok (.invokestatic 36, 3) := by decide +kernel
theorem dX9_sound_58 : decode cX9_sound 58 = .ok (.invokevirtual 44, 3) := by decide +kernel
theorem dX9_sound_61 : decode cX9_sound 61 = .ok (.aload_n 0, 1) := by decide +kernel
theorem dX9_sound_62 : decode cX9_sound 62 = .ok (.iload 5, 2) := by decide +kernel
theorem dX9_sound_64 : decode cX9_sound 64 = .ok (.iload_n 2, 1) := by decide +kernel
theorem dX9_sound_65 : decode cX9_sound 65 = .ok (.invokestatic 36, 3) := by decide +kernel
theorem dX9_sound_68 : decode cX9_sound 68 = .ok (.iload 5, 2) := by decide +kernel
theorem dX9_sound_70 : decode cX9_sound 70 = .ok (.iload_n 3, 1) := by decide +kernel
theorem dX9_sound_71 : decode cX9_sound 71 = .ok (.iload 4, 2) := by decide +kernel
theorem dX9_sound_73 : decode cX9_sound 73 = .ok (.iconst 1, 1) := by decide +kernel
theorem dX9_sound_74 : decode cX9_sound 74 = .ok (.iadd, 1) := by decide +kernel
theorem dX9_sound_75 : decode cX9_sound 75 = .ok (.invokevirtual 48, 3) := by decide +kernel
theorem dX9_sound_78 : decode cX9_sound 78 = .ok (.ireturn, 1) := by decide +kernel
theorem dX9_bodyOf_0 : decode cX9_bodyOf 0 = .ok (.iconst 4, 1) := by decide +kernel
theorem dX9_bodyOf_1 : decode cX9_bodyOf 1 = .ok (.iload_n 0, 1) := by decide +kernel
theorem dX9_bodyOf_2 : decode cX9_bodyOf 2 = .ok (.imul, 1) := by decide +kernel
theorem dX9_bodyOf_3 : decode cX9_bodyOf 3 = .ok (.iload_n 1, 1) := by decide +kernel
theorem dX9_bodyOf_4 : decode cX9_bodyOf 4 = .ok (.iadd, 1) := by decide +kernel
theorem dX9_bodyOf_5 : decode cX9_bodyOf 5 = .ok (.istore_n 2, 1) := by decide +kernel
theorem dX9_bodyOf_6 : decode cX9_bodyOf 6 = .ok (.iload_n 2, 1) := by decide +kernel
theorem dX9_bodyOf_7 : decode cX9_bodyOf 7 = .ok (.ifCond .lt 19, 3) := by decide +kernel
theorem dX9_bodyOf_10 : decode cX9_bodyOf 10 = .ok (.iload_n 2, 1) := by decide +kernel
theorem dX9_bodyOf_11 : decode cX9_bodyOf 11 = .ok (.getstatic 51, 3) := by decide +kernel
theorem dX9_bodyOf_14 : decode cX9_bodyOf 14 = .ok (.arraylength, 1) := by decide +kernel
theorem dX9_bodyOf_15 : decode cX9_bodyOf 15 = .ok (.if_icmp .ge 11, 3) := by decide +kernel
theorem dX9_bodyOf_18 : decode cX9_bodyOf 18 = .ok (.getstatic 51, 3) := by decide +kernel
theorem dX9_bodyOf_21 : decode cX9_bodyOf 21 = .ok (.iload_n 2, 1) := by decide +kernel
theorem dX9_bodyOf_22 : decode cX9_bodyOf 22 = .ok (.iaload, 1) := by decide +kernel
theorem dX9_bodyOf_23 : decode cX9_bodyOf 23 = .ok (.goto 4, 3) := by decide +kernel
theorem dX9_bodyOf_26 : decode cX9_bodyOf 26 = .ok (.iconst 0, 1) := by decide +kernel
theorem dX9_bodyOf_27 : decode cX9_bodyOf 27 = .ok (.ireturn, 1) := by decide +kernel
theorem dX9_begin_0 : decode cX9_begin 0 = .ok (.aload_n 0, 1) := by decide +kernel
theorem dX9_begin_1 : decode cX9_begin 1 = .ok (.getfield 13, 3) := by decide +kernel
theorem dX9_begin_4 : decode cX9_begin 4 = .ok (.bipush 30, 2) := by decide +kernel
theorem dX9_begin_6 : decode cX9_begin 6 = .ok (.if_icmp .ge 23, 3) := by decide +kernel
theorem dX9_begin_9 : decode cX9_begin 9 = .ok (.aload_n 0, 1) := by decide +kernel
theorem dX9_begin_10 : decode cX9_begin 10 = .ok (.getfield 17, 3) := by decide +kernel
theorem dX9_begin_13 : decode cX9_begin 13 = .ok (.aload_n 0, 1) := by decide +kernel
theorem dX9_begin_14 : decode cX9_begin 14 = .ok (.getfield 13, 3) := by decide +kernel
theorem dX9_begin_17 : decode cX9_begin 17 = .ok (.iload_n 1, 1) := by decide +kernel
theorem dX9_begin_18 : decode cX9_begin 18 = .ok (.iastore, 1) := by decide +kernel
theorem dX9_begin_19 : decode cX9_begin 19 = .ok (.aload_n 0, 1) := by decide +kernel
theorem dX9_begin_20 : decode cX9_begin 20 = .ok (.dup, 1) := by decide +kernel
theorem dX9_begin_21 : decode cX9_begin 21 = .ok (.getfield 13, 3) := by decide +kernel
theorem dX9_begin_24 : decode cX9_begin 24 = .ok (.iconst 1, 1) := by decide +kernel
theorem dX9_begin_25 : decode cX9_begin 25 = .ok (.iadd, 1) := by decide +kernel
theorem dX9_begin_26 : decode cX9_begin 26 = .ok (.putfield 13, 3) := by decide +kernel
theorem dX9_begin_29 : decode cX9_begin 29 = .ok (.return_, 1) := by decide +kernel
set_option maxRecDepth 20000 in
theorem ggX9_run_X2_above : GoodIn wsX9_run wsX2_above := goodIn_r _ [7, 8, 9, 10, 6, 11] (by decide +kernel) (by decide +kernel)
set_option maxRecDepth 20000 in
theorem gX9_run_X2_above : GoodIn wsX9_run (va_wsS RX9 40 yX2_above wsX2_above) := goodIn_app (goodIn_of _ (by decide +kernel)) ggX9_run_X2_above
set_option maxRecDepth 20000 in
theorem ggX9_run_X9_sound : GoodIn wsX9_run wsX9_sound := goodIn_r _ [21, 20, 22, 23, 15, 24, 25, 4, 5, 6, 7, 8, 9, 10, 11, 26, 27, 28, 29, 30, 31, 32, 33, 34, 0, 1, 2, 3, 12, 13, 14, 16, 17, 18, 19, 35, 36, 37, 38, 39, 40] (by decide +kernel) (by decide +kernel)
set_option maxRecDepth 20000 in
theorem gX9_run_X9_sound : GoodIn wsX9_run (wsV RX9 30 RX9 yX9_sound wsX9_sound) := goodIn_app (goodIn_of _ (by decide +kernel)) ggX9_run_X9_sound
set_option maxRecDepth 20000 in
theorem ggX9_run_X9_partsOf : GoodIn wsX9_run wsX9_partsOf := goodIn_r _ [19, 3, 1, 20, 35, 36, 37, 38, 39, 40] (by decide +kernel) (by decide +kernel)
set_option maxRecDepth 20000 in
theorem gX9_run_X9_partsOf : GoodIn wsX9_run (wsV RX9 54 RX9 yX9_partsOf wsX9_partsOf) := goodIn_app (goodIn_of _ (by decide +kernel)) ggX9_run_X9_partsOf
