theorem dX11_wall_50 : decode cX11_wall 50 = .ok (.invokevirtual 71, 3) := by decide +kernel
theorem dX11_wall_53 : decode cX11_wall 53 = .ok (.ireturn, 1) := by decide +kernel
set_option maxRecDepth 20000 in
theorem ggX11_cellIs_X11_isCell : GoodIn wsX11_cellIs wsX11_isCell := goodIn_r _ [6, 7, 8, 5, 9] (by decide +kernel) (by decide +kernel)
set_option maxRecDepth 20000 in
theorem gX11_cellIs_X11_isCell : GoodIn wsX11_cellIs (va_wsS RX11 63 yX11_isCell wsX11_isCell) := goodIn_app (goodIn_of _ (by decide +kernel)) ggX11_cellIs_X11_isCell
set_option maxRecDepth 20000 in
theorem ggX11_cellIs_X11_in : GoodIn wsX11_cellIs wsX11_in := goodIn_r _ [9] (by decide +kernel) (by decide +kernel)
set_option maxRecDepth 20000 in
theorem gX11_cellIs_X11_in : GoodIn wsX11_cellIs (va_wsS RX11 47 yX11_in wsX11_in) := goodIn_app (goodIn_of _ (by decide +kernel)) ggX11_cellIs_X11_in
set_option maxRecDepth 20000 in
theorem ggX11_cellIs_X11_error : GoodIn wsX11_cellIs wsX11_error := goodIn_r _ [13, 14, 15, 24, 25, 26, 27, 28, 29, 30, 31, 32, 33, 34, 35, 36, 37, 38, 39, 40, 41, 42, 43] (by decide +kernel) (by decide +kernel)
set_option maxRecDepth 20000 in
theorem gX11_cellIs_X11_error : GoodIn wsX11_cellIs (wsV RX11 67 RX11 yX11_error wsX11_error) := goodIn_app (goodIn_of _ (by decide +kernel)) ggX11_cellIs_X11_error
set_option maxRecDepth 20000 in
theorem ggX11_cellIs_X11_inCell : GoodIn wsX11_cellIs wsX11_inCell := goodIn_r _ [19, 2, 20, 21, 22, 5, 23, 24, 25, 26, 27, 28, 29, 30, 31, 32, 33, 34, 35, 36, 37, 38, 39, 40, 41, 42, 43] (by decide +kernel) (by decide +kernel)
set_option maxRecDepth 20000 in
theorem gX11_cellIs_X11_inCell : GoodIn wsX11_cellIs (wsV RX11 59 RX11 yX11_inCell wsX11_inCell) := goodIn_app (goodIn_of _ (by decide +kernel)) ggX11_cellIs_X11_inCell
theorem dX11_cellIs_0 : decode cX11_cellIs 0 = .ok (.iload_n 1, 1) := by decide +kernel
theorem dX11_cellIs_1 : decode cX11_cellIs 1 = .ok (.invokestatic 63, 3) := by decide +kernel
theorem dX11_cellIs_4 : decode cX11_cellIs 4 = .ok (.ifCond .eq 12, 3) := by decide +kernel
theorem dX11_cellIs_7 : decode cX11_cellIs 7 = .ok (.iload_n 2, 1) := by decide +kernel
theorem dX11_cellIs_8 : decode cX11_cellIs 8 = .ok (.iconst 0, 1) := by decide +kernel
theorem dX11_cellIs_9 : decode cX11_cellIs 9 = .ok (.iconst 1, 1) := by decide +kernel
theorem dX11_cellIs_10 : decode cX11_cellIs 10 = .ok (.invokestatic 47, 3) := by decide +kernel
theorem dX11_cellIs_13 : decode cX11_cellIs 13 = .ok (.ifCond .ne 10, 3) := by decide +kernel
theorem dX11_cellIs_16 : decode cX11_cellIs 16 = .ok (.aload_n 0, 1) := by decide +kernel
theorem dX11_cellIs_17 : decode cX11_cellIs 17 = .ok (.ldc 66, 2) := by decide +kernel
theorem dX11_cellIs_19 : decode cX11_cellIs 19 = .ok (.invokevirtual 67, 3) := by decide +kernel
theorem dX11_cellIs_22 : decode cX11_cellIs 22 = .ok (.ireturn, 1) := by decide +kernel
theorem dX11_cellIs_23 : decode cX11_cellIs 23 = .ok (.iload_n 2, 1) := by decide +kernel
theorem dX11_cellIs_24 : decode cX11_cellIs 24 = .ok (.ifCond .ne 14, 3) := by decide +kernel
theorem dX11_cellIs_27 : decode cX11_cellIs 27 = .ok (.aload_n 0, 1) := by decide +kernel
theorem dX11_cellIs_28 : decode cX11_cellIs 28 = .ok (.getfield 9, 3) := by decide +kernel
theorem dX11_cellIs_31 : decode cX11_cellIs 31 = .ok (.iconst 5, 1) := by decide +kernel
theorem dX11_cellIs_32 : decode cX11_cellIs 32 = .ok (.iload_n 1, 1) := by decide +kernel
theorem dX11_cellIs_33 : decode cX11_cellIs 33 = .ok (.iadd, 1) := by decide +kernel
theorem dX11_cellIs_34 : decode cX11_cellIs 34 = .ok (.iaload, 1) := by decide +kernel
theorem dX11_cellIs_35 : decode cX11_cellIs 35 = .ok (.goto 8, 3) := by decide +kernel
theorem dX11_cellIs_38 : decode cX11_cellIs 38 = .ok (.aload_n 0, 1) := by decide +kernel
theorem dX11_cellIs_39 : decode cX11_cellIs 39 = .ok (.iload_n 1, 1) := by decide +kernel
theorem dX11_cellIs_40 : decode cX11_cellIs 40 = .ok (.invokevirtual 59, 3) := by decide +kernel
theorem dX11_cellIs_43 : decode cX11_cellIs 43 = .ok (.ireturn, 1) := by decide +kernel
set_option maxRecDepth 20000 in
theorem ggX11_isKm_X11_in : GoodIn wsX11_isKm wsX11_in := goodIn_r _ [4] (by decide +kernel) (by decide +kernel)
set_option maxRecDepth 20000 in
theorem gX11_isKm_X11_in : GoodIn wsX11_isKm (va_wsS RX11 47 yX11_in wsX11_in) := goodIn_app (goodIn_of _ (by decide +kernel)) ggX11_isKm_X11_in
theorem dX11_isKm_0 : decode cX11_isKm 0 = .ok (.iload_n 0, 1) := by decide +kernel
theorem dX11_isKm_1 : decode cX11_isKm 1 = .ok (.iconst 0, 1) := by decide +kernel
theorem dX11_isKm_2 : decode cX11_isKm 2 = .ok (.bipush 69, 2) := by decide +kernel
theorem dX11_isKm_4 : decode cX11_isKm 4 = .ok (.invokestatic 47, 3) := by decide +kernel
theorem dX11_isKm_7 : decode cX11_isKm 7 = .ok (.ireturn, 1) := by decide +kernel
set_option maxRecDepth 20000 in
theorem ggX11_thing_X11_isKm : GoodIn wsX11_thing wsX11_isKm := goodIn_r _ [8, 9, 10, 7, 11] (by decide +kernel) (by decide +kernel)
set_option maxRecDepth 20000 in
theorem gX11_thing_X11_isKm : GoodIn wsX11_thing (va_wsS RX11 74 yX11_isKm wsX11_isKm) := goodIn_app (goodIn_of _ (by decide +kernel)) ggX11_thing_X11_isKm
set_option maxRecDepth 20000 in
theorem ggX11_thing_X11_isCell : GoodIn wsX11_thing wsX11_isCell := goodIn_r _ [14, 9, 10, 7, 11] (by decide +kernel) (by decide +kernel)
set_option maxRecDepth 20000 in
theorem gX11_thing_X11_isCell : GoodIn wsX11_thing (va_wsS RX11 63 yX11_isCell wsX11_isCell) := goodIn_app (goodIn_of _ (by decide +kernel)) ggX11_thing_X11_isCell
set_option maxRecDepth 20000 in
theorem ggX11_thing_X11_error : GoodIn wsX11_thing wsX11_error := goodIn_r _ [18, 19, 20, 41, 42, 43, 44, 45, 46, 47, 48, 49, 50, 51, 52, 53, 54, 55, 56, 57, 58, 59, 60] (by decide +kernel) (by decide +kernel)
set_option maxRecDepth 20000 in
theorem gX11_thing_X11_error : GoodIn wsX11_thing (wsV RX11 67 RX11 yX11_error wsX11_error) := goodIn_app (goodIn_of _ (by decide +kernel)) ggX11_thing_X11_error
set_option maxRecDepth 20000 in
theorem ggX11_thing_X11_isFree : GoodIn wsX11_thing wsX11_isFree := goodIn_r _ [24, 25, 26, 27, 7, 28, 2, 29, 30, 31, 32, 33, 34, 35, 36, 41, 42, 43, 44, 45, 46, 47, 48, 49, 50, 51, 52, 53, 54, 55, 56, 57, 58, 59, 60] (by decide +kernel) (by decide +kernel)
set_option maxRecDepth 20000 in
theorem gX11_thing_X11_isFree : GoodIn wsX11_thing (wsV RX11 78 RX11 yX11_isFree wsX11_isFree) := goodIn_app (goodIn_of _ (by decide +kernel)) ggX11_thing_X11_isFree
set_option maxRecDepth 20000 in
theorem ggX11_thing_X11_lay : GoodIn wsX11_thing wsX11_lay := goodIn_r _ [40, 2, 41, 42, 43, 44, 45, 46, 47, 48, 49, 50, 51, 52, 53, 54, 55, 56, 57, 58, 59, 60] (by decide +kernel) (by decide +kernel)
set_option maxRecDepth 20000 in
theorem gX11_thing_X11_lay : GoodIn wsX11_thing (wsV RX11 81 RX11 yX11_lay wsX11_lay) := goodIn_app (goodIn_of _ (by decide +kernel)) ggX11_thing_X11_lay
theorem dX11_thing_0 : decode cX11_thing 0 = .ok (.iload_n 1, 1) := by decide +kernel
theorem dX11_thing_1 : decode cX11_thing 1 = .ok (.invokestatic 74, 3) := by decide +kernel
theorem dX11_thing_4 : decode cX11_thing 4 = .ok (.ifCond .eq 10, 3) := by decide +kernel
theorem dX11_thing_7 : decode cX11_thing 7 = .ok (.iload_n 2, 1) := by decide +kernel
theorem dX11_thing_8 : decode cX11_thing 8 = .ok (.invokestatic 63, 3) := by decide +kernel
theorem dX11_thing_11 : decode cX11_thing 11 = .ok (.ifCond .ne 10, 3) := by decide +kernel
theorem dX11_thing_14 : decode cX11_thing 14 = .ok (.aload_n 0, 1) := by decide +kernel
theorem dX11_thing_15 : decode cX11_thing 15 = .ok (.ldc 66, 2) := by decide +kernel
theorem dX11_thing_17 : decode cX11_thing 17 = .ok (.invokevirtual 67, 3) := by decide +kernel
theorem dX11_thing_20 : decode cX11_thing 20 = .ok (.ireturn, 1) := by decide +kernel
theorem dX11_thing_21 : decode cX11_thing 21 = .ok (.aload_n 0, 1) := by decide +kernel
theorem dX11_thing_22 : decode cX11_thing 22 = .ok (.getfield 9, 3) := by decide +kernel
theorem dX11_thing_25 : decode cX11_thing 25 = .ok (.iconst 2, 1) := by decide +kernel
theorem dX11_thing_26 : decode cX11_thing 26 = .ok (.iaload, 1) := by decide +kernel
theorem dX11_thing_27 : decode cX11_thing 27 = .ok (.bipush 6, 2) := by decide +kernel
theorem dX11_thing_29 : decode cX11_thing 29 = .ok (.if_icmp .ne 10, 3) := by decide +kernel
theorem dX11_thing_32 : decode cX11_thing 32 = .ok (.aload_n 0, 1) := by decide +kernel
theorem dX11_thing_33 : decode cX11_thing 33 = .ok (.ldc 77, 2) := by decide +kernel
theorem dX11_thing_35 : decode cX11_thing 35 = .ok (.invokevirtual 67, 3) := by decide +kernel
theorem dX11_thing_38 : decode cX11_thing 38 = .ok (.ireturn, 1) := by decide +kernel
theorem dX11_thing_39 : decode cX11_thing 39 = .ok (.aload_n 0, 1) := by decide +kernel
theorem dX11_thing_40 : decode cX11_thing 40 = .ok (.iload_n 2, 1) := by decide +kernel
theorem dX11_thing_41 : decode cX11_thing 41 = .ok (.invokevirtual 78, 3) := by decide +kernel
theorem dX11_thing_44 : decode cX11_thing 44 = .ok (.ifCond .ne 10, 3) := by decide +kernel
theorem dX11_thing_47 : decode cX11_thing 47 = .ok (.aload_n 0, 1) := by decide +kernel
theorem dX11_thing_48 : decode cX11_thing 48 = .ok (.ldc 70, 2) := by decide +kernel
theorem dX11_thing_50 : decode cX11_thing 50 = .ok (.invokevirtual 67, 3) := by decide +kernel
theorem dX11_thing_53 : decode cX11_thing 53 = .ok (.ireturn, 1) := by decide +kernel
theorem dX11_thing_54 : decode cX11_thing 54 = .ok (.aload_n 0, 1) := by decide +kernel
theorem dX11_thing_55 : decode cX11_thing 55 = .ok (.getfield 9, 3) := by decide +kernel
theorem dX11_thing_58 : decode cX11_thing 58 = .ok (.iconst 2, 1) := by decide +kernel
theorem dX11_thing_59 : decode cX11_thing 59 = .ok (.iaload, 1) := by decide +kernel
theorem dX11_thing_60 : decode cX11_thing 60 = .ok (.istore_n 3, 1) := by decide +kernel
theorem dX11_thing_61 : decode cX11_thing 61 = .ok (.aload_n 0, 1) := by decide +kernel
theorem dX11_thing_62 : decode cX11_thing 62 = .ok (.getfield 9, 3) := by decide +kernel
theorem dX11_thing_65 : decode cX11_thing 65 = .ok (.iconst 2, 1) := by decide +kernel
theorem dX11_thing_66 : decode cX11_thing 66 = .ok (.dup2, 1) := by decide +kernel
theorem dX11_thing_67 : decode cX11_thing 67 = .ok (.iaload, 1) := by decide +kernel
theorem dX11_thing_68 : decode cX11_thing 68 = .ok (.iconst 1, 1) := by decide +kernel
theorem dX11_thing_69 : decode cX11_thing 69 = .ok (.iadd, 1) := by decide +kernel
theorem dX11_thing_70 : decode cX11_thing 70 = .ok (.iastore, 1) := by decide +kernel
theorem dX11_thing_71 : decode cX11_thing 71 = .ok (.aload_n 0, 1) := by decide +kernel
theorem dX11_thing_72 : decode cX11_thing 72 = .ok (.iload_n 3, 1) := by decide +kernel
theorem dX11_thing_73 : decode cX11_thing 73 = .ok (.iconst 0, 1) := by decide +kernel
theorem dX11_thing_74 : decode cX11_thing 74 = .ok (.iload_n 1, 1) := by decide +kernel
theorem dX11_thing_75 : decode cX11_thing 75 = .ok (.bipush 10, 2) := by decide +kernel
theorem dX11_thing_77 : decode cX11_thing 77 = .ok (.idiv, 1) := by decide +kernel
theorem dX11_thing_78 : decode cX11_thing 78 = .ok (.invokevirtual 81, 3) := by decide +kernel
theorem dX11_thing_81 : decode cX11_thing 81 = .ok (.aload_n 0, 1) := by decide +kernel
theorem dX11_thing_82 : decode cX11_thing 82 = .ok (.iload_n 3, 1) := by decide +kernel
theorem dX11_thing_83 : decode cX11_thing 83 = .ok (.iconst 1, 1) := by decide +kernel
theorem dX11_thing_84 : decode cX11_thing 84 = .ok (.iload_n 1, 1) := by decide +kernel
theorem dX11_thing_85 : decode cX11_thing 85 = .ok (.bipush 10, 2) := by decide +kernel
theorem dX11_thing_87 : decode cX11_thing 87 = .ok (.irem, 1) := by decide +kernel
theorem dX11_thing_88 : decode cX11_thing 88 = .ok (.invokevirtual 81, 3) := by decide +kernel
theorem dX11_thing_91 : decode cX11_thing 91 = .ok (.aload_n 0, 1) := by decide +kernel
theorem dX11_thing_92 : decode cX11_thing 92 = .ok (.iload_n 3, 1) := by decide +kernel
theorem dX11_thing_93 : decode cX11_thing 93 = .ok (.iconst 2, 1) := by decide +kernel
theorem dX11_thing_94 : decode cX11_thing 94 = .ok (.iload_n 2, 1) := by decide +kernel
theorem dX11_thing_95 : decode cX11_thing 95 = .ok (.invokevirtual 81, 3) := by decide +kernel
theorem dX11_thing_98 : decode cX11_thing 98 = .ok (.aload_n 0, 1) := by decide +kernel
theorem dX11_thing_99 : decode cX11_thing 99 = .ok (.iload_n 3, 1) := by decide +kernel
theorem dX11_thing_100 : decode cX11_thing 100 = .ok (.iconst 3, 1) := by decide +kernel
theorem dX11_thing_101 : decode cX11_thing 101 = .ok (.iconst 0, 1) := by decide +kernel
theorem dX11_thing_102 : decode cX11_thing 102 = .ok (.invokevirtual 81, 3) := by decide +kernel
theorem dX11_thing_105 : decode cX11_thing 105 = .ok (.aload_n 0, 1) := by decide +kernel
theorem dX11_thing_106 : decode cX11_thing 106 = .ok (.iload_n 3, 1) := by decide +kernel
theorem dX11_thing_107 : decode cX11_thing 107 = .ok (.iconst 4, 1) := by decide +kernel
theorem dX11_thing_108 : decode cX11_thing 108 = .ok (.iconst 0, 1) := by decide +kernel
theorem dX11_thing_109 : decode cX11_thing 109 = .ok (.invokevirtual 81, 3) := by decide +kernel
theorem dX11_thing_112 : decode cX11_thing 112 = .ok (.iload_n 3, 1) := by decide +kernel
theorem dX11_thing_113 : decode cX11_thing 113 = .ok (.ireturn, 1) := by decide +kernel
set_option maxRecDepth 20000 in
theorem ggX11_thingIs_X11_isThing : GoodIn wsX11_thingIs wsX11_isThing := goodIn_r _ [6, 7, 8, 9, 5, 10, 21, 22, 23, 24, 25, 26, 27, 28, 29, 30, 31, 32, 33, 34, 35, 36, 37, 38, 39, 40] (by decide +kernel) (by decide +kernel)
set_option maxRecDepth 20000 in
theorem gX11_thingIs_X11_isThing : GoodIn wsX11_thingIs (wsV RX11 85 RX11 yX11_isThing wsX11_isThing) := goodIn_app (goodIn_of _ (by decide +kernel)) ggX11_thingIs_X11_isThing
set_option maxRecDepth 20000 in
theorem ggX11_thingIs_X11_in : GoodIn wsX11_thingIs wsX11_in := goodIn_r _ [10] (by decide +kernel) (by decide +kernel)
set_option maxRecDepth 20000 in
theorem gX11_thingIs_X11_in : GoodIn wsX11_thingIs (va_wsS RX11 47 yX11_in wsX11_in) := goodIn_app (goodIn_of _ (by decide +kernel)) ggX11_thingIs_X11_in
set_option maxRecDepth 20000 in
theorem ggX11_thingIs_X11_of : GoodIn wsX11_thingIs wsX11_of := goodIn_r _ [14, 7, 21, 22, 23, 24, 25, 26, 27, 28, 29, 30, 31, 32, 33, 34, 35, 36, 37, 38, 39, 40] (by decide +kernel) (by decide +kernel)
set_option maxRecDepth 20000 in
theorem gX11_thingIs_X11_of : GoodIn wsX11_thingIs (wsV RX11 51 RX11 yX11_of wsX11_of) := goodIn_app (goodIn_of _ (by decide +kernel)) ggX11_thingIs_X11_of
set_option maxRecDepth 20000 in
theorem ggX11_thingIs_X11_error : GoodIn wsX11_thingIs wsX11_error := goodIn_r _ [18, 19, 20, 21, 22, 23, 24, 25, 26, 27, 28, 29, 30, 31, 32, 33, 34, 35, 36, 37, 38, 39, 40] (by decide +kernel) (by decide +kernel)
set_option maxRecDepth 20000 in
theorem gX11_thingIs_X11_error : GoodIn wsX11_thingIs (wsV RX11 67 RX11 yX11_error wsX11_error) := goodIn_app (goodIn_of _ (by decide +kernel)) ggX11_thingIs_X11_error
theorem dX11_thingIs_0 : decode cX11_thingIs 0 = .ok (.aload_n 0, 1) := by decide +kernel
theorem dX11_thingIs_1 : decode cX11_thingIs 1 = .ok (.iload_n 1, 1) := by decide +kernel
theorem dX11_thingIs_2 : decode cX11_thingIs 2 = .ok (.invokevirtual 85, 3) := by decide +kernel
theorem dX11_thingIs_5 : decode cX11_thingIs 5 = .ok (.ifCond .eq 21, 3) := by decide +kernel
theorem dX11_thingIs_8 : decode cX11_thingIs 8 = .ok (.iload_n 2, 1) := by decide +kernel
theorem dX11_thingIs_9 : decode cX11_thingIs 9 = .ok (.iconst 0, 1) := by decide +kernel
theorem dX11_thingIs_10 : decode cX11_thingIs 10 = .ok (.iconst 4, 1) := by decide +kernel
theorem dX11_thingIs_11 : decode cX11_thingIs 11 = .ok (.invokestatic 47, 3) := by decide +kernel
theorem dX11_thingIs_14 : decode cX11_thingIs 14 = .ok (.ifCond .eq 12, 3) := by decide +kernel
theorem dX11_thingIs_17 : decode cX11_thingIs 17 = .ok (.aload_n 0, 1) := by decide +kernel
theorem dX11_thingIs_18 : decode cX11_thingIs 18 = .ok (.iload_n 1, 1) := by decide +kernel
theorem dX11_thingIs_19 : decode cX11_thingIs 19 = .ok (.iload_n 2, 1) := by decide +kernel
theorem dX11_thingIs_20 : decode cX11_thingIs 20 = .ok (.invokevirtual 51, 3) := by decide +kernel
theorem dX11_thingIs_23 : decode cX11_thingIs 23 = .ok (.goto 9, 3) := by decide +kernel
theorem dX11_thingIs_26 : decode cX11_thingIs 26 = .ok (.aload_n 0, 1) := by decide +kernel
theorem dX11_thingIs_27 : decode cX11_thingIs 27 = .ok (.ldc 66, 2) := by decide +kernel
theorem dX11_thingIs_29 : decode cX11_thingIs 29 = .ok (.invokevirtual 67, 3) := by decide +kernel
theorem dX11_thingIs_32 : decode cX11_thingIs 32 = .ok (.ireturn, 1) := by decide +kernel
set_option maxRecDepth 20000 in
theorem ggX11_become_X11_isThing : GoodIn wsX11_become wsX11_isThing := goodIn_r _ [6, 7, 8, 9, 5, 10, 28, 29, 30, 31, 32, 33, 34, 35, 36, 37, 38, 39, 40, 41, 42, 43, 44, 45, 46, 47] (by decide +kernel) (by decide +kernel)
set_option maxRecDepth 20000 in
theorem gX11_become_X11_isThing : GoodIn wsX11_become (wsV RX11 85 RX11 yX11_isThing wsX11_isThing) := goodIn_app (goodIn_of _ (by decide +kernel)) ggX11_become_X11_isThing
set_option maxRecDepth 20000 in
theorem ggX11_become_X11_isKm : GoodIn wsX11_become wsX11_isKm := goodIn_r _ [13, 8, 9, 5, 10] (by decide +kernel) (by decide +kernel)
set_option maxRecDepth 20000 in
theorem gX11_become_X11_isKm : GoodIn wsX11_become (va_wsS RX11 74 yX11_isKm wsX11_isKm) := goodIn_app (goodIn_of _ (by decide +kernel)) ggX11_become_X11_isKm
set_option maxRecDepth 20000 in
theorem ggX11_become_X11_error : GoodIn wsX11_become wsX11_error := goodIn_r _ [17, 18, 19, 28, 29, 30, 31, 32, 33, 34, 35, 36, 37, 38, 39, 40, 41, 42, 43, 44, 45, 46, 47] (by decide +kernel) (by decide +kernel)
set_option maxRecDepth 20000 in
theorem gX11_become_X11_error : GoodIn wsX11_become (wsV RX11 67 RX11 yX11_error wsX11_error) := goodIn_app (goodIn_of _ (by decide +kernel)) ggX11_become_X11_error
set_option maxRecDepth 20000 in
theorem ggX11_become_X11_lay : GoodIn wsX11_become wsX11_lay := goodIn_r _ [23, 7, 28, 29, 30, 31, 32, 33, 34, 35, 36, 37, 38, 39, 40, 41, 42, 43, 44, 45, 46, 47] (by decide +kernel) (by decide +kernel)
set_option maxRecDepth 20000 in
theorem gX11_become_X11_lay : GoodIn wsX11_become (wsV RX11 81 RX11 yX11_lay wsX11_lay) := goodIn_app (goodIn_of _ (by decide +kernel)) ggX11_become_X11_lay
set_option maxRecDepth 20000 in
theorem ggX11_become_X11_becomes : GoodIn wsX11_become wsX11_becomes := goodIn_r _ [27, 7, 28, 29, 30, 31, 32, 33, 34, 35, 36, 37, 38, 39, 40, 41, 42, 43, 44, 45, 46, 47] (by decide +kernel) (by decide +kernel)
set_option maxRecDepth 20000 in
theorem gX11_become_X11_becomes : GoodIn wsX11_become (wsV RX11 71 RX11 yX11_becomes wsX11_becomes) := goodIn_app (goodIn_of _ (by decide +kernel)) ggX11_become_X11_becomes
theorem dX11_become_0 : decode cX11_become 0 = .ok (.aload_n 0, 1) := by decide +kernel
theorem dX11_become_1 : decode cX11_become 1 = .ok (.iload_n 1, 1) := by decide +kernel
theorem dX11_become_2 : decode cX11_become 2 = .ok (.invokevirtual 85, 3) := by decide +kernel
theorem dX11_become_5 : decode cX11_become 5 = .ok (.ifCond .eq 10, 3) := by decide +kernel
theorem dX11_become_8 : decode cX11_become 8 = .ok (.iload_n 2, 1) := by decide +kernel
theorem dX11_become_9 : decode cX11_become 9 = .ok (.invokestatic 74, 3) := by decide +kernel
theorem dX11_become_12 : decode cX11_become 12 = .ok (.ifCond .ne 10, 3) := by decide +kernel
theorem dX11_become_15 : decode cX11_become 15 = .ok (.aload_n 0, 1) := by decide +kernel
theorem dX11_become_16 : decode cX11_become 16 = .ok (.ldc 66, 2) := by decide +kernel
theorem dX11_become_18 : decode cX11_become 18 = .ok (.invokevirtual 67, 3) := by decide +kernel
theorem dX11_become_21 : decode cX11_become 21 = .ok (.ireturn, 1) := by decide +kernel
theorem dX11_become_22 : decode cX11_become 22 = .ok (.aload_n 0, 1) := by decide +kernel
theorem dX11_become_23 : decode cX11_become 23 = .ok (.iload_n 1, 1) := by decide +kernel
theorem dX11_become_24 : decode cX11_become 24 = .ok (.iconst 1, 1) := by decide +kernel
theorem dX11_become_25 : decode cX11_become 25 = .ok (.iload_n 2, 1) := by decide +kernel
theorem dX11_become_26 : decode cX11_become 26 = .ok (.bipush 10, 2) := by decide +kernel
theorem dX11_become_28 : decode cX11_become 28 = .ok (.irem, 1) := by decide +kernel
theorem dX11_become_29 : decode cX11_become 29 = .ok (.invokevirtual 81, 3) := by decide +kernel
theorem dX11_become_32 : decode cX11_become 32 = .ok (.aload_n 0, 1) := by decide +kernel
theorem dX11_become_33 : decode cX11_become 33 = .ok (.bipush 41, 2) := by decide +kernel
theorem dX11_become_35 : decode cX11_become 35 = .ok (.iconst 5, 1) := by decide +kernel
theorem dX11_become_36 : decode cX11_become 36 = .ok (.iload_n 1, 1) := by decide +kernel
theorem dX11_become_37 : decode cX11_become 37 = .ok (.imul, 1) := by decide +kernel
theorem dX11_become_38 : decode cX11_become 38 = .ok (.iadd, 1) := by decide +kernel
theorem dX11_become_39 : decode cX11_become 39 = .ok (.iload_n 2, 1) := by decide +kernel
theorem dX11_become_40 : decode cX11_become 40 = .ok (.bipush 10, 2) := by decide +kernel
theorem dX11_become_42 : decode cX11_become 42 = .ok (.idiv, 1) := by decide +kernel
theorem dX11_become_43 : decode cX11_become 43 = .ok (.invokevirtual 71, 3) := by decide +kernel
theorem dX11_become_46 : decode cX11_become 46 = .ok (.ireturn, 1) := by decide +kernel
set_option maxRecDepth 20000 in
theorem ggX11_as_X11_isThing : GoodIn wsX11_as wsX11_isThing := goodIn_r _ [7, 8, 9, 10, 6, 11, 22, 23, 24, 25, 26, 27, 28, 29, 30, 31, 32, 33, 34, 35, 36, 37, 38, 39, 40, 41] (by decide +kernel) (by decide +kernel)
set_option maxRecDepth 20000 in
theorem gX11_as_X11_isThing : GoodIn wsX11_as (wsV RX11 85 RX11 yX11_isThing wsX11_isThing) := goodIn_app (goodIn_of _ (by decide +kernel)) ggX11_as_X11_isThing
set_option maxRecDepth 20000 in
theorem ggX11_as_X11_in : GoodIn wsX11_as wsX11_in := goodIn_r _ [11] (by decide +kernel) (by decide +kernel)
set_option maxRecDepth 20000 in
theorem gX11_as_X11_in : GoodIn wsX11_as (va_wsS RX11 47 yX11_in wsX11_in) := goodIn_app (goodIn_of _ (by decide +kernel)) ggX11_as_X11_in
set_option maxRecDepth 20000 in
theorem ggX11_as_X11_error : GoodIn wsX11_as wsX11_error := goodIn_r _ [15, 16, 17, 22, 23, 24, 25, 26, 27, 28, 29, 30, 31, 32, 33, 34, 35, 36, 37, 38, 39, 40, 41] (by decide +kernel) (by decide +kernel)
set_option maxRecDepth 20000 in
theorem gX11_as_X11_error : GoodIn wsX11_as (wsV RX11 67 RX11 yX11_error wsX11_error) := goodIn_app (goodIn_of _ (by decide +kernel)) ggX11_as_X11_error
set_option maxRecDepth 20000 in
theorem ggX11_as_X11_of : GoodIn wsX11_as wsX11_of := goodIn_r _ [21, 8, 22, 23, 24, 25, 26, 27, 28, 29, 30, 31, 32, 33, 34, 35, 36, 37, 38, 39, 40, 41] (by decide +kernel) (by decide +kernel)
set_option maxRecDepth 20000 in
theorem gX11_as_X11_of : GoodIn wsX11_as (wsV RX11 51 RX11 yX11_of wsX11_of) := goodIn_app (goodIn_of _ (by decide +kernel)) ggX11_as_X11_of
theorem dX11_as_0 : decode cX11_as 0 = .ok (.aload_n 0, 1) := by decide +kernel
theorem dX11_as_1 : decode cX11_as 1 = .ok (.iload_n 1, 1) := by decide +kernel
theorem dX11_as_2 : decode cX11_as 2 = .ok (.invokevirtual 85, 3) := by decide +kernel
theorem dX11_as_5 : decode cX11_as 5 = .ok (.ifCond .eq 13, 3) := by decide +kernel
theorem dX11_as_8 : decode cX11_as 8 = .ok (.iload_n 2, 1) := by decide +kernel
theorem dX11_as_9 : decode cX11_as 9 = .ok (.iconst 0, 1) := by decide +kernel
theorem dX11_as_10 : decode cX11_as 10 = .ok (.bipush 6, 2) := by decide +kernel
theorem dX11_as_12 : decode cX11_as 12 = .ok (.invokestatic 47, 3) := by decide +kernel
theorem dX11_as_15 : decode cX11_as 15 = .ok (.ifCond .ne 10, 3) := by decide +kernel
theorem dX11_as_18 : decode cX11_as 18 = .ok (.aload_n 0, 1) := by decide +kernel
theorem dX11_as_19 : decode cX11_as 19 = .ok (.ldc 66, 2) := by decide +kernel
theorem dX11_as_21 : decode cX11_as 21 = .ok (.invokevirtual 67, 3) := by decide +kernel
theorem dX11_as_24 : decode cX11_as 24 = .ok (.ireturn, 1) := by decide +kernel
theorem dX11_as_25 : decode cX11_as 25 = .ok (.aload_n 0, 1) := by decide +kernel
theorem dX11_as_26 : decode cX11_as 26 = .ok (.iload_n 1, 1) := by decide +kernel
theorem dX11_as_27 : decode cX11_as 27 = .ok (.iconst 0, 1) := by decide +kernel
theorem dX11_as_28 : decode cX11_as 28 = .ok (.invokevirtual 51, 3) := by decide +kernel
theorem dX11_as_31 : decode cX11_as 31 = .ok (.istore_n 3, 1) := by decide +kernel
theorem dX11_as_32 : decode cX11_as 32 = .ok (.iload_n 2, 1) := by decide +kernel
theorem dX11_as_33 : decode cX11_as 33 = .ok (.ifCond .eq 28, 3) := by decide +kernel
theorem dX11_as_36 : decode cX11_as 36 = .ok (.iload_n 2, 1) := by decide +kernel
theorem dX11_as_37 : decode cX11_as 37 = .ok (.iload_n 3, 1) := by decide +kernel
theorem dX11_as_38 : decode cX11_as 38 = .ok (.if_icmp .eq 23, 3) := by decide +kernel
theorem dX11_as_41 : decode cX11_as 41 = .ok (.iload_n 2, 1) := by decide +kernel
theorem dX11_as_42 : decode cX11_as 42 = .ok (.iconst 1, 1) := by decide +kernel
theorem dX11_as_43 : decode cX11_as 43 = .ok (.if_icmp .ne 8, 3) := by decide +kernel
theorem dX11_as_46 : decode cX11_as 46 = .ok (.iload_n 3, 1) := by decide +kernel
theorem dX11_as_47 : decode cX11_as 47 = .ok (.iconst 4, 1) := by decide +kernel
theorem dX11_as_48 : decode cX11_as 48 = .ok (.if_icmp .eq 13, 3) := by decide +kernel
theorem dX11_as_51 : decode cX11_as 51 = .ok (.iload_n 2, 1) := by decide +kernel
theorem dX11_as_52 : decode cX11_as 52 = .ok (.iconst 2, 1) := by decide +kernel
theorem dX11_as_53 : decode cX11_as 53 = .ok (.if_icmp .ne 12, 3) := by decide +kernel
theorem dX11_as_56 : decode cX11_as 56 = .ok (.iload_n 3, 1) := by decide +kernel
theorem dX11_as_57 : decode cX11_as 57 = .ok (.iconst 5, 1) := by decide +kernel
theorem dX11_as_58 : decode cX11_as 58 = .ok (.if_icmp .ne 7, 3) := by decide +kernel
theorem dX11_as_61 : decode cX11_as 61 = .ok (.iconst 1, 1) := by decide +kernel
theorem dX11_as_62 : decode cX11_as 62 = .ok (.goto 4, 3) := by decide +kernel
theorem dX11_as_65 : decode cX11_as 65 = .ok (.iconst 0, 1) := by decide +kernel
theorem dX11_as_66 : decode cX11_as 66 = .ok (.istore 4, 2) := by decide +kernel
theorem dX11_as_68 : decode cX11_as 68 = .ok (.iload 4, 2) := by decide +kernel
theorem dX11_as_70 : decode cX11_as 70 = .ok (.ifCond .eq 12, 3) := by decide +kernel
theorem dX11_as_73 : decode cX11_as 73 = .ok (.aload_n 0, 1) := by decide +kernel
theorem dX11_as_74 : decode cX11_as 74 = .ok (.iload_n 1, 1) := by decide +kernel
theorem dX11_as_75 : decode cX11_as 75 = .ok (.iconst 1, 1) := by decide +kernel
theorem dX11_as_76 : decode cX11_as 76 = .ok (.invokevirtual 51, 3) := by decide +kernel
theorem dX11_as_79 : decode cX11_as 79 = .ok (.goto 9, 3) := by decide +kernel
theorem dX11_as_82 : decode cX11_as 82 = .ok (.aload_n 0, 1) := by decide +kernel
theorem dX11_as_83 : decode cX11_as 83 = .ok (.ldc 88, 2) := by decide +kernel
theorem dX11_as_85 : decode cX11_as 85 = .ok (.invokevirtual 67, 3) := by decide +kernel
theorem dX11_as_88 : decode cX11_as 88 = .ok (.ireturn, 1) := by decide +kernel
set_option maxRecDepth 20000 in
theorem ggX11_carry_X11_isThing : GoodIn wsX11_carry wsX11_isThing := goodIn_r _ [7, 8, 9, 10, 6, 11, 41, 42, 43, 44, 45, 46, 47, 48, 49, 50, 51, 52, 53, 54, 55, 56, 57, 58, 59, 60] (by decide +kernel) (by decide +kernel)
set_option maxRecDepth 20000 in
theorem gX11_carry_X11_isThing : GoodIn wsX11_carry (wsV RX11 85 RX11 yX11_isThing wsX11_isThing) := goodIn_app (goodIn_of _ (by decide +kernel)) ggX11_carry_X11_isThing
set_option maxRecDepth 20000 in
theorem ggX11_carry_X11_isCell : GoodIn wsX11_carry wsX11_isCell := goodIn_r _ [14, 9, 10, 6, 11] (by decide +kernel) (by decide +kernel)
set_option maxRecDepth 20000 in
theorem gX11_carry_X11_isCell : GoodIn wsX11_carry (va_wsS RX11 63 yX11_isCell wsX11_isCell) := goodIn_app (goodIn_of _ (by decide +kernel)) ggX11_carry_X11_isCell
set_option maxRecDepth 20000 in
theorem ggX11_carry_X11_error : GoodIn wsX11_carry wsX11_error := goodIn_r _ [18, 19, 20, 41, 42, 43, 44, 45, 46, 47, 48, 49, 50, 51, 52, 53, 54, 55, 56, 57, 58, 59, 60] (by decide +kernel) (by decide +kernel)
set_option maxRecDepth 20000 in
theorem gX11_carry_X11_error : GoodIn wsX11_carry (wsV RX11 67 RX11 yX11_error wsX11_error) := goodIn_app (goodIn_of _ (by decide +kernel)) ggX11_carry_X11_error
set_option maxRecDepth 20000 in
theorem ggX11_carry_X11_of : GoodIn wsX11_carry wsX11_of := goodIn_r _ [24, 8, 41, 42, 43, 44, 45, 46, 47, 48, 49, 50, 51, 52, 53, 54, 55, 56, 57, 58, 59, 60] (by decide +kernel) (by decide +kernel)
set_option maxRecDepth 20000 in
theorem gX11_carry_X11_of : GoodIn wsX11_carry (wsV RX11 51 RX11 yX11_of wsX11_of) := goodIn_app (goodIn_of _ (by decide +kernel)) ggX11_carry_X11_of
set_option maxRecDepth 20000 in
theorem ggX11_carry_X11_isFree : GoodIn wsX11_carry wsX11_isFree := goodIn_r _ [28, 29, 30, 31, 6, 32, 8, 33, 34, 35, 36, 21, 22, 23, 24, 41, 42, 43, 44, 45, 46, 47, 48, 49, 50, 51, 52, 53, 54, 55, 56, 57, 58, 59, 60] (by decide +kernel) (by decide +kernel)
set_option maxRecDepth 20000 in
theorem gX11_carry_X11_isFree : GoodIn wsX11_carry (wsV RX11 78 RX11 yX11_isFree wsX11_isFree) := goodIn_app (goodIn_of _ (by decide +kernel)) ggX11_carry_X11_isFree
set_option maxRecDepth 20000 in
theorem ggX11_carry_X11_becomes : GoodIn wsX11_carry wsX11_becomes := goodIn_r _ [40, 8, 41, 42, 43, 44, 45, 46, 47, 48, 49, 50, 51, 52, 53, 54, 55, 56, 57, 58, 59, 60] (by decide +kernel) (by decide +kernel)
set_option maxRecDepth 20000 in
theorem gX11_carry_X11_becomes : GoodIn wsX11_carry (wsV RX11 71 RX11 yX11_becomes wsX11_becomes) := goodIn_app (goodIn_of _ (by decide +kernel)) ggX11_carry_X11_becomes
theorem dX11_carry_0 : decode cX11_carry 0 = .ok (.aload_n 0, 1) := by decide +kernel
theorem dX11_carry_1 : decode cX11_carry 1 = .ok (.iload_n 1, 1) := by decide +kernel
theorem dX11_carry_2 : decode cX11_carry 2 = .ok (.invokevirtual 85, 3) := by decide +kernel
theorem dX11_carry_5 : decode cX11_carry 5 = .ok (.ifCond .eq 10, 3) := by decide +kernel
theorem dX11_carry_8 : decode cX11_carry 8 = .ok (.iload_n 2, 1) := by decide +kernel
theorem dX11_carry_9 : decode cX11_carry 9 = .ok (.invokestatic 63, 3) := by decide +kernel
theorem dX11_carry_12 : decode cX11_carry 12 = .ok (.ifCond .ne 10, 3) := by decide +kernel
theorem dX11_carry_15 : decode cX11_carry 15 = .ok (.aload_n 0, 1) := by decide +kernel
theorem dX11_carry_16 : decode cX11_carry 16 = .ok (.ldc 66, 2) := by decide +kernel
theorem dX11_carry_18 : decode cX11_carry 18 = .ok (.invokevirtual 67, 3) := by decide +kernel
theorem dX11_carry_21 : decode cX11_carry 21 = .ok (.ireturn, 1) := by decide +kernel
theorem dX11_carry_22 : decode cX11_carry 22 = .ok (.aload_n 0, 1) := by decide +kernel
theorem dX11_carry_23 : decode cX11_carry 23 = .ok (.iload_n 1, 1) := by decide +kernel
theorem dX11_carry_24 : decode cX11_carry 24 = .ok (.iconst 2, 1) := by decide +kernel
theorem dX11_carry_25 : decode cX11_carry 25 = .ok (.invokevirtual 51, 3) := by decide +kernel
theorem dX11_carry_28 : decode cX11_carry 28 = .ok (.iload_n 2, 1) := by decide +kernel
theorem dX11_carry_29 : decode cX11_carry 29 = .ok (.if_icmp .eq 11, 3) := by decide +kernel
theorem dX11_carry_32 : decode cX11_carry 32 = .ok (.aload_n 0, 1) := by decide +kernel
theorem dX11_carry_33 : decode cX11_carry 33 = .ok (.iload_n 2, 1) := by decide +kernel
theorem dX11_carry_34 : decode cX11_carry 34 = .ok (.invokevirtual 78, 3) := by decide +kernel
theorem dX11_carry_37 : decode cX11_carry 37 = .ok (.ifCond .eq 7, 3) := by decide +kernel
theorem dX11_carry_40 : decode cX11_carry 40 = .ok (.iconst 1, 1) := by decide +kernel
theorem dX11_carry_41 : decode cX11_carry 41 = .ok (.goto 4, 3) := by decide +kernel
theorem dX11_carry_44 : decode cX11_carry 44 = .ok (.iconst 0, 1) := by decide +kernel
theorem dX11_carry_45 : decode cX11_carry 45 = .ok (.istore_n 3, 1) := by decide +kernel
theorem dX11_carry_46 : decode cX11_carry 46 = .ok (.iload_n 3, 1) := by decide +kernel
theorem dX11_carry_47 : decode cX11_carry 47 = .ok (.ifCond .eq 19, 3) := by decide +kernel
theorem dX11_carry_50 : decode cX11_carry 50 = .ok (.aload_n 0, 1) := by decide +kernel
theorem dX11_carry_51 : decode cX11_carry 51 = .ok (.bipush 41, 2) := by decide +kernel
theorem dX11_carry_53 : decode cX11_carry 53 = .ok (.iconst 5, 1) := by decide +kernel
theorem dX11_carry_54 : decode cX11_carry 54 = .ok (.iload_n 1, 1) := by decide +kernel
theorem dX11_carry_55 : decode cX11_carry 55 = .ok (.imul, 1) := by decide +kernel
theorem dX11_carry_56 : decode cX11_carry 56 = .ok (.iadd, 1) := by decide +kernel
theorem dX11_carry_57 : decode cX11_carry 57 = .ok (.iconst 2, 1) := by decide +kernel
theorem dX11_carry_58 : decode cX11_carry 58 = .ok (.iadd, 1) := by decide +kernel
theorem dX11_carry_59 : decode cX11_carry 59 = .ok (.iload_n 2, 1) := by decide +kernel
theorem dX11_carry_60 : decode cX11_carry 60 = .ok (.invokevirtual 71, 3) := by decide +kernel
theorem dX11_carry_63 : decode cX11_carry 63 = .ok (.goto 9, 3) := by decide +kernel
theorem dX11_carry_66 : decode cX11_carry 66 = .ok (.aload_n 0, 1) := by decide +kernel
theorem dX11_carry_67 : decode cX11_carry 67 = .ok (.ldc 70, 2) := by decide +kernel
theorem dX11_carry_69 : decode cX11_carry 69 = .ok (.invokevirtual 67, 3) := by decide +kernel
theorem dX11_carry_72 : decode cX11_carry 72 = .ok (.ireturn, 1) := by decide +kernel
set_option maxRecDepth 20000 in
theorem ggX11_clock_X11_in : GoodIn wsX11_clock wsX11_in := goodIn_r _ [5] (by decide +kernel) (by decide +kernel)
set_option maxRecDepth 20000 in
theorem gX11_clock_X11_in : GoodIn wsX11_clock (va_wsS RX11 47 yX11_in wsX11_in) := goodIn_app (goodIn_of _ (by decide +kernel)) ggX11_clock_X11_in
set_option maxRecDepth 20000 in
theorem ggX11_clock_X11_becomes : GoodIn wsX11_clock wsX11_becomes := goodIn_r _ [9, 10, 17, 18, 19, 20, 21, 22, 23, 24, 25, 26, 27, 28, 29, 30, 31, 32, 33, 34, 35, 36] (by decide +kernel) (by decide +kernel)
set_option maxRecDepth 20000 in
theorem gX11_clock_X11_becomes : GoodIn wsX11_clock (wsV RX11 71 RX11 yX11_becomes wsX11_becomes) := goodIn_app (goodIn_of _ (by decide +kernel)) ggX11_clock_X11_becomes
set_option maxRecDepth 20000 in
theorem ggX11_clock_X11_error : GoodIn wsX11_clock wsX11_error := goodIn_r _ [14, 15, 16, 17, 18, 19, 20, 21, 22, 23, 24, 25, 26, 27, 28, 29, 30, 31, 32, 33, 34, 35, 36] (by decide +kernel) (by decide +kernel)
set_option maxRecDepth 20000 in
theorem gX11_clock_X11_error : GoodIn wsX11_clock (wsV RX11 67 RX11 yX11_error wsX11_error) := goodIn_app (goodIn_of _ (by decide +kernel)) ggX11_clock_X11_error
theorem dX11_clock_0 : decode cX11_clock 0 = .ok (.iload_n 1, 1) := by decide +kernel
theorem dX11_clock_1 : decode cX11_clock 1 = .ok (.iconst 0, 1) := by decide +kernel
theorem dX11_clock_2 : decode cX11_clock 2 = .ok (.sipush 9999, 3) := by decide +kernel
theorem dX11_clock_5 : decode cX11_clock 5 = .ok (.invokestatic 47, 3) := by decide +kernel
theorem dX11_clock_8 : decode cX11_clock 8 = .ok (.ifCond .eq 12, 3) := by decide +kernel
theorem dX11_clock_11 : decode cX11_clock 11 = .ok (.aload_n 0, 1) := by decide +kernel
theorem dX11_clock_12 : decode cX11_clock 12 = .ok (.iconst 0, 1) := by decide +kernel
theorem dX11_clock_13 : decode cX11_clock 13 = .ok (.iload_n 1, 1) := by decide +kernel
theorem dX11_clock_14 : decode cX11_clock 14 = .ok (.invokevirtual 71, 3) := by decide +kernel
theorem dX11_clock_17 : decode cX11_clock 17 = .ok (.goto 9, 3) := by decide +kernel
theorem dX11_clock_20 : decode cX11_clock 20 = .ok (.aload_n 0, 1) := by decide +kernel
theorem dX11_clock_21 : decode cX11_clock 21 = .ok (.ldc 66, 2) := by decide +kernel
theorem dX11_clock_23 : decode cX11_clock 23 = .ok (.invokevirtual 67, 3) := by decide +kernel
theorem dX11_clock_26 : decode cX11_clock 26 = .ok (.ireturn, 1) := by decide +kernel
set_option maxRecDepth 20000 in
theorem ggX11_feed_X11_in : GoodIn wsX11_feed wsX11_in := goodIn_r _ [8] (by decide +kernel) (by decide +kernel)
set_option maxRecDepth 20000 in
theorem gX11_feed_X11_in : GoodIn wsX11_feed (va_wsS RX11 47 yX11_in wsX11_in) := goodIn_app (goodIn_of _ (by decide +kernel)) ggX11_feed_X11_in
set_option maxRecDepth 20000 in
theorem ggX11_feed_X11_error : GoodIn wsX11_feed wsX11_error := goodIn_r _ [12, 13, 14, 15, 16, 17, 18, 19, 20, 21, 22, 23, 24, 25, 26, 27, 28, 29, 30, 31, 32, 33, 34] (by decide +kernel) (by decide +kernel)
set_option maxRecDepth 20000 in
theorem gX11_feed_X11_error : GoodIn wsX11_feed (wsV RX11 67 RX11 yX11_error wsX11_error) := goodIn_app (goodIn_of _ (by decide +kernel)) ggX11_feed_X11_error
theorem dX11_feed_0 : decode cX11_feed 0 = .ok (.iload_n 3, 1) := by decide +kernel
theorem dX11_feed_1 : decode cX11_feed 1 = .ok (.iconst 1, 1) := by decide +kernel
theorem dX11_feed_2 : decode cX11_feed 2 = .ok (.bipush 8, 2) := by decide +kernel
theorem dX11_feed_4 : decode cX11_feed 4 = .ok (.invokestatic 47, 3) := by decide +kernel
theorem dX11_feed_7 : decode cX11_feed 7 = .ok (.ifCond .ne 10, 3) := by decide +kernel
theorem dX11_feed_10 : decode cX11_feed 10 = .ok (.aload_n 0, 1) := by decide +kernel
theorem dX11_feed_11 : decode cX11_feed 11 = .ok (.ldc 66, 2) := by decide +kernel
theorem dX11_feed_13 : decode cX11_feed 13 = .ok (.invokevirtual 67, 3) := by decide +kernel
theorem dX11_feed_16 : decode cX11_feed 16 = .ok (.ireturn, 1) := by decide +kernel
theorem dX11_feed_17 : decode cX11_feed 17 = .ok (.aload_n 0, 1) := by decide +kernel
theorem dX11_feed_18 : decode cX11_feed 18 = .ok (.getfield 9, 3) := by decide +kernel
theorem dX11_feed_21 : decode cX11_feed 21 = .ok (.iconst 3, 1) := by decide +kernel
theorem dX11_feed_22 : decode cX11_feed 22 = .ok (.iaload, 1) := by decide +kernel
theorem dX11_feed_23 : decode cX11_feed 23 = .ok (.iload_n 3, 1) := by decide +kernel
theorem dX11_feed_24 : decode cX11_feed 24 = .ok (.iadd, 1) := by decide +kernel
theorem dX11_feed_25 : decode cX11_feed 25 = .ok (.bipush 60, 2) := by decide +kernel
theorem dX11_feed_27 : decode cX11_feed 27 = .ok (.if_icmp .le 10, 3) := by decide +kernel
theorem dX11_feed_30 : decode cX11_feed 30 = .ok (.aload_n 0, 1) := by decide +kernel
theorem dX11_feed_31 : decode cX11_feed 31 = .ok (.ldc 77, 2) := by decide +kernel
theorem dX11_feed_33 : decode cX11_feed 33 = .ok (.invokevirtual 67, 3) := by decide +kernel
theorem dX11_feed_36 : decode cX11_feed 36 = .ok (.ireturn, 1) := by decide +kernel
theorem dX11_feed_37 : decode cX11_feed 37 = .ok (.iconst 0, 1) := by decide +kernel
theorem dX11_feed_38 : decode cX11_feed 38 = .ok (.istore 4, 2) := by decide +kernel
theorem dX11_feed_40 : decode cX11_feed 40 = .ok (.iload 4, 2) := by decide +kernel
theorem dX11_feed_42 : decode cX11_feed 42 = .ok (.iload_n 3, 1) := by decide +kernel
theorem dX11_feed_43 : decode cX11_feed 43 = .ok (.if_icmp .ge 45, 3) := by decide +kernel
theorem dX11_feed_46 : decode cX11_feed 46 = .ok (.aload_n 0, 1) := by decide +kernel
theorem dX11_feed_47 : decode cX11_feed 47 = .ok (.getfield 9, 3) := by decide +kernel
theorem dX11_feed_50 : decode cX11_feed 50 = .ok (.bipush 71, 2) := by decide +kernel
theorem dX11_feed_52 : decode cX11_feed 52 = .ok (.aload_n 0, 1) := by decide +kernel
theorem dX11_feed_53 : decode cX11_feed 53 = .ok (.getfield 9, 3) := by decide +kernel
theorem dX11_feed_56 : decode cX11_feed 56 = .ok (.iconst 3, 1) := by decide +kernel
theorem dX11_feed_57 : decode cX11_feed 57 = .ok (.iaload, 1) := by decide +kernel
theorem dX11_feed_58 : decode cX11_feed 58 = .ok (.iadd, 1) := by decide +kernel
theorem dX11_feed_59 : decode cX11_feed 59 = .ok (.lload_n 1, 1) := by decide +kernel
theorem dX11_feed_60 : decode cX11_feed 60 = .ok (.bipush 8, 2) := by decide +kernel
theorem dX11_feed_62 : decode cX11_feed 62 = .ok (.iload 4, 2) := by decide +kernel
theorem dX11_feed_64 : decode cX11_feed 64 = .ok (.imul, 1) := by decide +kernel
theorem dX11_feed_65 : decode cX11_feed 65 = .ok (.lshr, 1) := by decide +kernel
theorem dX11_feed_66 : decode cX11_feed 66 = .ok (.ldc2_w 89, 3) := by decide +kernel
theorem dX11_feed_69 : decode cX11_feed 69 = .ok (.land, 1) := by decide +kernel
theorem dX11_feed_70 : decode cX11_feed 70 = .ok (.l2i, 1) := by decide +kernel
theorem dX11_feed_71 : decode cX11_feed 71 = .ok (.iastore, 1) := by decide +kernel
theorem dX11_feed_72 : decode cX11_feed 72 = .ok (.aload_n 0, 1) := by decide +kernel
theorem dX11_feed_73 : decode cX11_feed 73 = .ok (.getfield 9, 3) := by decide +kernel
theorem dX11_feed_76 : decode cX11_feed 76 = .ok (.iconst 3, 1) := by decide +kernel
theorem dX11_feed_77 : decode cX11_feed 77 = .ok (.dup2, 1) := by decide +kernel
theorem dX11_feed_78 : decode cX11_feed 78 = .ok (.iaload, 1) := by decide +kernel
theorem dX11_feed_79 : decode cX11_feed 79 = .ok (.iconst 1, 1) := by decide +kernel
theorem dX11_feed_80 : decode cX11_feed 80 = .ok (.iadd, 1) := by decide +kernel
theorem dX11_feed_81 : decode cX11_feed 81 = .ok (.iastore, 1) := by decide +kernel
theorem dX11_feed_82 : decode cX11_feed 82 = .ok (.iinc 4 1, 3) := by decide +kernel
theorem dX11_feed_85 : decode cX11_feed 85 = .ok (.goto (-45), 3) := by decide +kernel
theorem dX11_feed_88 : decode cX11_feed 88 = .ok (.aload_n 0, 1) := by decide +kernel
theorem dX11_feed_89 : decode cX11_feed 89 = .ok (.getfield 9, 3) := by decide +kernel
theorem dX11_feed_92 : decode cX11_feed 92 = .ok (.iconst 3, 1) := by decide +kernel
theorem dX11_feed_93 : decode cX11_feed 93 = .ok (.iaload, 1) := by decide +kernel
theorem dX11_feed_94 : decode cX11_feed 94 = .ok (.ireturn, 1) := by decide +kernel
theorem dX11_look_0 : decode cX11_look 0 = .ok (.aload_n 0, 1) := by decide +kernel
theorem dX11_look_1 : decode cX11_look 1 = .ok (.getfield 91, 3) := by decide +kernel
theorem dX11_look_4 : decode cX11_look 4 = .ok (.aload_n 0, 1) := by decide +kernel
theorem dX11_look_5 : decode cX11_look 5 = .ok (.getfield 9, 3) := by decide +kernel
theorem dX11_look_8 : decode cX11_look 8 = .ok (.iconst 3, 1) := by decide +kernel
theorem dX11_look_9 : decode cX11_look 9 = .ok (.iaload, 1) := by decide +kernel
theorem dX11_look_10 : decode cX11_look 10 = .ok (.if_icmp .ge 18, 3) := by decide +kernel
theorem dX11_look_13 : decode cX11_look 13 = .ok (.aload_n 0, 1) := by decide +kernel
theorem dX11_look_14 : decode cX11_look 14 = .ok (.getfield 9, 3) := by decide +kernel
theorem dX11_look_17 : decode cX11_look 17 = .ok (.bipush 71, 2) := by decide +kernel
theorem dX11_look_19 : decode cX11_look 19 = .ok (.aload_n 0, 1) := by decide +kernel
theorem dX11_look_20 : decode cX11_look 20 = .ok (.getfield 91, 3) := by decide +kernel
theorem dX11_look_23 : decode cX11_look 23 = .ok (.iadd, 1) := by decide +kernel
theorem dX11_look_24 : decode cX11_look 24 = .ok (.iaload, 1) := by decide +kernel
theorem dX11_look_25 : decode cX11_look 25 = .ok (.goto 4, 3) := by decide +kernel
theorem dX11_look_28 : decode cX11_look 28 = .ok (.iconst (-1), 1) := by decide +kernel
theorem dX11_look_29 : decode cX11_look 29 = .ok (.ireturn, 1) := by decide +kernel
theorem dX11_step_0 : decode cX11_step 0 = .ok (.aload_n 0, 1) := by decide +kernel
theorem dX11_step_1 : decode cX11_step 1 = .ok (.getfield 95, 3) := by decide +kernel
theorem dX11_step_4 : decode cX11_step 4 = .ok (.aload_n 0, 1) := by decide +kernel
theorem dX11_step_5 : decode cX11_step 5 = .ok (.getfield 22, 3) := by decide +kernel
theorem dX11_step_8 : decode cX11_step 8 = .ok (.arraylength, 1) := by decide +kernel
theorem dX11_step_9 : decode cX11_step 9 = .ok (.if_icmp .ge 33, 3) := by decide +kernel
theorem dX11_step_12 : decode cX11_step 12 = .ok (.aload_n 0, 1) := by decide +kernel
theorem dX11_step_13 : decode cX11_step 13 = .ok (.getfield 22, 3) := by decide +kernel
theorem dX11_step_16 : decode cX11_step 16 = .ok (.aload_n 0, 1) := by decide +kernel
theorem dX11_step_17 : decode cX11_step 17 = .ok (.getfield 95, 3) := by decide +kernel
theorem dX11_step_20 : decode cX11_step 20 = .ok (.iload_n 1, 1) := by decide +kernel
theorem dX11_step_21 : decode cX11_step 21 = .ok (.iastore, 1) := by decide +kernel
theorem dX11_step_22 : decode cX11_step 22 = .ok (.aload_n 0, 1) := by decide +kernel
theorem dX11_step_23 : decode cX11_step 23 = .ok (.getfield 25, 3) := by decide +kernel
theorem dX11_step_26 : decode cX11_step 26 = .ok (.aload_n 0, 1) := by decide +kernel
theorem dX11_step_27 : decode cX11_step 27 = .ok (.getfield 95, 3) := by decide +kernel
theorem dX11_step_30 : decode cX11_step 30 = .ok (.iload_n 2, 1) := by decide +kernel
theorem dX11_step_31 : decode cX11_step 31 = .ok (.iastore, 1) := by decide +kernel
theorem dX11_step_32 : decode cX11_step 32 = .ok (.aload_n 0, 1) := by decide +kernel
theorem dX11_step_33 : decode cX11_step 33 = .ok (.dup, 1) := by decide +kernel
theorem dX11_step_34 : decode cX11_step 34 = .ok (.getfield 95, 3) := by decide +kernel
theorem dX11_step_37 : decode cX11_step 37 = .ok (.iconst 1, 1) := by decide +kernel
theorem dX11_step_38 : decode cX11_step 38 = .ok (.iadd, 1) := by decide +kernel
theorem dX11_step_39 : decode cX11_step 39 = .ok (.putfield 95, 3) := by decide +kernel
theorem dX11_step_42 : decode cX11_step 42 = .ok (.return_, 1) := by decide +kernel
theorem dX11_nameOf_0 : decode cX11_nameOf 0 = .ok (.iload_n 1, 1) := by decide +kernel
theorem dX11_nameOf_1 : decode cX11_nameOf 1 = .ok (.tableswitch 126 100 110 #[59, 126, 92, 126, 59, 126, 126, 92, 126, 92, 59], 59) := by decide +kernel
theorem dX11_nameOf_60 : decode cX11_nameOf 60 = .ok (.aload_n 0, 1) := by decide +kernel
theorem dX11_nameOf_61 : decode cX11_nameOf 61 = .ok (.getfield 98, 3) := by decide +kernel
theorem dX11_nameOf_64 : decode cX11_nameOf 64 = .ok (.ifCond .eq 7, 3) := by decide +kernel
theorem dX11_nameOf_67 : decode cX11_nameOf 67 = .ok (.iconst (-1), 1) := by decide +kernel
theorem dX11_nameOf_68 : decode cX11_nameOf 68 = .ok (.goto 24, 3) := by decide +kernel
theorem dX11_nameOf_71 : decode cX11_nameOf 71 = .ok (.iload_n 1, 1) := by decide +kernel
theorem dX11_nameOf_72 : decode cX11_nameOf 72 = .ok (.bipush 104, 2) := by decide +kernel
theorem dX11_nameOf_74 : decode cX11_nameOf 74 = .ok (.if_icmp .ne 7, 3) := by decide +kernel
theorem dX11_nameOf_77 : decode cX11_nameOf 77 = .ok (.iconst 0, 1) := by decide +kernel
theorem dX11_nameOf_78 : decode cX11_nameOf 78 = .ok (.goto 14, 3) := by decide +kernel
theorem dX11_nameOf_81 : decode cX11_nameOf 81 = .ok (.iload_n 1, 1) := by decide +kernel
theorem dX11_nameOf_82 : decode cX11_nameOf 82 = .ok (.bipush 100, 2) := by decide +kernel
theorem dX11_nameOf_84 : decode cX11_nameOf 84 = .ok (.if_icmp .ne 7, 3) := by decide +kernel
theorem dX11_nameOf_87 : decode cX11_nameOf 87 = .ok (.iconst 1, 1) := by decide +kernel
theorem dX11_nameOf_88 : decode cX11_nameOf 88 = .ok (.goto 4, 3) := by decide +kernel
theorem dX11_nameOf_91 : decode cX11_nameOf 91 = .ok (.iconst 2, 1) := by decide +kernel
theorem dX11_nameOf_92 : decode cX11_nameOf 92 = .ok (.ireturn, 1) := by decide +kernel
theorem dX11_nameOf_93 : decode cX11_nameOf 93 = .ok (.aload_n 0, 1) := by decide +kernel
theorem dX11_nameOf_94 : decode cX11_nameOf 94 = .ok (.getfield 98, 3) := by decide +kernel
theorem dX11_nameOf_97 : decode cX11_nameOf 97 = .ok (.iconst 1, 1) := by decide +kernel
theorem dX11_nameOf_98 : decode cX11_nameOf 98 = .ok (.if_icmp .eq 7, 3) := by decide +kernel
theorem dX11_nameOf_101 : decode cX11_nameOf 101 = .ok (.iconst (-1), 1) := by decide +kernel
theorem dX11_nameOf_102 : decode cX11_nameOf 102 = .ok (.goto 24, 3) := by decide +kernel
theorem dX11_nameOf_105 : decode cX11_nameOf 105 = .ok (.iload_n 1, 1) := by decide +kernel
theorem dX11_nameOf_106 : decode cX11_nameOf 106 = .ok (.bipush 102, 2) := by decide +kernel
theorem dX11_nameOf_108 : decode cX11_nameOf 108 = .ok (.if_icmp .ne 7, 3) := by decide +kernel
theorem dX11_nameOf_111 : decode cX11_nameOf 111 = .ok (.iconst 0, 1) := by decide +kernel
theorem dX11_nameOf_112 : decode cX11_nameOf 112 = .ok (.goto 14, 3) := by decide +kernel
theorem dX11_nameOf_115 : decode cX11_nameOf 115 = .ok (.iload_n 1, 1) := by decide +kernel
theorem dX11_nameOf_116 : decode cX11_nameOf 116 = .ok (.bipush 109, 2) := by decide +kernel
theorem dX11_nameOf_118 : decode cX11_nameOf 118 = .ok (.if_icmp .ne 7, 3) := by decide +kernel
theorem dX11_nameOf_121 : decode cX11_nameOf 121 = .ok (.iconst 1, 1) := by decide +kernel
theorem dX11_nameOf_122 : decode cX11_nameOf 122 = .ok (.goto 4, 3) := by decide +kernel
theorem dX11_nameOf_125 : decode cX11_nameOf 125 = .ok (.iconst 2, 1) := by decide +kernel
theorem dX11_nameOf_126 : decode cX11_nameOf 126 = .ok (.ireturn, 1) := by decide +kernel
theorem dX11_nameOf_127 : decode cX11_nameOf 127 = .ok (.iconst (-1), 1) := by decide +kernel
theorem dX11_nameOf_128 : decode cX11_nameOf 128 = .ok (.ireturn, 1) := by decide +kernel
set_option maxRecDepth 20000 in
theorem ggX11_number_X11_look : GoodIn wsX11_number wsX11_look := goodIn_r _ [7, 1, 8, 19, 20, 21, 22, 23, 24, 25, 26, 27, 28, 29, 30, 31, 32, 33, 34, 35, 36, 37, 38] (by decide +kernel) (by decide +kernel)
set_option maxRecDepth 20000 in
theorem gX11_number_X11_look : GoodIn wsX11_number (wsV RX11 101 RX11 yX11_look wsX11_look) := goodIn_app (goodIn_of _ (by decide +kernel)) ggX11_number_X11_look
set_option maxRecDepth 20000 in
theorem ggX11_number_X11_in : GoodIn wsX11_number wsX11_in := goodIn_r _ [11] (by decide +kernel) (by decide +kernel)
set_option maxRecDepth 20000 in
theorem gX11_number_X11_in : GoodIn wsX11_number (va_wsS RX11 47 yX11_in wsX11_in) := goodIn_app (goodIn_of _ (by decide +kernel)) ggX11_number_X11_in
set_option maxRecDepth 20000 in
theorem ggX11_number_X11_step : GoodIn wsX11_number wsX11_step := goodIn_r _ [15, 16, 17, 18, 19, 20, 21, 22, 23, 24, 25, 26, 27, 28, 29, 30, 31, 32, 33, 34, 35, 36, 37, 38] (by decide +kernel) (by decide +kernel)
set_option maxRecDepth 20000 in
theorem gX11_number_X11_step : GoodIn wsX11_number (wsV RX11 109 RX11 yX11_step wsX11_step) := goodIn_app (goodIn_of _ (by decide +kernel)) ggX11_number_X11_step
theorem dX11_number_0 : decode cX11_number 0 = .ok (.iconst 0, 1) := by decide +kernel
theorem dX11_number_1 : decode cX11_number 1 = .ok (.istore_n 1, 1) := by decide +kernel
theorem dX11_number_2 : decode cX11_number 2 = .ok (.iconst 0, 1) := by decide +kernel
theorem dX11_number_3 : decode cX11_number 3 = .ok (.istore_n 2, 1) := by decide +kernel
theorem dX11_number_4 : decode cX11_number 4 = .ok (.iload_n 2, 1) := by decide +kernel
theorem dX11_number_5 : decode cX11_number 5 = .ok (.iconst 4, 1) := by decide +kernel
theorem dX11_number_6 : decode cX11_number 6 = .ok (.if_icmp .ge 46, 3) := by decide +kernel
theorem dX11_number_9 : decode cX11_number 9 = .ok (.aload_n 0, 1) := by decide +kernel
theorem dX11_number_10 : decode cX11_number 10 = .ok (.invokevirtual 101, 3) := by decide +kernel
theorem dX11_number_13 : decode cX11_number 13 = .ok (.bipush 48, 2) := by decide +kernel
theorem dX11_number_15 : decode cX11_number 15 = .ok (.bipush 57, 2) := by decide +kernel
theorem dX11_number_17 : decode cX11_number 17 = .ok (.invokestatic 47, 3) := by decide +kernel
theorem dX11_number_20 : decode cX11_number 20 = .ok (.ifCond .eq 32, 3) := by decide +kernel
theorem dX11_number_23 : decode cX11_number 23 = .ok (.bipush 10, 2) := by decide +kernel
theorem dX11_number_25 : decode cX11_number 25 = .ok (.iload_n 1, 1) := by decide +kernel
theorem dX11_number_26 : decode cX11_number 26 = .ok (.imul, 1) := by decide +kernel
theorem dX11_number_27 : decode cX11_number 27 = .ok (.aload_n 0, 1) := by decide +kernel
theorem dX11_number_28 : decode cX11_number 28 = .ok (.invokevirtual 101, 3) := by decide +kernel
theorem dX11_number_31 : decode cX11_number 31 = .ok (.iadd, 1) := by decide +kernel
theorem dX11_number_32 : decode cX11_number 32 = .ok (.bipush 48, 2) := by decide +kernel
theorem dX11_number_34 : decode cX11_number 34 = .ok (.isub, 1) := by decide +kernel
theorem dX11_number_35 : decode cX11_number 35 = .ok (.istore_n 1, 1) := by decide +kernel
theorem dX11_number_36 : decode cX11_number 36 = .ok (.aload_n 0, 1) := by decide +kernel
theorem dX11_number_37 : decode cX11_number 37 = .ok (.dup, 1) := by decide +kernel
theorem dX11_number_38 : decode cX11_number 38 = .ok (.getfield 91, 3) := by decide +kernel
theorem dX11_number_41 : decode cX11_number 41 = .ok (.iconst 1, 1) := by decide +kernel
theorem dX11_number_42 : decode cX11_number 42 = .ok (.iadd, 1) := by decide +kernel
theorem dX11_number_43 : decode cX11_number 43 = .ok (.putfield 91, 3) := by decide +kernel
theorem dX11_number_46 : decode cX11_number 46 = .ok (.iinc 2 1, 3) := by decide +kernel
theorem dX11_number_49 : decode cX11_number 49 = .ok (.goto (-45), 3) := by decide +kernel
theorem dX11_number_52 : decode cX11_number 52 = .ok (.aload_n 0, 1) := by decide +kernel
theorem dX11_number_53 : decode cX11_number 53 = .ok (.iload_n 2, 1) := by decide +kernel
theorem dX11_number_54 : decode cX11_number 54 = .ok (.ifCond .ne 7, 3) := by decide +kernel
theorem dX11_number_57 : decode cX11_number 57 = .ok (.iconst 1, 1) := by decide +kernel
theorem dX11_number_58 : decode cX11_number 58 = .ok (.goto 4, 3) := by decide +kernel
theorem dX11_number_61 : decode cX11_number 61 = .ok (.iconst 0, 1) := by decide +kernel
theorem dX11_number_62 : decode cX11_number 62 = .ok (.putfield 105, 3) := by decide +kernel
theorem dX11_number_65 : decode cX11_number 65 = .ok (.aload_n 0, 1) := by decide +kernel
theorem dX11_number_66 : decode cX11_number 66 = .ok (.iconst 1, 1) := by decide +kernel
theorem dX11_number_67 : decode cX11_number 67 = .ok (.iload_n 1, 1) := by decide +kernel
theorem dX11_number_68 : decode cX11_number 68 = .ok (.invokevirtual 109, 3) := by decide +kernel
theorem dX11_number_71 : decode cX11_number 71 = .ok (.return_, 1) := by decide +kernel
set_option maxRecDepth 20000 in
theorem ggX11_opens_X11_one : GoodIn wsX11_opens wsX11_one := goodIn_r _ [35, 3, 18, 19, 20, 7, 21, 22, 36, 37, 38, 39, 40, 8, 9, 10, 11, 12, 13, 14, 41, 42, 43, 44, 45, 46, 47, 2, 48, 49, 50, 23, 24, 25, 26, 27, 28, 29, 30, 31, 32, 33, 34, 0, 1, 4, 5, 6, 15, 16, 17, 51, 52, 53, 54, 55, 56, 57, 58, 59, 60, 61, 62, 63, 64, 65, 66, 67, 68, 69, 70, 71, 72, 73, 74, 75] (by decide +kernel) (by decide +kernel)
set_option maxRecDepth 20000 in
theorem gX11_opens_X11_one : GoodIn wsX11_opens (wsV RX11 116 RX11 yX11_one wsX11_one) := goodIn_app (goodIn_of _ (by decide +kernel)) ggX11_opens_X11_one
set_option maxRecDepth 20000 in
theorem ggX11_opens_X11_step : GoodIn wsX11_opens wsX11_step := goodIn_r _ [11, 12, 13, 14, 56, 57, 58, 59, 60, 61, 62, 63, 64, 65, 66, 67, 68, 69, 70, 71, 72, 73, 74, 75] (by decide +kernel) (by decide +kernel)
set_option maxRecDepth 20000 in
theorem gX11_opens_X11_step : GoodIn wsX11_opens (wsV RX11 109 RX11 yX11_step wsX11_step) := goodIn_app (goodIn_of _ (by decide +kernel)) ggX11_opens_X11_step
set_option maxRecDepth 20000 in
theorem ggX11_opens_X11_any : GoodIn wsX11_opens wsX11_any := goodIn_r _ [27, 2, 3, 28, 29, 30, 7, 18, 19, 20, 21, 22, 8, 9, 10, 11, 12, 13, 14, 23, 24, 25, 26, 31, 32, 33, 34, 35, 36, 37, 38, 39, 40, 41, 42, 43, 44, 45, 46, 47, 48, 49, 50, 0, 1, 4, 5, 6, 15, 16, 17, 51, 52, 53, 54, 55, 56, 57, 58, 59, 60, 61, 62, 63, 64, 65, 66, 67, 68, 69, 70, 71, 72, 73, 74, 75] (by decide +kernel) (by decide +kernel)
set_option maxRecDepth 20000 in
theorem gX11_opens_X11_any : GoodIn wsX11_opens (wsV RX11 119 RX11 yX11_any wsX11_any) := goodIn_app (goodIn_of _ (by decide +kernel)) ggX11_opens_X11_any
set_option maxRecDepth 20000 in
theorem ggX11_opens_X11_look : GoodIn wsX11_opens wsX11_look := goodIn_r _ [21, 3, 22, 56, 57, 58, 59, 60, 61, 62, 63, 64, 65, 66, 67, 68, 69, 70, 71, 72, 73, 74, 75] (by decide +kernel) (by decide +kernel)
set_option maxRecDepth 20000 in
theorem gX11_opens_X11_look : GoodIn wsX11_opens (wsV RX11 101 RX11 yX11_look wsX11_look) := goodIn_app (goodIn_of _ (by decide +kernel)) ggX11_opens_X11_look
theorem dX11_opens_0 : decode cX11_opens 0 = .ok (.aload_n 0, 1) := by decide +kernel
theorem dX11_opens_1 : decode cX11_opens 1 = .ok (.getfield 113, 3) := by decide +kernel
theorem dX11_opens_4 : decode cX11_opens 4 = .ok (.iconst 5, 1) := by decide +kernel
theorem dX11_opens_5 : decode cX11_opens 5 = .ok (.if_icmp .ne 9, 3) := by decide +kernel
theorem dX11_opens_8 : decode cX11_opens 8 = .ok (.aload_n 0, 1) := by decide +kernel
theorem dX11_opens_9 : decode cX11_opens 9 = .ok (.iconst 1, 1) := by decide +kernel
theorem dX11_opens_10 : decode cX11_opens 10 = .ok (.putfield 105, 3) := by decide +kernel
theorem dX11_opens_13 : decode cX11_opens 13 = .ok (.return_, 1) := by decide +kernel
theorem dX11_opens_14 : decode cX11_opens 14 = .ok (.aload_n 0, 1) := by decide +kernel
theorem dX11_opens_15 : decode cX11_opens 15 = .ok (.dup, 1) := by decide +kernel
theorem dX11_opens_16 : decode cX11_opens 16 = .ok (.getfield 113, 3) := by decide +kernel
theorem dX11_opens_19 : decode cX11_opens 19 = .ok (.iconst 1, 1) := by decide +kernel
theorem dX11_opens_20 : decode cX11_opens 20 = .ok (.iadd, 1) := by decide +kernel
theorem dX11_opens_21 : decode cX11_opens 21 = .ok (.putfield 113, 3) := by decide +kernel
theorem dX11_opens_24 : decode cX11_opens 24 = .ok (.aload_n 0, 1) := by decide +kernel
theorem dX11_opens_25 : decode cX11_opens 25 = .ok (.dup, 1) := by decide +kernel
theorem dX11_opens_26 : decode cX11_opens 26 = .ok (.getfield 91, 3) := by decide +kernel
theorem dX11_opens_29 : decode cX11_opens 29 = .ok (.iconst 1, 1) := by decide +kernel
theorem dX11_opens_30 : decode cX11_opens 30 = .ok (.iadd, 1) := by decide +kernel
theorem dX11_opens_31 : decode cX11_opens 31 = .ok (.putfield 91, 3) := by decide +kernel
theorem dX11_opens_34 : decode cX11_opens 34 = .ok (.iload_n 1, 1) := by decide +kernel
theorem dX11_opens_35 : decode cX11_opens 35 = .ok (.bipush 33, 2) := by decide +kernel
theorem dX11_opens_37 : decode cX11_opens 37 = .ok (.if_icmp .ne 16, 3) := by decide +kernel
theorem dX11_opens_40 : decode cX11_opens 40 = .ok (.aload_n 0, 1) := by decide +kernel
theorem dX11_opens_41 : decode cX11_opens 41 = .ok (.invokevirtual 116, 3) := by decide +kernel
theorem dX11_opens_44 : decode cX11_opens 44 = .ok (.aload_n 0, 1) := by decide +kernel
theorem dX11_opens_45 : decode cX11_opens 45 = .ok (.iconst 3, 1) := by decide +kernel
theorem dX11_opens_46 : decode cX11_opens 46 = .ok (.iconst 0, 1) := by decide +kernel
theorem dX11_opens_47 : decode cX11_opens 47 = .ok (.invokevirtual 109, 3) := by decide +kernel
theorem dX11_opens_50 : decode cX11_opens 50 = .ok (.goto 53, 3) := by decide +kernel
theorem dX11_opens_53 : decode cX11_opens 53 = .ok (.aload_n 0, 1) := by decide +kernel
theorem dX11_opens_54 : decode cX11_opens 54 = .ok (.invokevirtual 119, 3) := by decide +kernel
theorem dX11_opens_57 : decode cX11_opens 57 = .ok (.aload_n 0, 1) := by decide +kernel
theorem dX11_opens_58 : decode cX11_opens 58 = .ok (.aload_n 0, 1) := by decide +kernel
theorem dX11_opens_59 : decode cX11_opens 59 = .ok (.getfield 105, 3) := by decide +kernel
theorem dX11_opens_62 : decode cX11_opens 62 = .ok (.ifCond .ne 12, 3) := by decide +kernel
theorem dX11_opens_65 : decode cX11_opens 65 = .ok (.aload_n 0, 1) := by decide +kernel
theorem dX11_opens_66 : decode cX11_opens 66 = .ok (.invokevirtual 101, 3) := by decide +kernel
theorem dX11_opens_69 : decode cX11_opens 69 = .ok (.bipush 41, 2) := by decide +kernel
theorem dX11_opens_71 : decode cX11_opens 71 = .ok (.if_icmp .eq 7, 3) := by decide +kernel
theorem dX11_opens_74 : decode cX11_opens 74 = .ok (.iconst 1, 1) := by decide +kernel
theorem dX11_opens_75 : decode cX11_opens 75 = .ok (.goto 4, 3) := by decide +kernel
theorem dX11_opens_78 : decode cX11_opens 78 = .ok (.iconst 0, 1) := by decide +kernel
theorem dX11_opens_79 : decode cX11_opens 79 = .ok (.putfield 105, 3) := by decide +kernel
theorem dX11_opens_82 : decode cX11_opens 82 = .ok (.aload_n 0, 1) := by decide +kernel
theorem dX11_opens_83 : decode cX11_opens 83 = .ok (.dup, 1) := by decide +kernel
theorem dX11_opens_84 : decode cX11_opens 84 = .ok (.getfield 91, 3) := by decide +kernel
theorem dX11_opens_87 : decode cX11_opens 87 = .ok (.aload_n 0, 1) := by decide +kernel
theorem dX11_opens_88 : decode cX11_opens 88 = .ok (.getfield 105, 3) := by decide +kernel
theorem dX11_opens_91 : decode cX11_opens 91 = .ok (.ifCond .eq 7, 3) := by decide +kernel
theorem dX11_opens_94 : decode cX11_opens 94 = .ok (.iconst 0, 1) := by decide +kernel
theorem dX11_opens_95 : decode cX11_opens 95 = .ok (.goto 4, 3) := by decide +kernel
theorem dX11_opens_98 : decode cX11_opens 98 = .ok (.iconst 1, 1) := by decide +kernel
theorem dX11_opens_99 : decode cX11_opens 99 = .ok (.iadd, 1) := by decide +kernel
theorem dX11_opens_100 : decode cX11_opens 100 = .ok (.putfield 91, 3) := by decide +kernel
theorem dX11_opens_103 : decode cX11_opens 103 = .ok (.aload_n 0, 1) := by decide +kernel
theorem dX11_opens_104 : decode cX11_opens 104 = .ok (.dup, 1) := by decide +kernel
theorem dX11_opens_105 : decode cX11_opens 105 = .ok (.getfield 113, 3) := by decide +kernel
theorem dX11_opens_108 : decode cX11_opens 108 = .ok (.iconst 1, 1) := by decide +kernel
theorem dX11_opens_109 : decode cX11_opens 109 = .ok (.isub, 1) := by decide +kernel
theorem dX11_opens_110 : decode cX11_opens 110 = .ok (.putfield 113, 3) := by decide +kernel
theorem dX11_opens_113 : decode cX11_opens 113 = .ok (.return_, 1) := by decide +kernel
set_option maxRecDepth 20000 in
theorem ggX11_one_X11_look : GoodIn wsX11_one wsX11_look := goodIn_r _ [6, 1, 7, 56, 57, 58, 59, 60, 61, 62, 63, 64, 65, 66, 67, 68, 69, 70, 71, 72, 73, 74, 75] (by decide +kernel) (by decide +kernel)
set_option maxRecDepth 20000 in
theorem gX11_one_X11_look : GoodIn wsX11_one (wsV RX11 101 RX11 yX11_look wsX11_look) := goodIn_app (goodIn_of _ (by decide +kernel)) ggX11_one_X11_look
set_option maxRecDepth 20000 in
theorem ggX11_one_X11_nameOf : GoodIn wsX11_one wsX11_nameOf := goodIn_r _ [11, 12, 56, 57, 58, 59, 60, 61, 62, 63, 64, 65, 66, 67, 68, 69, 70, 71, 72, 73, 74, 75] (by decide +kernel) (by decide +kernel)
set_option maxRecDepth 20000 in
theorem gX11_one_X11_nameOf : GoodIn wsX11_one (wsV RX11 122 RX11 yX11_nameOf wsX11_nameOf) := goodIn_app (goodIn_of _ (by decide +kernel)) ggX11_one_X11_nameOf
set_option maxRecDepth 20000 in
theorem ggX11_one_X11_step : GoodIn wsX11_one wsX11_step := goodIn_r _ [16, 17, 18, 19, 56, 57, 58, 59, 60, 61, 62, 63, 64, 65, 66, 67, 68, 69, 70, 71, 72, 73, 74, 75] (by decide +kernel) (by decide +kernel)
set_option maxRecDepth 20000 in
theorem gX11_one_X11_step : GoodIn wsX11_one (wsV RX11 109 RX11 yX11_step wsX11_step) := goodIn_app (goodIn_of _ (by decide +kernel)) ggX11_one_X11_step
set_option maxRecDepth 20000 in
theorem ggX11_one_X11_opens : GoodIn wsX11_one wsX11_opens := goodIn_r _ [43, 44, 27, 1, 45, 46, 47, 5, 13, 14, 15, 16, 17, 18, 19, 48, 49, 50, 2, 3, 4, 6, 7, 31, 32, 33, 34, 35, 36, 37, 38, 39, 40, 41, 42, 0, 8, 9, 10, 11, 12, 20, 21, 22, 23, 24, 25, 26, 28, 29, 30, 51, 52, 53, 54, 55, 56, 57, 58, 59, 60, 61, 62, 63, 64, 65, 66, 67, 68, 69, 70, 71, 72, 73, 74, 75] (by decide +kernel) (by decide +kernel)
set_option maxRecDepth 20000 in
theorem gX11_one_X11_opens : GoodIn wsX11_one (wsV RX11 125 RX11 yX11_opens wsX11_opens) := goodIn_app (goodIn_of _ (by decide +kernel)) ggX11_one_X11_opens
set_option maxRecDepth 20000 in
theorem ggX11_one_X11_number : GoodIn wsX11_one wsX11_number := goodIn_r _ [26, 1, 27, 2, 3, 4, 5, 6, 7, 28, 29, 30, 13, 14, 15, 16, 17, 18, 19, 56, 57, 58, 59, 60, 61, 62, 63, 64, 65, 66, 67, 68, 69, 70, 71, 72, 73, 74, 75] (by decide +kernel) (by decide +kernel)
set_option maxRecDepth 20000 in
theorem gX11_one_X11_number : GoodIn wsX11_one (wsV RX11 129 RX11 yX11_number wsX11_number) := goodIn_app (goodIn_of _ (by decide +kernel)) ggX11_one_X11_number
theorem dX11_one_0 : decode cX11_one 0 = .ok (.aload_n 0, 1) := by decide +kernel
theorem dX11_one_1 : decode cX11_one 1 = .ok (.invokevirtual 101, 3) := by decide +kernel
theorem dX11_one_4 : decode cX11_one 4 = .ok (.istore_n 1, 1) := by decide +kernel
theorem dX11_one_5 : decode cX11_one 5 = .ok (.aload_n 0, 1) := by decide +kernel
theorem dX11_one_6 : decode cX11_one 6 = .ok (.iload_n 1, 1) := by decide +kernel
theorem dX11_one_7 : decode cX11_one 7 = .ok (.invokevirtual 122, 3) := by decide +kernel
theorem dX11_one_10 : decode cX11_one 10 = .ok (.istore_n 2, 1) := by decide +kernel
theorem dX11_one_11 : decode cX11_one 11 = .ok (.iload_n 2, 1) := by decide +kernel
theorem dX11_one_12 : decode cX11_one 12 = .ok (.ifCond .lt 22, 3) := by decide +kernel
theorem dX11_one_15 : decode cX11_one 15 = .ok (.aload_n 0, 1) := by decide +kernel
theorem dX11_one_16 : decode cX11_one 16 = .ok (.dup, 1) := by decide +kernel
theorem dX11_one_17 : decode cX11_one 17 = .ok (.getfield 91, 3) := by decide +kernel
theorem dX11_one_20 : decode cX11_one 20 = .ok (.iconst 1, 1) := by decide +kernel
theorem dX11_one_21 : decode cX11_one 21 = .ok (.iadd, 1) := by decide +kernel
theorem dX11_one_22 : decode cX11_one 22 = .ok (.putfield 91, 3) := by decide +kernel
theorem dX11_one_25 : decode cX11_one 25 = .ok (.aload_n 0, 1) := by decide +kernel
theorem dX11_one_26 : decode cX11_one 26 = .ok (.iconst 2, 1) := by decide +kernel
theorem dX11_one_27 : decode cX11_one 27 = .ok (.iload_n 2, 1) := by decide +kernel
theorem dX11_one_28 : decode cX11_one 28 = .ok (.invokevirtual 109, 3) := by decide +kernel
theorem dX11_one_31 : decode cX11_one 31 = .ok (.goto 27, 3) := by decide +kernel
theorem dX11_one_34 : decode cX11_one 34 = .ok (.iload_n 1, 1) := by decide +kernel
theorem dX11_one_35 : decode cX11_one 35 = .ok (.bipush 33, 2) := by decide +kernel
theorem dX11_one_37 : decode cX11_one 37 = .ok (.if_icmp .eq 9, 3) := by decide +kernel
theorem dX11_one_40 : decode cX11_one 40 = .ok (.iload_n 1, 1) := by decide +kernel
theorem dX11_one_41 : decode cX11_one 41 = .ok (.bipush 40, 2) := by decide +kernel
theorem dX11_one_43 : decode cX11_one 43 = .ok (.if_icmp .ne 11, 3) := by decide +kernel
theorem dX11_one_46 : decode cX11_one 46 = .ok (.aload_n 0, 1) := by decide +kernel
theorem dX11_one_47 : decode cX11_one 47 = .ok (.iload_n 1, 1) := by decide +kernel
theorem dX11_one_48 : decode cX11_one 48 = .ok (.invokevirtual 125, 3) := by decide +kernel
theorem dX11_one_51 : decode cX11_one 51 = .ok (.goto 7, 3) := by decide +kernel
theorem dX11_one_54 : decode cX11_one 54 = .ok (.aload_n 0, 1) := by decide +kernel
theorem dX11_one_55 : decode cX11_one 55 = .ok (.invokevirtual 129, 3) := by decide +kernel
theorem dX11_one_58 : decode cX11_one 58 = .ok (.return_, 1) := by decide +kernel
set_option maxRecDepth 20000 in
theorem ggX11_times_X11_one : GoodIn wsX11_times wsX11_one := goodIn_r _ [31, 2, 7, 8, 9, 6, 10, 11, 32, 33, 34, 35, 36, 12, 13, 14, 15, 16, 17, 18, 37, 38, 39, 40, 41, 42, 43, 1, 44, 45, 46, 19, 20, 21, 22, 23, 24, 25, 26, 27, 28, 29, 30, 47, 48, 3, 4, 5, 49, 50, 51, 52, 53, 54, 55, 0, 56, 57, 58, 59, 60, 61, 62, 63, 64, 65, 66, 67, 68, 69, 70, 71, 72, 73, 74, 75] (by decide +kernel) (by decide +kernel)
set_option maxRecDepth 20000 in
theorem gX11_times_X11_one : GoodIn wsX11_times (wsV RX11 116 RX11 yX11_one wsX11_one) := goodIn_app (goodIn_of _ (by decide +kernel)) ggX11_times_X11_one
set_option maxRecDepth 20000 in
theorem ggX11_times_X11_look : GoodIn wsX11_times wsX11_look := goodIn_r _ [10, 2, 11, 56, 57, 58, 59, 60, 61, 62, 63, 64, 65, 66, 67, 68, 69, 70, 71, 72, 73, 74, 75] (by decide +kernel) (by decide +kernel)
set_option maxRecDepth 20000 in
theorem gX11_times_X11_look : GoodIn wsX11_times (wsV RX11 101 RX11 yX11_look wsX11_look) := goodIn_app (goodIn_of _ (by decide +kernel)) ggX11_times_X11_look
set_option maxRecDepth 20000 in
theorem ggX11_times_X11_step : GoodIn wsX11_times wsX11_step := goodIn_r _ [15, 16, 17, 18, 56, 57, 58, 59, 60, 61, 62, 63, 64, 65, 66, 67, 68, 69, 70, 71, 72, 73, 74, 75] (by decide +kernel) (by decide +kernel)
set_option maxRecDepth 20000 in
theorem gX11_times_X11_step : GoodIn wsX11_times (wsV RX11 109 RX11 yX11_step wsX11_step) := goodIn_app (goodIn_of _ (by decide +kernel)) ggX11_times_X11_step
theorem dX11_times_0 : decode cX11_times 0 = .ok (.aload_n 0, 1) := by decide +kernel
theorem dX11_times_1 : decode cX11_times 1 = .ok (.invokevirtual 116, 3) := by decide +kernel
theorem dX11_times_4 : decode cX11_times 4 = .ok (.aload_n 0, 1) := by decide +kernel
theorem dX11_times_5 : decode cX11_times 5 = .ok (.getfield 105, 3) := by decide +kernel
theorem dX11_times_8 : decode cX11_times 8 = .ok (.ifCond .ne 58, 3) := by decide +kernel
theorem dX11_times_11 : decode cX11_times 11 = .ok (.aload_n 0, 1) := by decide +kernel
theorem dX11_times_12 : decode cX11_times 12 = .ok (.invokevirtual 101, 3) := by decide +kernel
theorem dX11_times_15 : decode cX11_times 15 = .ok (.bipush 42, 2) := by decide +kernel
theorem dX11_times_17 : decode cX11_times 17 = .ok (.if_icmp .eq 21, 3) := by decide +kernel
theorem dX11_times_20 : decode cX11_times 20 = .ok (.aload_n 0, 1) := by decide +kernel
theorem dX11_times_21 : decode cX11_times 21 = .ok (.invokevirtual 101, 3) := by decide +kernel
theorem dX11_times_24 : decode cX11_times 24 = .ok (.bipush 47, 2) := by decide +kernel
theorem dX11_times_26 : decode cX11_times 26 = .ok (.if_icmp .eq 12, 3) := by decide +kernel
theorem dX11_times_29 : decode cX11_times 29 = .ok (.aload_n 0, 1) := by decide +kernel
theorem dX11_times_30 : decode cX11_times 30 = .ok (.invokevirtual 101, 3) := by decide +kernel
theorem dX11_times_33 : decode cX11_times 33 = .ok (.bipush 37, 2) := by decide +kernel
theorem dX11_times_35 : decode cX11_times 35 = .ok (.if_icmp .ne 31, 3) := by decide +kernel
theorem dX11_times_38 : decode cX11_times 38 = .ok (.aload_n 0, 1) := by decide +kernel
theorem dX11_times_39 : decode cX11_times 39 = .ok (.invokevirtual 101, 3) := by decide +kernel
theorem dX11_times_42 : decode cX11_times 42 = .ok (.istore_n 1, 1) := by decide +kernel
theorem dX11_times_43 : decode cX11_times 43 = .ok (.aload_n 0, 1) := by decide +kernel
theorem dX11_times_44 : decode cX11_times 44 = .ok (.dup, 1) := by decide +kernel
theorem dX11_times_45 : decode cX11_times 45 = .ok (.getfield 91, 3) := by decide +kernel
theorem dX11_times_48 : decode cX11_times 48 = .ok (.iconst 1, 1) := by decide +kernel
theorem dX11_times_49 : decode cX11_times 49 = .ok (.iadd, 1) := by decide +kernel
theorem dX11_times_50 : decode cX11_times 50 = .ok (.putfield 91, 3) := by decide +kernel
theorem dX11_times_53 : decode cX11_times 53 = .ok (.aload_n 0, 1) := by decide +kernel
theorem dX11_times_54 : decode cX11_times 54 = .ok (.invokevirtual 116, 3) := by decide +kernel
theorem dX11_times_57 : decode cX11_times 57 = .ok (.aload_n 0, 1) := by decide +kernel
theorem dX11_times_58 : decode cX11_times 58 = .ok (.iload_n 1, 1) := by decide +kernel
theorem dX11_times_59 : decode cX11_times 59 = .ok (.iconst 0, 1) := by decide +kernel
theorem dX11_times_60 : decode cX11_times 60 = .ok (.invokevirtual 109, 3) := by decide +kernel
theorem dX11_times_63 : decode cX11_times 63 = .ok (.goto (-59), 3) := by decide +kernel
theorem dX11_times_66 : decode cX11_times 66 = .ok (.return_, 1) := by decide +kernel
set_option maxRecDepth 20000 in
theorem ggX11_sum_X11_times : GoodIn wsX11_sum wsX11_times := goodIn_r _ [55, 1, 2, 49, 50, 51, 6, 7, 8, 9, 10, 11, 12, 13, 14, 15, 16, 17, 18, 19, 20, 21, 22, 23, 24, 25, 26, 27, 28, 29, 30, 31, 32, 33, 34, 35, 36, 37, 38, 39, 40, 41, 42, 43, 44, 45, 46, 47, 48, 52, 53, 54, 0, 3, 4, 5, 56, 57, 58, 59, 60, 61, 62, 63, 64, 65, 66, 67, 68, 69, 70, 71, 72, 73, 74, 75] (by decide +kernel) (by decide +kernel)
set_option maxRecDepth 20000 in
theorem gX11_sum_X11_times : GoodIn wsX11_sum (wsV RX11 132 RX11 yX11_times wsX11_times) := goodIn_app (goodIn_of _ (by decide +kernel)) ggX11_sum_X11_times
set_option maxRecDepth 20000 in
theorem ggX11_sum_X11_look : GoodIn wsX11_sum wsX11_look := goodIn_r _ [10, 2, 11, 56, 57, 58, 59, 60, 61, 62, 63, 64, 65, 66, 67, 68, 69, 70, 71, 72, 73, 74, 75] (by decide +kernel) (by decide +kernel)
set_option maxRecDepth 20000 in
theorem gX11_sum_X11_look : GoodIn wsX11_sum (wsV RX11 101 RX11 yX11_look wsX11_look) := goodIn_app (goodIn_of _ (by decide +kernel)) ggX11_sum_X11_look
set_option maxRecDepth 20000 in
theorem ggX11_sum_X11_step : GoodIn wsX11_sum wsX11_step := goodIn_r _ [15, 16, 17, 18, 56, 57, 58, 59, 60, 61, 62, 63, 64, 65, 66, 67, 68, 69, 70, 71, 72, 73, 74, 75] (by decide +kernel) (by decide +kernel)
set_option maxRecDepth 20000 in
theorem gX11_sum_X11_step : GoodIn wsX11_sum (wsV RX11 109 RX11 yX11_step wsX11_step) := goodIn_app (goodIn_of _ (by decide +kernel)) ggX11_sum_X11_step
theorem dX11_sum_0 : decode cX11_sum 0 = .ok (.aload_n 0, 1) := by decide +kernel
theorem dX11_sum_1 : decode cX11_sum 1 = .ok (.invokevirtual 132, 3) := by decide +kernel
theorem dX11_sum_4 : decode cX11_sum 4 = .ok (.aload_n 0, 1) := by decide +kernel
theorem dX11_sum_5 : decode cX11_sum 5 = .ok (.getfield 105, 3) := by decide +kernel
theorem dX11_sum_8 : decode cX11_sum 8 = .ok (.ifCond .ne 49, 3) := by decide +kernel
theorem dX11_sum_11 : decode cX11_sum 11 = .ok (.aload_n 0, 1) := by decide +kernel
theorem dX11_sum_12 : decode cX11_sum 12 = .ok (.invokevirtual 101, 3) := by decide +kernel
theorem dX11_sum_15 : decode cX11_sum 15 = .ok (.bipush 43, 2) := by decide +kernel
theorem dX11_sum_17 : decode cX11_sum 17 = .ok (.if_icmp .eq 12, 3) := by decide +kernel
theorem dX11_sum_20 : decode cX11_sum 20 = .ok (.aload_n 0, 1) := by decide +kernel
theorem dX11_sum_21 : decode cX11_sum 21 = .ok (.invokevirtual 101, 3) := by decide +kernel
theorem dX11_sum_24 : decode cX11_sum 24 = .ok (.bipush 45, 2) := by decide +kernel
theorem dX11_sum_26 : decode cX11_sum 26 = .ok (.if_icmp .ne 31, 3) := by decide +kernel
theorem dX11_sum_29 : decode cX11_sum 29 = .ok (.aload_n 0, 1) := by decide +kernel
theorem dX11_sum_30 : decode cX11_sum 30 = .ok (.invokevirtual 101, 3) := by decide +kernel
theorem dX11_sum_33 : decode cX11_sum 33 = .ok (.istore_n 1, 1) := by decide +kernel
theorem dX11_sum_34 : decode cX11_sum 34 = .ok (.aload_n 0, 1) := by decide +kernel
theorem dX11_sum_35 : decode cX11_sum 35 = .ok (.dup, 1) := by decide +kernel
theorem dX11_sum_36 : decode cX11_sum 36 = .ok (.getfield 91, 3) := by decide +kernel
theorem dX11_sum_39 : decode cX11_sum 39 = .ok (.iconst 1, 1) := by decide +kernel
theorem dX11_sum_40 : decode cX11_sum 40 = .ok (.iadd, 1) := by decide +kernel
theorem dX11_sum_41 : decode cX11_sum 41 = .ok (.putfield 91, 3) := by decide +kernel
theorem dX11_sum_44 : decode cX11_sum 44 = .ok (.aload_n 0, 1) := by decide +kernel
theorem dX11_sum_45 : decode cX11_sum 45 = .ok (.invokevirtual 132, 3) := by decide +kernel
theorem dX11_sum_48 : decode cX11_sum 48 = .ok (.aload_n 0, 1) := by decide +kernel
theorem dX11_sum_49 : decode cX11_sum 49 = .ok (.iload_n 1, 1) := by decide +kernel
theorem dX11_sum_50 : decode cX11_sum 50 = .ok (.iconst 0, 1) := by decide +kernel
theorem dX11_sum_51 : decode cX11_sum 51 = .ok (.invokevirtual 109, 3) := by decide +kernel
theorem dX11_sum_54 : decode cX11_sum 54 = .ok (.goto (-50), 3) := by decide +kernel
theorem dX11_sum_57 : decode cX11_sum 57 = .ok (.return_, 1) := by decide +kernel
set_option maxRecDepth 20000 in
theorem ggX11_compares_X11_sum : GoodIn wsX11_compares wsX11_sum := goodIn_r _ [51, 1, 2, 52, 53, 54, 6, 7, 8, 9, 10, 11, 12, 13, 14, 15, 16, 17, 18, 19, 20, 21, 22, 23, 24, 25, 26, 0, 3, 4, 5, 27, 28, 29, 30, 31, 32, 33, 34, 35, 36, 37, 38, 39, 40, 41, 42, 43, 44, 45, 46, 47, 48, 49, 50, 55, 56, 57, 58, 59, 60, 61, 62, 63, 64, 65, 66, 67, 68, 69, 70, 71, 72, 73, 74, 75] (by decide +kernel) (by decide +kernel)
set_option maxRecDepth 20000 in
theorem gX11_compares_X11_sum : GoodIn wsX11_compares (wsV RX11 135 RX11 yX11_sum wsX11_sum) := goodIn_app (goodIn_of _ (by decide +kernel)) ggX11_compares_X11_sum
set_option maxRecDepth 20000 in
theorem ggX11_compares_X11_look : GoodIn wsX11_compares wsX11_look := goodIn_r _ [10, 2, 11, 56, 57, 58, 59, 60, 61, 62, 63, 64, 65, 66, 67, 68, 69, 70, 71, 72, 73, 74, 75] (by decide +kernel) (by decide +kernel)
set_option maxRecDepth 20000 in
theorem gX11_compares_X11_look : GoodIn wsX11_compares (wsV RX11 101 RX11 yX11_look wsX11_look) := goodIn_app (goodIn_of _ (by decide +kernel)) ggX11_compares_X11_look
set_option maxRecDepth 20000 in
theorem ggX11_compares_X11_step : GoodIn wsX11_compares wsX11_step := goodIn_r _ [15, 16, 17, 18, 56, 57, 58, 59, 60, 61, 62, 63, 64, 65, 66, 67, 68, 69, 70, 71, 72, 73, 74, 75] (by decide +kernel) (by decide +kernel)
set_option maxRecDepth 20000 in
theorem gX11_compares_X11_step : GoodIn wsX11_compares (wsV RX11 109 RX11 yX11_step wsX11_step) := goodIn_app (goodIn_of _ (by decide +kernel)) ggX11_compares_X11_step
theorem dX11_compares_0 : decode cX11_compares 0 = .ok (.aload_n 0, 1) := by decide +kernel
theorem dX11_compares_1 : decode cX11_compares 1 = .ok (.invokevirtual 135, 3) := by decide +kernel
theorem dX11_compares_4 : decode cX11_compares 4 = .ok (.aload_n 0, 1) := by decide +kernel
theorem dX11_compares_5 : decode cX11_compares 5 = .ok (.invokevirtual 101, 3) := by decide +kernel
theorem dX11_compares_8 : decode cX11_compares 8 = .ok (.istore_n 1, 1) := by decide +kernel
theorem dX11_compares_9 : decode cX11_compares 9 = .ok (.aload_n 0, 1) := by decide +kernel
theorem dX11_compares_10 : decode cX11_compares 10 = .ok (.getfield 105, 3) := by decide +kernel
theorem dX11_compares_13 : decode cX11_compares 13 = .ok (.ifCond .ne 41, 3) := by decide +kernel
theorem dX11_compares_16 : decode cX11_compares 16 = .ok (.iload_n 1, 1) := by decide +kernel
theorem dX11_compares_17 : decode cX11_compares 17 = .ok (.bipush 60, 2) := by decide +kernel
theorem dX11_compares_19 : decode cX11_compares 19 = .ok (.if_icmp .eq 15, 3) := by decide +kernel
theorem dX11_compares_22 : decode cX11_compares 22 = .ok (.iload_n 1, 1) := by decide +kernel
theorem dX11_compares_23 : decode cX11_compares 23 = .ok (.bipush 61, 2) := by decide +kernel
theorem dX11_compares_25 : decode cX11_compares 25 = .ok (.if_icmp .eq 9, 3) := by decide +kernel
theorem dX11_compares_28 : decode cX11_compares 28 = .ok (.iload_n 1, 1) := by decide +kernel
theorem dX11_compares_29 : decode cX11_compares 29 = .ok (.bipush 62, 2) := by decide +kernel
theorem dX11_compares_31 : decode cX11_compares 31 = .ok (.if_icmp .ne 23, 3) := by decide +kernel
theorem dX11_compares_34 : decode cX11_compares 34 = .ok (.aload_n 0, 1) := by decide +kernel
theorem dX11_compares_35 : decode cX11_compares 35 = .ok (.dup, 1) := by decide +kernel
theorem dX11_compares_36 : decode cX11_compares 36 = .ok (.getfield 91, 3) := by decide +kernel
theorem dX11_compares_39 : decode cX11_compares 39 = .ok (.iconst 1, 1) := by decide +kernel
theorem dX11_compares_40 : decode cX11_compares 40 = .ok (.iadd, 1) := by decide +kernel
theorem dX11_compares_41 : decode cX11_compares 41 = .ok (.putfield 91, 3) := by decide +kernel
theorem dX11_compares_44 : decode cX11_compares 44 = .ok (.aload_n 0, 1) := by decide +kernel
theorem dX11_compares_45 : decode cX11_compares 45 = .ok (.invokevirtual 135, 3) := by decide +kernel
theorem dX11_compares_48 : decode cX11_compares 48 = .ok (.aload_n 0, 1) := by decide +kernel
theorem dX11_compares_49 : decode cX11_compares 49 = .ok (.iload_n 1, 1) := by decide +kernel
theorem dX11_compares_50 : decode cX11_compares 50 = .ok (.iconst 0, 1) := by decide +kernel
theorem dX11_compares_51 : decode cX11_compares 51 = .ok (.invokevirtual 109, 3) := by decide +kernel
theorem dX11_compares_54 : decode cX11_compares 54 = .ok (.return_, 1) := by decide +kernel
set_option maxRecDepth 20000 in
theorem ggX11_all_X11_compares : GoodIn wsX11_all wsX11_compares := goodIn_r _ [23, 1, 2, 24, 25, 26, 6, 7, 8, 9, 10, 11, 12, 13, 14, 15, 16, 17, 18, 0, 3, 4, 5, 19, 20, 21, 22, 27, 28, 29, 30, 31, 32, 33, 34, 35, 36, 37, 38, 39, 40, 41, 42, 43, 44, 45, 46, 47, 48, 49, 50, 51, 52, 53, 54, 55, 56, 57, 58, 59, 60, 61, 62, 63, 64, 65, 66, 67, 68, 69, 70, 71, 72, 73, 74, 75] (by decide +kernel) (by decide +kernel)
set_option maxRecDepth 20000 in
theorem gX11_all_X11_compares : GoodIn wsX11_all (wsV RX11 138 RX11 yX11_compares wsX11_compares) := goodIn_app (goodIn_of _ (by decide +kernel)) ggX11_all_X11_compares
set_option maxRecDepth 20000 in
theorem ggX11_all_X11_look : GoodIn wsX11_all wsX11_look := goodIn_r _ [10, 2, 11, 56, 57, 58, 59, 60, 61, 62, 63, 64, 65, 66, 67, 68, 69, 70, 71, 72, 73, 74, 75] (by decide +kernel) (by decide +kernel)
set_option maxRecDepth 20000 in
theorem gX11_all_X11_look : GoodIn wsX11_all (wsV RX11 101 RX11 yX11_look wsX11_look) := goodIn_app (goodIn_of _ (by decide +kernel)) ggX11_all_X11_look
set_option maxRecDepth 20000 in
theorem ggX11_all_X11_step : GoodIn wsX11_all wsX11_step := goodIn_r _ [15, 16, 17, 18, 56, 57, 58, 59, 60, 61, 62, 63, 64, 65, 66, 67, 68, 69, 70, 71, 72, 73, 74, 75] (by decide +kernel) (by decide +kernel)
set_option maxRecDepth 20000 in
theorem gX11_all_X11_step : GoodIn wsX11_all (wsV RX11 109 RX11 yX11_step wsX11_step) := goodIn_app (goodIn_of _ (by decide +kernel)) ggX11_all_X11_step
theorem dX11_all_0 : decode cX11_all 0 = .ok (.aload_n 0, 1) := by decide +kernel
theorem dX11_all_1 : decode cX11_all 1 = .ok (.invokevirtual 138, 3) := by decide +kernel
theorem dX11_all_4 : decode cX11_all 4 = .ok (.aload_n 0, 1) := by decide +kernel
theorem dX11_all_5 : decode cX11_all 5 = .ok (.getfield 105, 3) := by decide +kernel
theorem dX11_all_8 : decode cX11_all 8 = .ok (.ifCond .ne 36, 3) := by decide +kernel
theorem dX11_all_11 : decode cX11_all 11 = .ok (.aload_n 0, 1) := by decide +kernel
theorem dX11_all_12 : decode cX11_all 12 = .ok (.invokevirtual 101, 3) := by decide +kernel
theorem dX11_all_15 : decode cX11_all 15 = .ok (.bipush 38, 2) := by decide +kernel
theorem dX11_all_17 : decode cX11_all 17 = .ok (.if_icmp .ne 27, 3) := by decide +kernel
theorem dX11_all_20 : decode cX11_all 20 = .ok (.aload_n 0, 1) := by decide +kernel
theorem dX11_all_21 : decode cX11_all 21 = .ok (.dup, 1) := by decide +kernel
theorem dX11_all_22 : decode cX11_all 22 = .ok (.getfield 91, 3) := by decide +kernel
theorem dX11_all_25 : decode cX11_all 25 = .ok (.iconst 1, 1) := by decide +kernel
theorem dX11_all_26 : decode cX11_all 26 = .ok (.iadd, 1) := by decide +kernel
theorem dX11_all_27 : decode cX11_all 27 = .ok (.putfield 91, 3) := by decide +kernel
theorem dX11_all_30 : decode cX11_all 30 = .ok (.aload_n 0, 1) := by decide +kernel
theorem dX11_all_31 : decode cX11_all 31 = .ok (.invokevirtual 138, 3) := by decide +kernel
theorem dX11_all_34 : decode cX11_all 34 = .ok (.aload_n 0, 1) := by decide +kernel
theorem dX11_all_35 : decode cX11_all 35 = .ok (.bipush 38, 2) := by decide +kernel
theorem dX11_all_37 : decode cX11_all 37 = .ok (.iconst 0, 1) := by decide +kernel
theorem dX11_all_38 : decode cX11_all 38 = .ok (.invokevirtual 109, 3) := by decide +kernel
theorem dX11_all_41 : decode cX11_all 41 = .ok (.goto (-37), 3) := by decide +kernel
theorem dX11_all_44 : decode cX11_all 44 = .ok (.return_, 1) := by decide +kernel
set_option maxRecDepth 20000 in
theorem ggX11_any_X11_all : GoodIn wsX11_any wsX11_all := goodIn_r _ [19, 1, 2, 20, 21, 22, 6, 7, 8, 9, 10, 11, 12, 13, 14, 15, 16, 17, 18, 0, 3, 4, 5, 23, 24, 25, 26, 27, 28, 29, 30, 31, 32, 33, 34, 35, 36, 37, 38, 39, 40, 41, 42, 43, 44, 45, 46, 47, 48, 49, 50, 51, 52, 53, 54, 55, 56, 57, 58, 59, 60, 61, 62, 63, 64, 65, 66, 67, 68, 69, 70, 71, 72, 73, 74, 75] (by decide +kernel) (by decide +kernel)
set_option maxRecDepth 20000 in
theorem gX11_any_X11_all : GoodIn wsX11_any (wsV RX11 141 RX11 yX11_all wsX11_all) := goodIn_app (goodIn_of _ (by decide +kernel)) ggX11_any_X11_all
set_option maxRecDepth 20000 in
theorem ggX11_any_X11_look : GoodIn wsX11_any wsX11_look := goodIn_r _ [10, 2, 11, 56, 57, 58, 59, 60, 61, 62, 63, 64, 65, 66, 67, 68, 69, 70, 71, 72, 73, 74, 75] (by decide +kernel) (by decide +kernel)
set_option maxRecDepth 20000 in
theorem gX11_any_X11_look : GoodIn wsX11_any (wsV RX11 101 RX11 yX11_look wsX11_look) := goodIn_app (goodIn_of _ (by decide +kernel)) ggX11_any_X11_look
set_option maxRecDepth 20000 in
theorem ggX11_any_X11_step : GoodIn wsX11_any wsX11_step := goodIn_r _ [15, 16, 17, 18, 56, 57, 58, 59, 60, 61, 62, 63, 64, 65, 66, 67, 68, 69, 70, 71, 72, 73, 74, 75] (by decide +kernel) (by decide +kernel)
set_option maxRecDepth 20000 in
theorem gX11_any_X11_step : GoodIn wsX11_any (wsV RX11 109 RX11 yX11_step wsX11_step) := goodIn_app (goodIn_of _ (by decide +kernel)) ggX11_any_X11_step
theorem dX11_any_0 : decode cX11_any 0 = .ok (.aload_n 0, 1) := by decide +kernel
theorem dX11_any_1 : decode cX11_any 1 = .ok (.invokevirtual 141, 3) := by decide +kernel
theorem dX11_any_4 : decode cX11_any 4 = .ok (.aload_n 0, 1) := by decide +kernel
theorem dX11_any_5 : decode cX11_any 5 = .ok (.getfield 105, 3) := by decide +kernel
theorem dX11_any_8 : decode cX11_any 8 = .ok (.ifCond .ne 36, 3) := by decide +kernel
theorem dX11_any_11 : decode cX11_any 11 = .ok (.aload_n 0, 1) := by decide +kernel
theorem dX11_any_12 : decode cX11_any 12 = .ok (.invokevirtual 101, 3) := by decide +kernel
theorem dX11_any_15 : decode cX11_any 15 = .ok (.bipush 124, 2) := by decide +kernel
theorem dX11_any_17 : decode cX11_any 17 = .ok (.if_icmp .ne 27, 3) := by decide +kernel
theorem dX11_any_20 : decode cX11_any 20 = .ok (.aload_n 0, 1) := by decide +kernel
theorem dX11_any_21 : decode cX11_any 21 = .ok (.dup, 1) := by decide +kernel
theorem dX11_any_22 : decode cX11_any 22 = .ok (.getfield 91, 3) := by decide +kernel
theorem dX11_any_25 : decode cX11_any 25 = .ok (.iconst 1, 1) := by decide +kernel
theorem dX11_any_26 : decode cX11_any 26 = .ok (.iadd, 1) := by decide +kernel
theorem dX11_any_27 : decode cX11_any 27 = .ok (.putfield 91, 3) := by decide +kernel
theorem dX11_any_30 : decode cX11_any 30 = .ok (.aload_n 0, 1) := by decide +kernel
theorem dX11_any_31 : decode cX11_any 31 = .ok (.invokevirtual 141, 3) := by decide +kernel
theorem dX11_any_34 : decode cX11_any 34 = .ok (.aload_n 0, 1) := by decide +kernel
theorem dX11_any_35 : decode cX11_any 35 = .ok (.bipush 124, 2) := by decide +kernel
theorem dX11_any_37 : decode cX11_any 37 = .ok (.iconst 0, 1) := by decide +kernel
theorem dX11_any_38 : decode cX11_any 38 = .ok (.invokevirtual 109, 3) := by decide +kernel
theorem dX11_any_41 : decode cX11_any 41 = .ok (.goto (-37), 3) := by decide +kernel
theorem dX11_any_44 : decode cX11_any 44 = .ok (.return_, 1) := by decide +kernel
set_option maxRecDepth 20000 in
theorem ggX11_text_X11_in : GoodIn wsX11_text wsX11_in := goodIn_r _ [13] (by decide +kernel) (by decide +kernel)
set_option maxRecDepth 20000 in
theorem gX11_text_X11_in : GoodIn wsX11_text (va_wsS RX11 47 yX11_in wsX11_in) := goodIn_app (goodIn_of _ (by decide +kernel)) ggX11_text_X11_in
set_option maxRecDepth 20000 in
theorem ggX11_text_X11_error : GoodIn wsX11_text wsX11_error := goodIn_r _ [17, 18, 19, 64, 65, 66, 67, 68, 69, 70, 71, 72, 73, 74, 75, 76, 77, 78, 79, 80, 81, 82, 83] (by decide +kernel) (by decide +kernel)
set_option maxRecDepth 20000 in
theorem gX11_text_X11_error : GoodIn wsX11_text (wsV RX11 67 RX11 yX11_error wsX11_error) := goodIn_app (goodIn_of _ (by decide +kernel)) ggX11_text_X11_error
set_option maxRecDepth 20000 in
theorem ggX11_text_X11_any : GoodIn wsX11_text wsX11_any := goodIn_r _ [23, 6, 4, 24, 25, 26, 12, 27, 28, 29, 30, 7, 31, 32, 33, 34, 3, 8, 9, 35, 36, 37, 38, 39, 40, 41, 42, 43, 44, 45, 46, 47, 2, 48, 49, 50, 51, 52, 53, 54, 10, 11, 13, 55, 5, 56, 57, 58, 20, 21, 22, 59, 60, 61, 62, 63, 64, 65, 66, 67, 68, 69, 70, 71, 72, 73, 74, 75, 76, 77, 78, 79, 80, 81, 82, 83] (by decide +kernel) (by decide +kernel)
set_option maxRecDepth 20000 in
theorem gX11_text_X11_any : GoodIn wsX11_text (wsV RX11 119 RX11 yX11_any wsX11_any) := goodIn_app (goodIn_of _ (by decide +kernel)) ggX11_text_X11_any
theorem dX11_text_0 : decode cX11_text 0 = .ok (.iload_n 1, 1) := by decide +kernel
theorem dX11_text_1 : decode cX11_text 1 = .ok (.iconst 0, 1) := by decide +kernel
theorem dX11_text_2 : decode cX11_text 2 = .ok (.iconst 1, 1) := by decide +kernel
theorem dX11_text_3 : decode cX11_text 3 = .ok (.invokestatic 47, 3) := by decide +kernel
theorem dX11_text_6 : decode cX11_text 6 = .ok (.ifCond .ne 10, 3) := by decide +kernel
theorem dX11_text_9 : decode cX11_text 9 = .ok (.aload_n 0, 1) := by decide +kernel
theorem dX11_text_10 : decode cX11_text 10 = .ok (.ldc 66, 2) := by decide +kernel
theorem dX11_text_12 : decode cX11_text 12 = .ok (.invokevirtual 67, 3) := by decide +kernel
theorem dX11_text_15 : decode cX11_text 15 = .ok (.ireturn, 1) := by decide +kernel
theorem dX11_text_16 : decode cX11_text 16 = .ok (.aload_n 0, 1) := by decide +kernel
theorem dX11_text_17 : decode cX11_text 17 = .ok (.iload_n 1, 1) := by decide +kernel
theorem dX11_text_18 : decode cX11_text 18 = .ok (.putfield 98, 3) := by decide +kernel
theorem dX11_text_21 : decode cX11_text 21 = .ok (.aload_n 0, 1) := by decide +kernel
theorem dX11_text_22 : decode cX11_text 22 = .ok (.iconst 0, 1) := by decide +kernel
theorem dX11_text_23 : decode cX11_text 23 = .ok (.putfield 95, 3) := by decide +kernel
theorem dX11_text_26 : decode cX11_text 26 = .ok (.aload_n 0, 1) := by decide +kernel
theorem dX11_text_27 : decode cX11_text 27 = .ok (.iconst 0, 1) := by decide +kernel
theorem dX11_text_28 : decode cX11_text 28 = .ok (.putfield 91, 3) := by decide +kernel
theorem dX11_text_31 : decode cX11_text 31 = .ok (.aload_n 0, 1) := by decide +kernel
theorem dX11_text_32 : decode cX11_text 32 = .ok (.iconst 0, 1) := by decide +kernel
theorem dX11_text_33 : decode cX11_text 33 = .ok (.putfield 113, 3) := by decide +kernel
theorem dX11_text_36 : decode cX11_text 36 = .ok (.aload_n 0, 1) := by decide +kernel
theorem dX11_text_37 : decode cX11_text 37 = .ok (.iconst 0, 1) := by decide +kernel
theorem dX11_text_38 : decode cX11_text 38 = .ok (.putfield 105, 3) := by decide +kernel
theorem dX11_text_41 : decode cX11_text 41 = .ok (.aload_n 0, 1) := by decide +kernel
theorem dX11_text_42 : decode cX11_text 42 = .ok (.invokevirtual 119, 3) := by decide +kernel
theorem dX11_text_45 : decode cX11_text 45 = .ok (.aload_n 0, 1) := by decide +kernel
theorem dX11_text_46 : decode cX11_text 46 = .ok (.aload_n 0, 1) := by decide +kernel
theorem dX11_text_47 : decode cX11_text 47 = .ok (.getfield 105, 3) := by decide +kernel
theorem dX11_text_50 : decode cX11_text 50 = .ok (.ifCond .ne 16, 3) := by decide +kernel
theorem dX11_text_53 : decode cX11_text 53 = .ok (.aload_n 0, 1) := by decide +kernel
theorem dX11_text_54 : decode cX11_text 54 = .ok (.getfield 91, 3) := by decide +kernel
theorem dX11_text_57 : decode cX11_text 57 = .ok (.aload_n 0, 1) := by decide +kernel
theorem dX11_text_58 : decode cX11_text 58 = .ok (.getfield 9, 3) := by decide +kernel
theorem dX11_text_61 : decode cX11_text 61 = .ok (.iconst 3, 1) := by decide +kernel
theorem dX11_text_62 : decode cX11_text 62 = .ok (.iaload, 1) := by decide +kernel
theorem dX11_text_63 : decode cX11_text 63 = .ok (.if_icmp .ge 7, 3) := by decide +kernel
theorem dX11_text_66 : decode cX11_text 66 = .ok (.iconst 1, 1) := by decide +kernel
theorem dX11_text_67 : decode cX11_text 67 = .ok (.goto 4, 3) := by decide +kernel
theorem dX11_text_70 : decode cX11_text 70 = .ok (.iconst 0, 1) := by decide +kernel
theorem dX11_text_71 : decode cX11_text 71 = .ok (.putfield 105, 3) := by decide +kernel
theorem dX11_text_74 : decode cX11_text 74 = .ok (.aload_n 0, 1) := by decide +kernel
theorem dX11_text_75 : decode cX11_text 75 = .ok (.getfield 9, 3) := by decide +kernel
theorem dX11_text_78 : decode cX11_text 78 = .ok (.iconst 3, 1) := by decide +kernel
theorem dX11_text_79 : decode cX11_text 79 = .ok (.iconst 0, 1) := by decide +kernel
theorem dX11_text_80 : decode cX11_text 80 = .ok (.iastore, 1) := by decide +kernel
theorem dX11_text_81 : decode cX11_text 81 = .ok (.aload_n 0, 1) := by decide +kernel
theorem dX11_text_82 : decode cX11_text 82 = .ok (.getfield 105, 3) := by decide +kernel
theorem dX11_text_85 : decode cX11_text 85 = .ok (.ifCond .eq 11, 3) := by decide +kernel
theorem dX11_text_88 : decode cX11_text 88 = .ok (.bipush (-10), 2) := by decide +kernel
theorem dX11_text_90 : decode cX11_text 90 = .ok (.aload_n 0, 1) := by decide +kernel
theorem dX11_text_91 : decode cX11_text 91 = .ok (.getfield 91, 3) := by decide +kernel
theorem dX11_text_94 : decode cX11_text 94 = .ok (.isub, 1) := by decide +kernel
theorem dX11_text_95 : decode cX11_text 95 = .ok (.ireturn, 1) := by decide +kernel
theorem dX11_text_96 : decode cX11_text 96 = .ok (.sipush 155, 3) := by decide +kernel
theorem dX11_text_99 : decode cX11_text 99 = .ok (.bipush 121, 2) := by decide +kernel
theorem dX11_text_101 : decode cX11_text 101 = .ok (.iload_n 1, 1) := by decide +kernel
theorem dX11_text_102 : decode cX11_text 102 = .ok (.imul, 1) := by decide +kernel
theorem dX11_text_103 : decode cX11_text 103 = .ok (.iadd, 1) := by decide +kernel
theorem dX11_text_104 : decode cX11_text 104 = .ok (.istore_n 2, 1) := by decide +kernel
theorem dX11_text_105 : decode cX11_text 105 = .ok (.aload_n 0, 1) := by decide +kernel
theorem dX11_text_106 : decode cX11_text 106 = .ok (.getfield 9, 3) := by decide +kernel
theorem dX11_text_109 : decode cX11_text 109 = .ok (.iload_n 2, 1) := by decide +kernel
theorem dX11_text_110 : decode cX11_text 110 = .ok (.aload_n 0, 1) := by decide +kernel
theorem dX11_text_111 : decode cX11_text 111 = .ok (.getfield 95, 3) := by decide +kernel
theorem dX11_text_114 : decode cX11_text 114 = .ok (.iastore, 1) := by decide +kernel
theorem dX11_text_115 : decode cX11_text 115 = .ok (.iconst 0, 1) := by decide +kernel
theorem dX11_text_116 : decode cX11_text 116 = .ok (.istore_n 3, 1) := by decide +kernel
theorem dX11_text_117 : decode cX11_text 117 = .ok (.iload_n 3, 1) := by decide +kernel
theorem dX11_text_118 : decode cX11_text 118 = .ok (.aload_n 0, 1) := by decide +kernel
theorem dX11_text_119 : decode cX11_text 119 = .ok (.getfield 95, 3) := by decide +kernel
theorem dX11_text_122 : decode cX11_text 122 = .ok (.if_icmp .ge 42, 3) := by decide +kernel
theorem dX11_text_125 : decode cX11_text 125 = .ok (.aload_n 0, 1) := by decide +kernel
theorem dX11_text_126 : decode cX11_text 126 = .ok (.getfield 9, 3) := by decide +kernel
theorem dX11_text_129 : decode cX11_text 129 = .ok (.iload_n 2, 1) := by decide +kernel
theorem dX11_text_130 : decode cX11_text 130 = .ok (.iconst 1, 1) := by decide +kernel
theorem dX11_text_131 : decode cX11_text 131 = .ok (.iadd, 1) := by decide +kernel
theorem dX11_text_132 : decode cX11_text 132 = .ok (.iload_n 3, 1) := by decide +kernel
theorem dX11_text_133 : decode cX11_text 133 = .ok (.iadd, 1) := by decide +kernel
theorem dX11_text_134 : decode cX11_text 134 = .ok (.aload_n 0, 1) := by decide +kernel
theorem dX11_text_135 : decode cX11_text 135 = .ok (.getfield 22, 3) := by decide +kernel
theorem dX11_text_138 : decode cX11_text 138 = .ok (.iload_n 3, 1) := by decide +kernel
theorem dX11_text_139 : decode cX11_text 139 = .ok (.iaload, 1) := by decide +kernel
theorem dX11_text_140 : decode cX11_text 140 = .ok (.iastore, 1) := by decide +kernel
theorem dX11_text_141 : decode cX11_text 141 = .ok (.aload_n 0, 1) := by decide +kernel
theorem dX11_text_142 : decode cX11_text 142 = .ok (.getfield 9, 3) := by decide +kernel
theorem dX11_text_145 : decode cX11_text 145 = .ok (.iload_n 2, 1) := by decide +kernel
theorem dX11_text_146 : decode cX11_text 146 = .ok (.bipush 61, 2) := by decide +kernel
theorem dX11_text_148 : decode cX11_text 148 = .ok (.iadd, 1) := by decide +kernel
theorem dX11_text_149 : decode cX11_text 149 = .ok (.iload_n 3, 1) := by decide +kernel
theorem dX11_text_150 : decode cX11_text 150 = .ok (.iadd, 1) := by decide +kernel
theorem dX11_text_151 : decode cX11_text 151 = .ok (.aload_n 0, 1) := by decide +kernel
theorem dX11_text_152 : decode cX11_text 152 = .ok (.getfield 25, 3) := by decide +kernel
theorem dX11_text_155 : decode cX11_text 155 = .ok (.iload_n 3, 1) := by decide +kernel
theorem dX11_text_156 : decode cX11_text 156 = .ok (.iaload, 1) := by decide +kernel
theorem dX11_text_157 : decode cX11_text 157 = .ok (.iastore, 1) := by decide +kernel
theorem dX11_text_158 : decode cX11_text 158 = .ok (.iinc 3 1, 3) := by decide +kernel
theorem dX11_text_161 : decode cX11_text 161 = .ok (.goto (-44), 3) := by decide +kernel
theorem dX11_text_164 : decode cX11_text 164 = .ok (.iconst 1, 1) := by decide +kernel
theorem dX11_text_165 : decode cX11_text 165 = .ok (.ireturn, 1) := by decide +kernel
set_option maxRecDepth 20000 in
theorem ggX11_untell_X11_in : GoodIn wsX11_untell wsX11_in := goodIn_r _ [5] (by decide +kernel) (by decide +kernel)
set_option maxRecDepth 20000 in
theorem gX11_untell_X11_in : GoodIn wsX11_untell (va_wsS RX11 47 yX11_in wsX11_in) := goodIn_app (goodIn_of _ (by decide +kernel)) ggX11_untell_X11_in
set_option maxRecDepth 20000 in
theorem ggX11_untell_X11_error : GoodIn wsX11_untell wsX11_error := goodIn_r _ [9, 10, 11, 17, 18, 19, 20, 21, 22, 23, 24, 25, 26, 27, 28, 29, 30, 31, 32, 33, 34, 35, 36] (by decide +kernel) (by decide +kernel)
set_option maxRecDepth 20000 in
theorem gX11_untell_X11_error : GoodIn wsX11_untell (wsV RX11 67 RX11 yX11_error wsX11_error) := goodIn_app (goodIn_of _ (by decide +kernel)) ggX11_untell_X11_error
set_option maxRecDepth 20000 in
theorem ggX11_untell_X11_becomes : GoodIn wsX11_untell wsX11_becomes := goodIn_r _ [15, 16, 17, 18, 19, 20, 21, 22, 23, 24, 25, 26, 27, 28, 29, 30, 31, 32, 33, 34, 35, 36] (by decide +kernel) (by decide +kernel)
set_option maxRecDepth 20000 in
theorem gX11_untell_X11_becomes : GoodIn wsX11_untell (wsV RX11 71 RX11 yX11_becomes wsX11_becomes) := goodIn_app (goodIn_of _ (by decide +kernel)) ggX11_untell_X11_becomes
theorem dX11_untell_0 : decode cX11_untell 0 = .ok (.iload_n 1, 1) := by decide +kernel
theorem dX11_untell_1 : decode cX11_untell 1 = .ok (.iconst 0, 1) := by decide +kernel
theorem dX11_untell_2 : decode cX11_untell 2 = .ok (.iconst 1, 1) := by decide +kernel
theorem dX11_untell_3 : decode cX11_untell 3 = .ok (.invokestatic 47, 3) := by decide +kernel
theorem dX11_untell_6 : decode cX11_untell 6 = .ok (.ifCond .ne 10, 3) := by decide +kernel
theorem dX11_untell_9 : decode cX11_untell 9 = .ok (.aload_n 0, 1) := by decide +kernel
theorem dX11_untell_10 : decode cX11_untell 10 = .ok (.ldc 66, 2) := by decide +kernel
theorem dX11_untell_12 : decode cX11_untell 12 = .ok (.invokevirtual 67, 3) := by decide +kernel
theorem dX11_untell_15 : decode cX11_untell 15 = .ok (.ireturn, 1) := by decide +kernel
theorem dX11_untell_16 : decode cX11_untell 16 = .ok (.aload_n 0, 1) := by decide +kernel
theorem dX11_untell_17 : decode cX11_untell 17 = .ok (.sipush 155, 3) := by decide +kernel
theorem dX11_untell_20 : decode cX11_untell 20 = .ok (.bipush 121, 2) := by decide +kernel
theorem dX11_untell_22 : decode cX11_untell 22 = .ok (.iload_n 1, 1) := by decide +kernel
theorem dX11_untell_23 : decode cX11_untell 23 = .ok (.imul, 1) := by decide +kernel
theorem dX11_untell_24 : decode cX11_untell 24 = .ok (.iadd, 1) := by decide +kernel
theorem dX11_untell_25 : decode cX11_untell 25 = .ok (.iconst 0, 1) := by decide +kernel
theorem dX11_untell_26 : decode cX11_untell 26 = .ok (.invokevirtual 71, 3) := by decide +kernel
theorem dX11_untell_29 : decode cX11_untell 29 = .ok (.ifCond .le 7, 3) := by decide +kernel
theorem dX11_untell_32 : decode cX11_untell 32 = .ok (.iconst 1, 1) := by decide +kernel
theorem dX11_untell_33 : decode cX11_untell 33 = .ok (.goto 4, 3) := by decide +kernel
theorem dX11_untell_36 : decode cX11_untell 36 = .ok (.iconst 0, 1) := by decide +kernel
theorem dX11_untell_37 : decode cX11_untell 37 = .ok (.ireturn, 1) := by decide +kernel
theorem dX11_twoOf_0 : decode cX11_twoOf 0 = .ok (.iload_n 0, 1) := by decide +kernel
theorem dX11_twoOf_1 : decode cX11_twoOf 1 = .ok (.tableswitch 202 37 62 #[143, 188, 202, 202, 202, 127, 119, 202, 123, 202, 131, 202, 202, 202, 202, 202, 202, 202, 202, 202, 202, 202, 202, 155, 166, 177], 119) := by decide +kernel
theorem dX11_twoOf_120 : decode cX11_twoOf 120 = .ok (.iload_n 1, 1) := by decide +kernel
theorem dX11_twoOf_121 : decode cX11_twoOf 121 = .ok (.iload_n 2, 1) := by decide +kernel
theorem dX11_twoOf_122 : decode cX11_twoOf 122 = .ok (.iadd, 1) := by decide +kernel
theorem dX11_twoOf_123 : decode cX11_twoOf 123 = .ok (.ireturn, 1) := by decide +kernel
theorem dX11_twoOf_124 : decode cX11_twoOf 124 = .ok (.iload_n 1, 1) := by decide +kernel
theorem dX11_twoOf_125 : decode cX11_twoOf 125 = .ok (.iload_n 2, 1) := by decide +kernel
theorem dX11_twoOf_126 : decode cX11_twoOf 126 = .ok (.isub, 1) := by decide +kernel
theorem dX11_twoOf_127 : decode cX11_twoOf 127 = .ok (.ireturn, 1) := by decide +kernel
theorem dX11_twoOf_128 : decode cX11_twoOf 128 = .ok (.iload_n 1, 1) := by decide +kernel
theorem dX11_twoOf_129 : decode cX11_twoOf 129 = .ok (.iload_n 2, 1) := by decide +kernel
theorem dX11_twoOf_130 : decode cX11_twoOf 130 = .ok (.imul, 1) := by decide +kernel
theorem dX11_twoOf_131 : decode cX11_twoOf 131 = .ok (.ireturn, 1) := by decide +kernel
theorem dX11_twoOf_132 : decode cX11_twoOf 132 = .ok (.iload_n 2, 1) := by decide +kernel
theorem dX11_twoOf_133 : decode cX11_twoOf 133 = .ok (.ifCond .ne 7, 3) := by decide +kernel
theorem dX11_twoOf_136 : decode cX11_twoOf 136 = .ok (.iconst 0, 1) := by decide +kernel
theorem dX11_twoOf_137 : decode cX11_twoOf 137 = .ok (.goto 6, 3) := by decide +kernel
theorem dX11_twoOf_140 : decode cX11_twoOf 140 = .ok (.iload_n 1, 1) := by decide +kernel
theorem dX11_twoOf_141 : decode cX11_twoOf 141 = .ok (.iload_n 2, 1) := by decide +kernel
theorem dX11_twoOf_142 : decode cX11_twoOf 142 = .ok (.idiv, 1) := by decide +kernel
theorem dX11_twoOf_143 : decode cX11_twoOf 143 = .ok (.ireturn, 1) := by decide +kernel
theorem dX11_twoOf_144 : decode cX11_twoOf 144 = .ok (.iload_n 2, 1) := by decide +kernel
theorem dX11_twoOf_145 : decode cX11_twoOf 145 = .ok (.ifCond .ne 7, 3) := by decide +kernel
theorem dX11_twoOf_148 : decode cX11_twoOf 148 = .ok (.iconst 0, 1) := by decide +kernel
theorem dX11_twoOf_149 : decode cX11_twoOf 149 = .ok (.goto 6, 3) := by decide +kernel
theorem dX11_twoOf_152 : decode cX11_twoOf 152 = .ok (.iload_n 1, 1) := by decide +kernel
theorem dX11_twoOf_153 : decode cX11_twoOf 153 = .ok (.iload_n 2, 1) := by decide +kernel
theorem dX11_twoOf_154 : decode cX11_twoOf 154 = .ok (.irem, 1) := by decide +kernel
theorem dX11_twoOf_155 : decode cX11_twoOf 155 = .ok (.ireturn, 1) := by decide +kernel
theorem dX11_twoOf_156 : decode cX11_twoOf 156 = .ok (.iload_n 1, 1) := by decide +kernel
theorem dX11_twoOf_157 : decode cX11_twoOf 157 = .ok (.iload_n 2, 1) := by decide +kernel
theorem dX11_twoOf_158 : decode cX11_twoOf 158 = .ok (.if_icmp .ge 7, 3) := by decide +kernel
theorem dX11_twoOf_161 : decode cX11_twoOf 161 = .ok (.iconst 1, 1) := by decide +kernel
theorem dX11_twoOf_162 : decode cX11_twoOf 162 = .ok (.goto 4, 3) := by decide +kernel
theorem dX11_twoOf_165 : decode cX11_twoOf 165 = .ok (.iconst 0, 1) := by decide +kernel
theorem dX11_twoOf_166 : decode cX11_twoOf 166 = .ok (.ireturn, 1) := by decide +kernel
theorem dX11_twoOf_167 : decode cX11_twoOf 167 = .ok (.iload_n 1, 1) := by decide +kernel
theorem dX11_twoOf_168 : decode cX11_twoOf 168 = .ok (.iload_n 2, 1) := by decide +kernel
theorem dX11_twoOf_169 : decode cX11_twoOf 169 = .ok (.if_icmp .ne 7, 3) := by decide +kernel
theorem dX11_twoOf_172 : decode cX11_twoOf 172 = .ok (.iconst 1, 1) := by decide +kernel
theorem dX11_twoOf_173 : decode cX11_twoOf 173 = .ok (.goto 4, 3) := by decide +kernel
theorem dX11_twoOf_176 : decode cX11_twoOf 176 = .ok (.iconst 0, 1) := by decide +kernel
theorem dX11_twoOf_177 : decode cX11_twoOf 177 = .ok (.ireturn, 1) := by decide +kernel
theorem dX11_twoOf_178 : decode cX11_twoOf 178 = .ok (.iload_n 1, 1) := by decide +kernel
theorem dX11_twoOf_179 : decode cX11_twoOf 179 = .ok (.iload_n 2, 1) := by decide +kernel
theorem dX11_twoOf_180 : decode cX11_twoOf 180 = .ok (.if_icmp .le 7, 3) := by decide +kernel
theorem dX11_twoOf_183 : decode cX11_twoOf 183 = .ok (.iconst 1, 1) := by decide +kernel
theorem dX11_twoOf_184 : decode cX11_twoOf 184 = .ok (.goto 4, 3) := by decide +kernel
theorem dX11_twoOf_187 : decode cX11_twoOf 187 = .ok (.iconst 0, 1) := by decide +kernel
theorem dX11_twoOf_188 : decode cX11_twoOf 188 = .ok (.ireturn, 1) := by decide +kernel
theorem dX11_twoOf_189 : decode cX11_twoOf 189 = .ok (.iload_n 1, 1) := by decide +kernel
theorem dX11_twoOf_190 : decode cX11_twoOf 190 = .ok (.ifCond .eq 11, 3) := by decide +kernel
theorem dX11_twoOf_193 : decode cX11_twoOf 193 = .ok (.iload_n 2, 1) := by decide +kernel
theorem dX11_twoOf_194 : decode cX11_twoOf 194 = .ok (.ifCond .eq 7, 3) := by decide +kernel
theorem dX11_twoOf_197 : decode cX11_twoOf 197 = .ok (.iconst 1, 1) := by decide +kernel
theorem dX11_twoOf_198 : decode cX11_twoOf 198 = .ok (.goto 4, 3) := by decide +kernel
theorem dX11_twoOf_201 : decode cX11_twoOf 201 = .ok (.iconst 0, 1) := by decide +kernel
theorem dX11_twoOf_202 : decode cX11_twoOf 202 = .ok (.ireturn, 1) := by decide +kernel
theorem dX11_twoOf_203 : decode cX11_twoOf 203 = .ok (.iload_n 1, 1) := by decide +kernel
theorem dX11_twoOf_204 : decode cX11_twoOf 204 = .ok (.ifCond .ne 7, 3) := by decide +kernel
theorem dX11_twoOf_207 : decode cX11_twoOf 207 = .ok (.iload_n 2, 1) := by decide +kernel
theorem dX11_twoOf_208 : decode cX11_twoOf 208 = .ok (.ifCond .eq 7, 3) := by decide +kernel
theorem dX11_twoOf_211 : decode cX11_twoOf 211 = .ok (.iconst 1, 1) := by decide +kernel
theorem dX11_twoOf_212 : decode cX11_twoOf 212 = .ok (.goto 4, 3) := by decide +kernel
theorem dX11_twoOf_215 : decode cX11_twoOf 215 = .ok (.iconst 0, 1) := by decide +kernel
theorem dX11_twoOf_216 : decode cX11_twoOf 216 = .ok (.ireturn, 1) := by decide +kernel
set_option maxRecDepth 20000 in
theorem ggX11_works_X11_twoOf : GoodIn wsX11_works wsX11_twoOf := goodIn_r _ [7] (by decide +kernel) (by decide +kernel)
set_option maxRecDepth 20000 in
theorem gX11_works_X11_twoOf : GoodIn wsX11_works (va_wsS RX11 144 yX11_twoOf wsX11_twoOf) := goodIn_app (goodIn_of _ (by decide +kernel)) ggX11_works_X11_twoOf
theorem dX11_works_0 : decode cX11_works 0 = .ok (.iconst 0, 1) := by decide +kernel
theorem dX11_works_1 : decode cX11_works 1 = .ok (.istore_n 2, 1) := by decide +kernel
theorem dX11_works_2 : decode cX11_works 2 = .ok (.iconst 0, 1) := by decide +kernel
theorem dX11_works_3 : decode cX11_works 3 = .ok (.istore_n 3, 1) := by decide +kernel
theorem dX11_works_4 : decode cX11_works 4 = .ok (.iload_n 3, 1) := by decide +kernel
theorem dX11_works_5 : decode cX11_works 5 = .ok (.aload_n 0, 1) := by decide +kernel
theorem dX11_works_6 : decode cX11_works 6 = .ok (.getfield 9, 3) := by decide +kernel
theorem dX11_works_9 : decode cX11_works 9 = .ok (.iload_n 1, 1) := by decide +kernel
theorem dX11_works_10 : decode cX11_works 10 = .ok (.iaload, 1) := by decide +kernel
theorem dX11_works_11 : decode cX11_works 11 = .ok (.if_icmp .ge 144, 3) := by decide +kernel
theorem dX11_works_14 : decode cX11_works 14 = .ok (.aload_n 0, 1) := by decide +kernel
theorem dX11_works_15 : decode cX11_works 15 = .ok (.getfield 9, 3) := by decide +kernel
theorem dX11_works_18 : decode cX11_works 18 = .ok (.iload_n 1, 1) := by decide +kernel
theorem dX11_works_19 : decode cX11_works 19 = .ok (.iconst 1, 1) := by decide +kernel
theorem dX11_works_20 : decode cX11_works 20 = .ok (.iadd, 1) := by decide +kernel
theorem dX11_works_21 : decode cX11_works 21 = .ok (.iload_n 3, 1) := by decide +kernel
theorem dX11_works_22 : decode cX11_works 22 = .ok (.iadd, 1) := by decide +kernel
theorem dX11_works_23 : decode cX11_works 23 = .ok (.iaload, 1) := by decide +kernel
theorem dX11_works_24 : decode cX11_works 24 = .ok (.istore 4, 2) := by decide +kernel
theorem dX11_works_26 : decode cX11_works 26 = .ok (.iload 4, 2) := by decide +kernel
theorem dX11_works_28 : decode cX11_works 28 = .ok (.iconst 1, 1) := by decide +kernel
theorem dX11_works_29 : decode cX11_works 29 = .ok (.if_icmp .eq 9, 3) := by decide +kernel
theorem dX11_works_32 : decode cX11_works 32 = .ok (.iload 4, 2) := by decide +kernel
theorem dX11_works_34 : decode cX11_works 34 = .ok (.iconst 2, 1) := by decide +kernel
theorem dX11_works_35 : decode cX11_works 35 = .ok (.if_icmp .ne 51, 3) := by decide +kernel
theorem dX11_works_38 : decode cX11_works 38 = .ok (.aload_n 0, 1) := by decide +kernel
theorem dX11_works_39 : decode cX11_works 39 = .ok (.getfield 31, 3) := by decide +kernel
theorem dX11_works_42 : decode cX11_works 42 = .ok (.iload_n 2, 1) := by decide +kernel
theorem dX11_works_43 : decode cX11_works 43 = .ok (.iload 4, 2) := by decide +kernel
theorem dX11_works_45 : decode cX11_works 45 = .ok (.iconst 1, 1) := by decide +kernel
theorem dX11_works_46 : decode cX11_works 46 = .ok (.if_icmp .ne 17, 3) := by decide +kernel
theorem dX11_works_49 : decode cX11_works 49 = .ok (.aload_n 0, 1) := by decide +kernel
theorem dX11_works_50 : decode cX11_works 50 = .ok (.getfield 9, 3) := by decide +kernel
theorem dX11_works_53 : decode cX11_works 53 = .ok (.iload_n 1, 1) := by decide +kernel
theorem dX11_works_54 : decode cX11_works 54 = .ok (.bipush 61, 2) := by decide +kernel
theorem dX11_works_56 : decode cX11_works 56 = .ok (.iadd, 1) := by decide +kernel
theorem dX11_works_57 : decode cX11_works 57 = .ok (.iload_n 3, 1) := by decide +kernel
theorem dX11_works_58 : decode cX11_works 58 = .ok (.iadd, 1) := by decide +kernel
theorem dX11_works_59 : decode cX11_works 59 = .ok (.iaload, 1) := by decide +kernel
theorem dX11_works_60 : decode cX11_works 60 = .ok (.goto 19, 3) := by decide +kernel
theorem dX11_works_63 : decode cX11_works 63 = .ok (.aload_n 0, 1) := by decide +kernel
theorem dX11_works_64 : decode cX11_works 64 = .ok (.getfield 28, 3) := by decide +kernel
theorem dX11_works_67 : decode cX11_works 67 = .ok (.aload_n 0, 1) := by decide +kernel
theorem dX11_works_68 : decode cX11_works 68 = .ok (.getfield 9, 3) := by decide +kernel
theorem dX11_works_71 : decode cX11_works 71 = .ok (.iload_n 1, 1) := by decide +kernel
theorem dX11_works_72 : decode cX11_works 72 = .ok (.bipush 61, 2) := by decide +kernel
theorem dX11_works_74 : decode cX11_works 74 = .ok (.iadd, 1) := by decide +kernel
theorem dX11_works_75 : decode cX11_works 75 = .ok (.iload_n 3, 1) := by decide +kernel
theorem dX11_works_76 : decode cX11_works 76 = .ok (.iadd, 1) := by decide +kernel
theorem dX11_works_77 : decode cX11_works 77 = .ok (.iaload, 1) := by decide +kernel
theorem dX11_works_78 : decode cX11_works 78 = .ok (.iaload, 1) := by decide +kernel
theorem dX11_works_79 : decode cX11_works 79 = .ok (.iastore, 1) := by decide +kernel
theorem dX11_works_80 : decode cX11_works 80 = .ok (.iinc 2 1, 3) := by decide +kernel
theorem dX11_works_83 : decode cX11_works 83 = .ok (.goto 66, 3) := by decide +kernel
theorem dX11_works_86 : decode cX11_works 86 = .ok (.iload 4, 2) := by decide +kernel
theorem dX11_works_88 : decode cX11_works 88 = .ok (.iconst 3, 1) := by decide +kernel
theorem dX11_works_89 : decode cX11_works 89 = .ok (.if_icmp .ne 30, 3) := by decide +kernel
theorem dX11_works_92 : decode cX11_works 92 = .ok (.aload_n 0, 1) := by decide +kernel
theorem dX11_works_93 : decode cX11_works 93 = .ok (.getfield 31, 3) := by decide +kernel
theorem dX11_works_96 : decode cX11_works 96 = .ok (.iload_n 2, 1) := by decide +kernel
theorem dX11_works_97 : decode cX11_works 97 = .ok (.iconst 1, 1) := by decide +kernel
theorem dX11_works_98 : decode cX11_works 98 = .ok (.isub, 1) := by decide +kernel
theorem dX11_works_99 : decode cX11_works 99 = .ok (.aload_n 0, 1) := by decide +kernel
theorem dX11_works_100 : decode cX11_works 100 = .ok (.getfield 31, 3) := by decide +kernel
theorem dX11_works_103 : decode cX11_works 103 = .ok (.iload_n 2, 1) := by decide +kernel
theorem dX11_works_104 : decode cX11_works 104 = .ok (.iconst 1, 1) := by decide +kernel
theorem dX11_works_105 : decode cX11_works 105 = .ok (.isub, 1) := by decide +kernel
theorem dX11_works_106 : decode cX11_works 106 = .ok (.iaload, 1) := by decide +kernel
theorem dX11_works_107 : decode cX11_works 107 = .ok (.ifCond .ne 7, 3) := by decide +kernel
theorem dX11_works_110 : decode cX11_works 110 = .ok (.iconst 1, 1) := by decide +kernel
theorem dX11_works_111 : decode cX11_works 111 = .ok (.goto 4, 3) := by decide +kernel
theorem dX11_works_114 : decode cX11_works 114 = .ok (.iconst 0, 1) := by decide +kernel
theorem dX11_works_115 : decode cX11_works 115 = .ok (.iastore, 1) := by decide +kernel
theorem dX11_works_116 : decode cX11_works 116 = .ok (.goto 33, 3) := by decide +kernel
theorem dX11_works_119 : decode cX11_works 119 = .ok (.iinc 2 (-1), 3) := by decide +kernel
theorem dX11_works_122 : decode cX11_works 122 = .ok (.aload_n 0, 1) := by decide +kernel
theorem dX11_works_123 : decode cX11_works 123 = .ok (.getfield 31, 3) := by decide +kernel
theorem dX11_works_126 : decode cX11_works 126 = .ok (.iload_n 2, 1) := by decide +kernel
theorem dX11_works_127 : decode cX11_works 127 = .ok (.iconst 1, 1) := by decide +kernel
theorem dX11_works_128 : decode cX11_works 128 = .ok (.isub, 1) := by decide +kernel
theorem dX11_works_129 : decode cX11_works 129 = .ok (.iload 4, 2) := by decide +kernel
theorem dX11_works_131 : decode cX11_works 131 = .ok (.aload_n 0, 1) := by decide +kernel
theorem dX11_works_132 : decode cX11_works 132 = .ok (.getfield 31, 3) := by decide +kernel
theorem dX11_works_135 : decode cX11_works 135 = .ok (.iload_n 2, 1) := by decide +kernel
theorem dX11_works_136 : decode cX11_works 136 = .ok (.iconst 1, 1) := by decide +kernel
theorem dX11_works_137 : decode cX11_works 137 = .ok (.isub, 1) := by decide +kernel
theorem dX11_works_138 : decode cX11_works 138 = .ok (.iaload, 1) := by decide +kernel
theorem dX11_works_139 : decode cX11_works 139 = .ok (.aload_n 0, 1) := by decide +kernel
theorem dX11_works_140 : decode cX11_works 140 = .ok (.getfield 31, 3) := by decide +kernel
theorem dX11_works_143 : decode cX11_works 143 = .ok (.iload_n 2, 1) := by decide +kernel
theorem dX11_works_144 : decode cX11_works 144 = .ok (.iaload, 1) := by decide +kernel
theorem dX11_works_145 : decode cX11_works 145 = .ok (.invokestatic 144, 3) := by decide +kernel
theorem dX11_works_148 : decode cX11_works 148 = .ok (.iastore, 1) := by decide +kernel
theorem dX11_works_149 : decode cX11_works 149 = .ok (.iinc 3 1, 3) := by decide +kernel
theorem dX11_works_152 : decode cX11_works 152 = .ok (.goto (-148), 3) := by decide +kernel
theorem dX11_works_155 : decode cX11_works 155 = .ok (.aload_n 0, 1) := by decide +kernel
theorem dX11_works_156 : decode cX11_works 156 = .ok (.getfield 31, 3) := by decide +kernel
theorem dX11_works_159 : decode cX11_works 159 = .ok (.iconst 0, 1) := by decide +kernel
theorem dX11_works_160 : decode cX11_works 160 = .ok (.iaload, 1) := by decide +kernel
theorem dX11_works_161 : decode cX11_works 161 = .ok (.ireturn, 1) := by decide +kernel
set_option maxRecDepth 20000 in
theorem ggX11_gives_X11_works : GoodIn wsX11_gives wsX11_works := goodIn_r _ [7, 2, 8, 1, 9, 10, 6, 11, 12, 13, 14, 15, 16, 17, 18, 19, 20, 21, 22, 23, 24, 25, 26, 27, 28, 29, 30, 31] (by decide +kernel) (by decide +kernel)
set_option maxRecDepth 20000 in
theorem gX11_gives_X11_works : GoodIn wsX11_gives (wsV RX11 148 RX11 yX11_works wsX11_works) := goodIn_app (goodIn_of _ (by decide +kernel)) ggX11_gives_X11_works
theorem dX11_gives_0 : decode cX11_gives 0 = .ok (.sipush 155, 3) := by decide +kernel
theorem dX11_gives_3 : decode cX11_gives 3 = .ok (.bipush 121, 2) := by decide +kernel
theorem dX11_gives_5 : decode cX11_gives 5 = .ok (.iload_n 1, 1) := by decide +kernel
theorem dX11_gives_6 : decode cX11_gives 6 = .ok (.imul, 1) := by decide +kernel
theorem dX11_gives_7 : decode cX11_gives 7 = .ok (.iadd, 1) := by decide +kernel
theorem dX11_gives_8 : decode cX11_gives 8 = .ok (.istore 5, 2) := by decide +kernel
theorem dX11_gives_10 : decode cX11_gives 10 = .ok (.aload_n 0, 1) := by decide +kernel
theorem dX11_gives_11 : decode cX11_gives 11 = .ok (.getfield 28, 3) := by decide +kernel
theorem dX11_gives_14 : decode cX11_gives 14 = .ok (.iconst 0, 1) := by decide +kernel
theorem dX11_gives_15 : decode cX11_gives 15 = .ok (.iload_n 2, 1) := by decide +kernel
theorem dX11_gives_16 : decode cX11_gives 16 = .ok (.iastore, 1) := by decide +kernel
theorem dX11_gives_17 : decode cX11_gives 17 = .ok (.aload_n 0, 1) := by decide +kernel
theorem dX11_gives_18 : decode cX11_gives 18 = .ok (.getfield 28, 3) := by decide +kernel
theorem dX11_gives_21 : decode cX11_gives 21 = .ok (.iconst 1, 1) := by decide +kernel
theorem dX11_gives_22 : decode cX11_gives 22 = .ok (.iload_n 3, 1) := by decide +kernel
theorem dX11_gives_23 : decode cX11_gives 23 = .ok (.iastore, 1) := by decide +kernel
theorem dX11_gives_24 : decode cX11_gives 24 = .ok (.aload_n 0, 1) := by decide +kernel
theorem dX11_gives_25 : decode cX11_gives 25 = .ok (.getfield 28, 3) := by decide +kernel
theorem dX11_gives_28 : decode cX11_gives 28 = .ok (.iconst 2, 1) := by decide +kernel
theorem dX11_gives_29 : decode cX11_gives 29 = .ok (.iload 4, 2) := by decide +kernel
theorem dX11_gives_31 : decode cX11_gives 31 = .ok (.iastore, 1) := by decide +kernel
theorem dX11_gives_32 : decode cX11_gives 32 = .ok (.aload_n 0, 1) := by decide +kernel
theorem dX11_gives_33 : decode cX11_gives 33 = .ok (.getfield 9, 3) := by decide +kernel
theorem dX11_gives_36 : decode cX11_gives 36 = .ok (.iload 5, 2) := by decide +kernel
theorem dX11_gives_38 : decode cX11_gives 38 = .ok (.iaload, 1) := by decide +kernel
theorem dX11_gives_39 : decode cX11_gives 39 = .ok (.ifCond .le 12, 3) := by decide +kernel
theorem dX11_gives_42 : decode cX11_gives 42 = .ok (.aload_n 0, 1) := by decide +kernel
theorem dX11_gives_43 : decode cX11_gives 43 = .ok (.iload 5, 2) := by decide +kernel
theorem dX11_gives_45 : decode cX11_gives 45 = .ok (.invokevirtual 148, 3) := by decide +kernel
theorem dX11_gives_48 : decode cX11_gives 48 = .ok (.goto 23, 3) := by decide +kernel
theorem dX11_gives_51 : decode cX11_gives 51 = .ok (.iload_n 1, 1) := by decide +kernel
theorem dX11_gives_52 : decode cX11_gives 52 = .ok (.ifCond .ne 9, 3) := by decide +kernel
theorem dX11_gives_55 : decode cX11_gives 55 = .ok (.iload_n 2, 1) := by decide +kernel
theorem dX11_gives_56 : decode cX11_gives 56 = .ok (.iconst 3, 1) := by decide +kernel
theorem dX11_gives_57 : decode cX11_gives 57 = .ok (.idiv, 1) := by decide +kernel
theorem dX11_gives_58 : decode cX11_gives 58 = .ok (.goto 13, 3) := by decide +kernel
theorem dX11_gives_61 : decode cX11_gives 61 = .ok (.iload_n 2, 1) := by decide +kernel
theorem dX11_gives_62 : decode cX11_gives 62 = .ok (.iconst 3, 1) := by decide +kernel
theorem dX11_gives_63 : decode cX11_gives 63 = .ok (.if_icmp .le 7, 3) := by decide +kernel
theorem dX11_gives_66 : decode cX11_gives 66 = .ok (.iconst 1, 1) := by decide +kernel
theorem dX11_gives_67 : decode cX11_gives 67 = .ok (.goto 4, 3) := by decide +kernel
theorem dX11_gives_70 : decode cX11_gives 70 = .ok (.iconst 0, 1) := by decide +kernel
theorem dX11_gives_71 : decode cX11_gives 71 = .ok (.istore 6, 2) := by decide +kernel
theorem dX11_gives_73 : decode cX11_gives 73 = .ok (.iload 6, 2) := by decide +kernel
theorem dX11_gives_75 : decode cX11_gives 75 = .ok (.iconst 4, 1) := by decide +kernel
theorem dX11_gives_76 : decode cX11_gives 76 = .ok (.irem, 1) := by decide +kernel
theorem dX11_gives_77 : decode cX11_gives 77 = .ok (.istore 7, 2) := by decide +kernel
theorem dX11_gives_79 : decode cX11_gives 79 = .ok (.iload_n 1, 1) := by decide +kernel
theorem dX11_gives_80 : decode cX11_gives 80 = .ok (.iconst 1, 1) := by decide +kernel
theorem dX11_gives_81 : decode cX11_gives 81 = .ok (.if_icmp .ne 16, 3) := by decide +kernel
theorem dX11_gives_84 : decode cX11_gives 84 = .ok (.iload 6, 2) := by decide +kernel
theorem dX11_gives_86 : decode cX11_gives 86 = .ok (.ifCond .eq 7, 3) := by decide +kernel
theorem dX11_gives_89 : decode cX11_gives 89 = .ok (.iconst 1, 1) := by decide +kernel
theorem dX11_gives_90 : decode cX11_gives 90 = .ok (.goto 21, 3) := by decide +kernel
theorem dX11_gives_93 : decode cX11_gives 93 = .ok (.iconst 0, 1) := by decide +kernel
theorem dX11_gives_94 : decode cX11_gives 94 = .ok (.goto 17, 3) := by decide +kernel
theorem dX11_gives_97 : decode cX11_gives 97 = .ok (.iload 7, 2) := by decide +kernel
theorem dX11_gives_99 : decode cX11_gives 99 = .ok (.ifCond .ge 10, 3) := by decide +kernel
theorem dX11_gives_102 : decode cX11_gives 102 = .ok (.iload 7, 2) := by decide +kernel
theorem dX11_gives_104 : decode cX11_gives 104 = .ok (.iconst 4, 1) := by decide +kernel
theorem dX11_gives_105 : decode cX11_gives 105 = .ok (.iadd, 1) := by decide +kernel
theorem dX11_gives_106 : decode cX11_gives 106 = .ok (.goto 5, 3) := by decide +kernel
theorem dX11_gives_109 : decode cX11_gives 109 = .ok (.iload 7, 2) := by decide +kernel
theorem dX11_gives_111 : decode cX11_gives 111 = .ok (.ireturn, 1) := by decide +kernel
set_option maxRecDepth 20000 in
theorem ggX11_law_X11_in : GoodIn wsX11_law wsX11_in := goodIn_r _ [5] (by decide +kernel) (by decide +kernel)
set_option maxRecDepth 20000 in
theorem gX11_law_X11_in : GoodIn wsX11_law (va_wsS RX11 47 yX11_in wsX11_in) := goodIn_app (goodIn_of _ (by decide +kernel)) ggX11_law_X11_in
set_option maxRecDepth 20000 in
theorem ggX11_law_X11_gives : GoodIn wsX11_law wsX11_gives := goodIn_r _ [9, 10, 11, 12, 13, 14, 4, 15, 16, 17, 18, 19, 26, 27, 28, 29, 30, 31, 32, 33, 34, 35, 36, 37, 38, 39, 40, 41, 42, 43, 44, 45] (by decide +kernel) (by decide +kernel)
set_option maxRecDepth 20000 in
theorem gX11_law_X11_gives : GoodIn wsX11_law (wsV RX11 151 RX11 yX11_gives wsX11_gives) := goodIn_app (goodIn_of _ (by decide +kernel)) ggX11_law_X11_gives
set_option maxRecDepth 20000 in
theorem ggX11_law_X11_error : GoodIn wsX11_law wsX11_error := goodIn_r _ [23, 24, 25, 26, 27, 28, 29, 30, 31, 32, 33, 34, 35, 36, 37, 38, 39, 40, 41, 42, 43, 44, 45] (by decide +kernel) (by decide +kernel)
set_option maxRecDepth 20000 in
theorem gX11_law_X11_error : GoodIn wsX11_law (wsV RX11 67 RX11 yX11_error wsX11_error) := goodIn_app (goodIn_of _ (by decide +kernel)) ggX11_law_X11_error
theorem dX11_law_0 : decode cX11_law 0 = .ok (.iload_n 1, 1) := by decide +kernel
theorem dX11_law_1 : decode cX11_law 1 = .ok (.iconst 0, 1) := by decide +kernel
theorem dX11_law_2 : decode cX11_law 2 = .ok (.iconst 1, 1) := by decide +kernel
theorem dX11_law_3 : decode cX11_law 3 = .ok (.invokestatic 47, 3) := by decide +kernel
theorem dX11_law_6 : decode cX11_law 6 = .ok (.ifCond .eq 15, 3) := by decide +kernel
theorem dX11_law_9 : decode cX11_law 9 = .ok (.aload_n 0, 1) := by decide +kernel
theorem dX11_law_10 : decode cX11_law 10 = .ok (.iload_n 1, 1) := by decide +kernel
theorem dX11_law_11 : decode cX11_law 11 = .ok (.iload_n 2, 1) := by decide +kernel
theorem dX11_law_12 : decode cX11_law 12 = .ok (.iload_n 3, 1) := by decide +kernel
theorem dX11_law_13 : decode cX11_law 13 = .ok (.iload 4, 2) := by decide +kernel
theorem dX11_law_15 : decode cX11_law 15 = .ok (.invokevirtual 151, 3) := by decide +kernel
theorem dX11_law_18 : decode cX11_law 18 = .ok (.goto 9, 3) := by decide +kernel
theorem dX11_law_21 : decode cX11_law 21 = .ok (.aload_n 0, 1) := by decide +kernel
theorem dX11_law_22 : decode cX11_law 22 = .ok (.ldc 66, 2) := by decide +kernel
theorem dX11_law_24 : decode cX11_law 24 = .ok (.invokevirtual 67, 3) := by decide +kernel
theorem dX11_law_27 : decode cX11_law 27 = .ok (.ireturn, 1) := by decide +kernel
set_option maxRecDepth 20000 in
theorem ggX11_pullOf_X11_gives : GoodIn wsX11_pullOf wsX11_gives := goodIn_r _ [6, 7, 1, 8, 9, 10, 5, 11, 12, 13, 14, 15, 16, 17, 18, 19, 20, 21, 22, 23, 24, 25, 26, 27, 28, 29, 30, 31, 32, 33, 34, 35] (by decide +kernel) (by decide +kernel)
set_option maxRecDepth 20000 in
theorem gX11_pullOf_X11_gives : GoodIn wsX11_pullOf (wsV RX11 151 RX11 yX11_gives wsX11_gives) := goodIn_app (goodIn_of _ (by decide +kernel)) ggX11_pullOf_X11_gives
theorem dX11_pullOf_0 : decode cX11_pullOf 0 = .ok (.aload_n 0, 1) := by decide +kernel
theorem dX11_pullOf_1 : decode cX11_pullOf 1 = .ok (.iconst 0, 1) := by decide +kernel
theorem dX11_pullOf_2 : decode cX11_pullOf 2 = .ok (.iload_n 1, 1) := by decide +kernel
theorem dX11_pullOf_3 : decode cX11_pullOf 3 = .ok (.iload_n 1, 1) := by decide +kernel
theorem dX11_pullOf_4 : decode cX11_pullOf 4 = .ok (.bipush 12, 2) := by decide +kernel
theorem dX11_pullOf_6 : decode cX11_pullOf 6 = .ok (.idiv, 1) := by decide +kernel
theorem dX11_pullOf_7 : decode cX11_pullOf 7 = .ok (.aload_n 0, 1) := by decide +kernel
theorem dX11_pullOf_8 : decode cX11_pullOf 8 = .ok (.getfield 9, 3) := by decide +kernel
theorem dX11_pullOf_11 : decode cX11_pullOf 11 = .ok (.iconst 2, 1) := by decide +kernel
theorem dX11_pullOf_12 : decode cX11_pullOf 12 = .ok (.iaload, 1) := by decide +kernel
theorem dX11_pullOf_13 : decode cX11_pullOf 13 = .ok (.invokevirtual 151, 3) := by decide +kernel
theorem dX11_pullOf_16 : decode cX11_pullOf 16 = .ok (.ireturn, 1) := by decide +kernel
set_option maxRecDepth 20000 in
theorem ggX11_slides_X11_of : GoodIn wsX11_slides wsX11_of := goodIn_r _ [5, 6, 26, 27, 28, 29, 30, 31, 32, 33, 34, 35, 36, 37, 38, 39, 40, 41, 42, 43, 44, 45] (by decide +kernel) (by decide +kernel)
set_option maxRecDepth 20000 in
theorem gX11_slides_X11_of : GoodIn wsX11_slides (wsV RX11 51 RX11 yX11_of wsX11_of) := goodIn_app (goodIn_of _ (by decide +kernel)) ggX11_slides_X11_of
set_option maxRecDepth 20000 in
theorem ggX11_slides_X11_nextTo : GoodIn wsX11_slides wsX11_nextTo := goodIn_r _ [9] (by decide +kernel) (by decide +kernel)
set_option maxRecDepth 20000 in
theorem gX11_slides_X11_nextTo : GoodIn wsX11_slides (va_wsS RX11 155 yX11_nextTo wsX11_nextTo) := goodIn_app (goodIn_of _ (by decide +kernel)) ggX11_slides_X11_nextTo
set_option maxRecDepth 20000 in
theorem ggX11_slides_X11_isFree : GoodIn wsX11_slides wsX11_isFree := goodIn_r _ [13, 14, 15, 16, 4, 17, 6, 18, 19, 20, 21, 1, 2, 3, 5, 26, 27, 28, 29, 30, 31, 32, 33, 34, 35, 36, 37, 38, 39, 40, 41, 42, 43, 44, 45] (by decide +kernel) (by decide +kernel)
set_option maxRecDepth 20000 in
theorem gX11_slides_X11_isFree : GoodIn wsX11_slides (wsV RX11 78 RX11 yX11_isFree wsX11_isFree) := goodIn_app (goodIn_of _ (by decide +kernel)) ggX11_slides_X11_isFree
set_option maxRecDepth 20000 in
theorem ggX11_slides_X11_lay : GoodIn wsX11_slides wsX11_lay := goodIn_r _ [25, 6, 26, 27, 28, 29, 30, 31, 32, 33, 34, 35, 36, 37, 38, 39, 40, 41, 42, 43, 44, 45] (by decide +kernel) (by decide +kernel)
set_option maxRecDepth 20000 in
theorem gX11_slides_X11_lay : GoodIn wsX11_slides (wsV RX11 81 RX11 yX11_lay wsX11_lay) := goodIn_app (goodIn_of _ (by decide +kernel)) ggX11_slides_X11_lay
theorem dX11_slides_0 : decode cX11_slides 0 = .ok (.iconst 0, 1) := by decide +kernel
theorem dX11_slides_1 : decode cX11_slides 1 = .ok (.istore 4, 2) := by decide +kernel
theorem dX11_slides_3 : decode cX11_slides 3 = .ok (.iload 4, 2) := by decide +kernel
theorem dX11_slides_5 : decode cX11_slides 5 = .ok (.iload_n 3, 1) := by decide +kernel
theorem dX11_slides_6 : decode cX11_slides 6 = .ok (.if_icmp .ge 46, 3) := by decide +kernel
theorem dX11_slides_9 : decode cX11_slides 9 = .ok (.aload_n 0, 1) := by decide +kernel
theorem dX11_slides_10 : decode cX11_slides 10 = .ok (.iload_n 1, 1) := by decide +kernel
theorem dX11_slides_11 : decode cX11_slides 11 = .ok (.iconst 2, 1) := by decide +kernel
theorem dX11_slides_12 : decode cX11_slides 12 = .ok (.invokevirtual 51, 3) := by decide +kernel
theorem dX11_slides_15 : decode cX11_slides 15 = .ok (.iload_n 2, 1) := by decide +kernel
theorem dX11_slides_16 : decode cX11_slides 16 = .ok (.invokestatic 155, 3) := by decide +kernel
theorem dX11_slides_19 : decode cX11_slides 19 = .ok (.istore 5, 2) := by decide +kernel
theorem dX11_slides_21 : decode cX11_slides 21 = .ok (.iload 5, 2) := by decide +kernel
theorem dX11_slides_23 : decode cX11_slides 23 = .ok (.ifCond .lt 12, 3) := by decide +kernel
theorem dX11_slides_26 : decode cX11_slides 26 = .ok (.aload_n 0, 1) := by decide +kernel
theorem dX11_slides_27 : decode cX11_slides 27 = .ok (.iload 5, 2) := by decide +kernel
theorem dX11_slides_29 : decode cX11_slides 29 = .ok (.invokevirtual 78, 3) := by decide +kernel
theorem dX11_slides_32 : decode cX11_slides 32 = .ok (.ifCond .ne 6, 3) := by decide +kernel
theorem dX11_slides_35 : decode cX11_slides 35 = .ok (.iload 4, 2) := by decide +kernel
theorem dX11_slides_37 : decode cX11_slides 37 = .ok (.ireturn, 1) := by decide +kernel
theorem dX11_slides_38 : decode cX11_slides 38 = .ok (.aload_n 0, 1) := by decide +kernel
theorem dX11_slides_39 : decode cX11_slides 39 = .ok (.iload_n 1, 1) := by decide +kernel
theorem dX11_slides_40 : decode cX11_slides 40 = .ok (.iconst 2, 1) := by decide +kernel
theorem dX11_slides_41 : decode cX11_slides 41 = .ok (.iload 5, 2) := by decide +kernel
theorem dX11_slides_43 : decode cX11_slides 43 = .ok (.invokevirtual 81, 3) := by decide +kernel
theorem dX11_slides_46 : decode cX11_slides 46 = .ok (.iinc 4 1, 3) := by decide +kernel
theorem dX11_slides_49 : decode cX11_slides 49 = .ok (.goto (-46), 3) := by decide +kernel
theorem dX11_slides_52 : decode cX11_slides 52 = .ok (.iload 4, 2) := by decide +kernel
theorem dX11_slides_54 : decode cX11_slides 54 = .ok (.ireturn, 1) := by decide +kernel
set_option maxRecDepth 20000 in
theorem ggX11_rolls_X11_slides : GoodIn wsX11_rolls wsX11_slides := goodIn_r _ [5, 6, 7, 8, 4, 9, 10, 11, 12, 13, 14, 15, 16, 17, 18, 19, 20, 21, 22, 23, 24, 25, 26, 27, 28, 29, 30, 31, 32, 33, 34, 35, 36, 37, 38, 39, 40, 41, 42, 43, 44, 45, 46, 47, 48, 49] (by decide +kernel) (by decide +kernel)
set_option maxRecDepth 20000 in
theorem gX11_rolls_X11_slides : GoodIn wsX11_rolls (wsV RX11 158 RX11 yX11_slides wsX11_slides) := goodIn_app (goodIn_of _ (by decide +kernel)) ggX11_rolls_X11_slides
theorem dX11_rolls_0 : decode cX11_rolls 0 = .ok (.aload_n 0, 1) := by decide +kernel
theorem dX11_rolls_1 : decode cX11_rolls 1 = .ok (.iload_n 1, 1) := by decide +kernel
theorem dX11_rolls_2 : decode cX11_rolls 2 = .ok (.iload_n 2, 1) := by decide +kernel
theorem dX11_rolls_3 : decode cX11_rolls 3 = .ok (.bipush 36, 2) := by decide +kernel
theorem dX11_rolls_5 : decode cX11_rolls 5 = .ok (.invokevirtual 158, 3) := by decide +kernel
theorem dX11_rolls_8 : decode cX11_rolls 8 = .ok (.istore_n 3, 1) := by decide +kernel
theorem dX11_rolls_9 : decode cX11_rolls 9 = .ok (.aload_n 0, 1) := by decide +kernel
theorem dX11_rolls_10 : decode cX11_rolls 10 = .ok (.iload_n 1, 1) := by decide +kernel
theorem dX11_rolls_11 : decode cX11_rolls 11 = .ok (.iload_n 2, 1) := by decide +kernel
theorem dX11_rolls_12 : decode cX11_rolls 12 = .ok (.iconst 1, 1) := by decide +kernel
theorem dX11_rolls_13 : decode cX11_rolls 13 = .ok (.iadd, 1) := by decide +kernel
theorem dX11_rolls_14 : decode cX11_rolls 14 = .ok (.iconst 4, 1) := by decide +kernel
theorem dX11_rolls_15 : decode cX11_rolls 15 = .ok (.irem, 1) := by decide +kernel
theorem dX11_rolls_16 : decode cX11_rolls 16 = .ok (.iconst 1, 1) := by decide +kernel
theorem dX11_rolls_17 : decode cX11_rolls 17 = .ok (.invokevirtual 158, 3) := by decide +kernel
theorem dX11_rolls_20 : decode cX11_rolls 20 = .ok (.pop, 1) := by decide +kernel
theorem dX11_rolls_21 : decode cX11_rolls 21 = .ok (.iload_n 3, 1) := by decide +kernel
theorem dX11_rolls_22 : decode cX11_rolls 22 = .ok (.ireturn, 1) := by decide +kernel
set_option maxRecDepth 20000 in
theorem ggX11_falls_X11_of : GoodIn wsX11_falls wsX11_of := goodIn_r _ [5, 6, 34, 35, 36, 37, 38, 39, 40, 41, 42, 43, 44, 45, 46, 47, 48, 49, 50, 51, 52, 53] (by decide +kernel) (by decide +kernel)
set_option maxRecDepth 20000 in
theorem gX11_falls_X11_of : GoodIn wsX11_falls (wsV RX11 51 RX11 yX11_of wsX11_of) := goodIn_app (goodIn_of _ (by decide +kernel)) ggX11_falls_X11_of
set_option maxRecDepth 20000 in
theorem ggX11_falls_X11_rolls : GoodIn wsX11_falls wsX11_rolls := goodIn_r _ [10, 11, 12, 13, 4, 14, 1, 2, 3, 5, 6, 15, 16, 17, 18, 19, 20, 21, 22, 23, 24, 25, 26, 27, 28, 29, 30, 31, 32, 33, 34, 35, 36, 37, 38, 39, 40, 41, 42, 43, 44, 45, 46, 47, 48, 49, 50, 51, 52, 53] (by decide +kernel) (by decide +kernel)
set_option maxRecDepth 20000 in
theorem gX11_falls_X11_rolls : GoodIn wsX11_falls (wsV RX11 161 RX11 yX11_rolls wsX11_rolls) := goodIn_app (goodIn_of _ (by decide +kernel)) ggX11_falls_X11_rolls
set_option maxRecDepth 20000 in
theorem ggX11_falls_X11_slides : GoodIn wsX11_falls wsX11_slides := goodIn_r _ [14, 1, 2, 3, 4, 5, 6, 15, 16, 17, 18, 19, 20, 21, 22, 23, 24, 25, 26, 27, 28, 29, 30, 31, 32, 33, 34, 35, 36, 37, 38, 39, 40, 41, 42, 43, 44, 45, 46, 47, 48, 49, 50, 51, 52, 53] (by decide +kernel) (by decide +kernel)
set_option maxRecDepth 20000 in
theorem gX11_falls_X11_slides : GoodIn wsX11_falls (wsV RX11 158 RX11 yX11_slides wsX11_slides) := goodIn_app (goodIn_of _ (by decide +kernel)) ggX11_falls_X11_slides
theorem dX11_falls_0 : decode cX11_falls 0 = .ok (.aload_n 0, 1) := by decide +kernel
theorem dX11_falls_1 : decode cX11_falls 1 = .ok (.iload_n 1, 1) := by decide +kernel
theorem dX11_falls_2 : decode cX11_falls 2 = .ok (.iconst 1, 1) := by decide +kernel
theorem dX11_falls_3 : decode cX11_falls 3 = .ok (.invokevirtual 51, 3) := by decide +kernel
theorem dX11_falls_6 : decode cX11_falls 6 = .ok (.istore_n 3, 1) := by decide +kernel
theorem dX11_falls_7 : decode cX11_falls 7 = .ok (.aload_n 0, 1) := by decide +kernel
theorem dX11_falls_8 : decode cX11_falls 8 = .ok (.iload_n 1, 1) := by decide +kernel
theorem dX11_falls_9 : decode cX11_falls 9 = .ok (.iconst 0, 1) := by decide +kernel
theorem dX11_falls_10 : decode cX11_falls 10 = .ok (.invokevirtual 51, 3) := by decide +kernel
theorem dX11_falls_13 : decode cX11_falls 13 = .ok (.tableswitch 164 1 6 #[39, 46, 66, 93, 124, 151], 39) := by decide +kernel
theorem dX11_falls_52 : decode cX11_falls 52 = .ok (.aload_n 0, 1) := by decide +kernel
theorem dX11_falls_53 : decode cX11_falls 53 = .ok (.iload_n 1, 1) := by decide +kernel
theorem dX11_falls_54 : decode cX11_falls 54 = .ok (.iload_n 2, 1) := by decide +kernel
theorem dX11_falls_55 : decode cX11_falls 55 = .ok (.invokevirtual 161, 3) := by decide +kernel
theorem dX11_falls_58 : decode cX11_falls 58 = .ok (.ireturn, 1) := by decide +kernel
theorem dX11_falls_59 : decode cX11_falls 59 = .ok (.iload_n 2, 1) := by decide +kernel
theorem dX11_falls_60 : decode cX11_falls 60 = .ok (.iload_n 3, 1) := by decide +kernel
theorem dX11_falls_61 : decode cX11_falls 61 = .ok (.iconst 4, 1) := by decide +kernel
theorem dX11_falls_62 : decode cX11_falls 62 = .ok (.irem, 1) := by decide +kernel
theorem dX11_falls_63 : decode cX11_falls 63 = .ok (.if_icmp .ne 7, 3) := by decide +kernel
theorem dX11_falls_66 : decode cX11_falls 66 = .ok (.iconst 0, 1) := by decide +kernel
theorem dX11_falls_67 : decode cX11_falls 67 = .ok (.goto 11, 3) := by decide +kernel
theorem dX11_falls_70 : decode cX11_falls 70 = .ok (.aload_n 0, 1) := by decide +kernel
theorem dX11_falls_71 : decode cX11_falls 71 = .ok (.iload_n 1, 1) := by decide +kernel
theorem dX11_falls_72 : decode cX11_falls 72 = .ok (.iload_n 2, 1) := by decide +kernel
theorem dX11_falls_73 : decode cX11_falls 73 = .ok (.bipush 36, 2) := by decide +kernel
theorem dX11_falls_75 : decode cX11_falls 75 = .ok (.invokevirtual 158, 3) := by decide +kernel
theorem dX11_falls_78 : decode cX11_falls 78 = .ok (.ireturn, 1) := by decide +kernel
theorem dX11_falls_79 : decode cX11_falls 79 = .ok (.aload_n 0, 1) := by decide +kernel
theorem dX11_falls_80 : decode cX11_falls 80 = .ok (.iload_n 1, 1) := by decide +kernel
theorem dX11_falls_81 : decode cX11_falls 81 = .ok (.iload_n 2, 1) := by decide +kernel
theorem dX11_falls_82 : decode cX11_falls 82 = .ok (.iconst 1, 1) := by decide +kernel
theorem dX11_falls_83 : decode cX11_falls 83 = .ok (.invokevirtual 158, 3) := by decide +kernel
theorem dX11_falls_86 : decode cX11_falls 86 = .ok (.iconst 1, 1) := by decide +kernel
theorem dX11_falls_87 : decode cX11_falls 87 = .ok (.if_icmp .ne 5, 3) := by decide +kernel
theorem dX11_falls_90 : decode cX11_falls 90 = .ok (.iconst 1, 1) := by decide +kernel
theorem dX11_falls_91 : decode cX11_falls 91 = .ok (.ireturn, 1) := by decide +kernel
theorem dX11_falls_92 : decode cX11_falls 92 = .ok (.aload_n 0, 1) := by decide +kernel
theorem dX11_falls_93 : decode cX11_falls 93 = .ok (.iload_n 1, 1) := by decide +kernel
theorem dX11_falls_94 : decode cX11_falls 94 = .ok (.iload_n 2, 1) := by decide +kernel
theorem dX11_falls_95 : decode cX11_falls 95 = .ok (.iconst 1, 1) := by decide +kernel
theorem dX11_falls_96 : decode cX11_falls 96 = .ok (.iadd, 1) := by decide +kernel
theorem dX11_falls_97 : decode cX11_falls 97 = .ok (.iconst 4, 1) := by decide +kernel
theorem dX11_falls_98 : decode cX11_falls 98 = .ok (.irem, 1) := by decide +kernel
theorem dX11_falls_99 : decode cX11_falls 99 = .ok (.iconst 1, 1) := by decide +kernel
theorem dX11_falls_100 : decode cX11_falls 100 = .ok (.invokevirtual 158, 3) := by decide +kernel
theorem dX11_falls_103 : decode cX11_falls 103 = .ok (.pop, 1) := by decide +kernel
theorem dX11_falls_104 : decode cX11_falls 104 = .ok (.iconst 0, 1) := by decide +kernel
theorem dX11_falls_105 : decode cX11_falls 105 = .ok (.ireturn, 1) := by decide +kernel
theorem dX11_falls_106 : decode cX11_falls 106 = .ok (.aload_n 0, 1) := by decide +kernel
theorem dX11_falls_107 : decode cX11_falls 107 = .ok (.iload_n 1, 1) := by decide +kernel
theorem dX11_falls_108 : decode cX11_falls 108 = .ok (.iload_n 2, 1) := by decide +kernel
theorem dX11_falls_109 : decode cX11_falls 109 = .ok (.invokevirtual 161, 3) := by decide +kernel
theorem dX11_falls_112 : decode cX11_falls 112 = .ok (.istore 4, 2) := by decide +kernel
theorem dX11_falls_114 : decode cX11_falls 114 = .ok (.aload_n 0, 1) := by decide +kernel
theorem dX11_falls_115 : decode cX11_falls 115 = .ok (.iload_n 1, 1) := by decide +kernel
theorem dX11_falls_116 : decode cX11_falls 116 = .ok (.iload_n 2, 1) := by decide +kernel
theorem dX11_falls_117 : decode cX11_falls 117 = .ok (.invokevirtual 161, 3) := by decide +kernel
theorem dX11_falls_120 : decode cX11_falls 120 = .ok (.istore 5, 2) := by decide +kernel
theorem dX11_falls_122 : decode cX11_falls 122 = .ok (.iload 4, 2) := by decide +kernel
theorem dX11_falls_124 : decode cX11_falls 124 = .ok (.iload 5, 2) := by decide +kernel
theorem dX11_falls_126 : decode cX11_falls 126 = .ok (.if_icmp .le 8, 3) := by decide +kernel
theorem dX11_falls_129 : decode cX11_falls 129 = .ok (.iload 4, 2) := by decide +kernel
theorem dX11_falls_131 : decode cX11_falls 131 = .ok (.goto 5, 3) := by decide +kernel
theorem dX11_falls_134 : decode cX11_falls 134 = .ok (.iload 5, 2) := by decide +kernel
theorem dX11_falls_136 : decode cX11_falls 136 = .ok (.ireturn, 1) := by decide +kernel
theorem dX11_falls_137 : decode cX11_falls 137 = .ok (.iload_n 3, 1) := by decide +kernel
theorem dX11_falls_138 : decode cX11_falls 138 = .ok (.iconst 2, 1) := by decide +kernel
theorem dX11_falls_139 : decode cX11_falls 139 = .ok (.irem, 1) := by decide +kernel
theorem dX11_falls_140 : decode cX11_falls 140 = .ok (.iconst 1, 1) := by decide +kernel
theorem dX11_falls_141 : decode cX11_falls 141 = .ok (.if_icmp .eq 10, 3) := by decide +kernel
theorem dX11_falls_144 : decode cX11_falls 144 = .ok (.iload_n 2, 1) := by decide +kernel
theorem dX11_falls_145 : decode cX11_falls 145 = .ok (.iload_n 3, 1) := by decide +kernel
theorem dX11_falls_146 : decode cX11_falls 146 = .ok (.iconst 4, 1) := by decide +kernel
theorem dX11_falls_147 : decode cX11_falls 147 = .ok (.irem, 1) := by decide +kernel
theorem dX11_falls_148 : decode cX11_falls 148 = .ok (.if_icmp .ne 7, 3) := by decide +kernel
theorem dX11_falls_151 : decode cX11_falls 151 = .ok (.iconst 0, 1) := by decide +kernel
theorem dX11_falls_152 : decode cX11_falls 152 = .ok (.goto 11, 3) := by decide +kernel
theorem dX11_falls_155 : decode cX11_falls 155 = .ok (.aload_n 0, 1) := by decide +kernel
theorem dX11_falls_156 : decode cX11_falls 156 = .ok (.iload_n 1, 1) := by decide +kernel
theorem dX11_falls_157 : decode cX11_falls 157 = .ok (.iload_n 2, 1) := by decide +kernel
theorem dX11_falls_158 : decode cX11_falls 158 = .ok (.bipush 36, 2) := by decide +kernel
theorem dX11_falls_160 : decode cX11_falls 160 = .ok (.invokevirtual 158, 3) := by decide +kernel
theorem dX11_falls_163 : decode cX11_falls 163 = .ok (.ireturn, 1) := by decide +kernel
theorem dX11_falls_164 : decode cX11_falls 164 = .ok (.aload_n 0, 1) := by decide +kernel
theorem dX11_falls_165 : decode cX11_falls 165 = .ok (.iload_n 1, 1) := by decide +kernel
theorem dX11_falls_166 : decode cX11_falls 166 = .ok (.iload_n 2, 1) := by decide +kernel
theorem dX11_falls_167 : decode cX11_falls 167 = .ok (.iconst 2, 1) := by decide +kernel
theorem dX11_falls_168 : decode cX11_falls 168 = .ok (.iadd, 1) := by decide +kernel
theorem dX11_falls_169 : decode cX11_falls 169 = .ok (.iconst 4, 1) := by decide +kernel
theorem dX11_falls_170 : decode cX11_falls 170 = .ok (.irem, 1) := by decide +kernel
theorem dX11_falls_171 : decode cX11_falls 171 = .ok (.bipush 36, 2) := by decide +kernel
theorem dX11_falls_173 : decode cX11_falls 173 = .ok (.invokevirtual 158, 3) := by decide +kernel
theorem dX11_falls_176 : decode cX11_falls 176 = .ok (.ireturn, 1) := by decide +kernel
theorem dX11_falls_177 : decode cX11_falls 177 = .ok (.aload_n 0, 1) := by decide +kernel
theorem dX11_falls_178 : decode cX11_falls 178 = .ok (.iload_n 1, 1) := by decide +kernel
theorem dX11_falls_179 : decode cX11_falls 179 = .ok (.iload_n 2, 1) := by decide +kernel
theorem dX11_falls_180 : decode cX11_falls 180 = .ok (.bipush 36, 2) := by decide +kernel
theorem dX11_falls_182 : decode cX11_falls 182 = .ok (.invokevirtual 158, 3) := by decide +kernel
theorem dX11_falls_185 : decode cX11_falls 185 = .ok (.ireturn, 1) := by decide +kernel
set_option maxRecDepth 20000 in
theorem ggX11_goes_X11_falls : GoodIn wsX11_goes wsX11_falls := goodIn_r _ [6, 7, 8, 9, 5, 10, 1, 11, 12, 13, 14, 15, 16, 17, 18, 19, 20, 21, 22, 23, 24, 25, 26, 27, 28, 29, 30, 31, 32, 33, 34, 35, 36, 37, 51, 52, 53, 54, 55, 56, 57, 58, 59, 60, 61, 62, 63, 64, 65, 66, 67, 68, 69, 70] (by decide +kernel) (by decide +kernel)
set_option maxRecDepth 20000 in
theorem gX11_goes_X11_falls : GoodIn wsX11_goes (wsV RX11 164 RX11 yX11_falls wsX11_falls) := goodIn_app (goodIn_of _ (by decide +kernel)) ggX11_goes_X11_falls
set_option maxRecDepth 20000 in
theorem ggX11_goes_X11_lay : GoodIn wsX11_goes wsX11_lay := goodIn_r _ [37, 1, 51, 52, 53, 54, 55, 56, 57, 58, 59, 60, 61, 62, 63, 64, 65, 66, 67, 68, 69, 70] (by decide +kernel) (by decide +kernel)
set_option maxRecDepth 20000 in
theorem gX11_goes_X11_lay : GoodIn wsX11_goes (wsV RX11 81 RX11 yX11_lay wsX11_lay) := goodIn_app (goodIn_of _ (by decide +kernel)) ggX11_goes_X11_lay
set_option maxRecDepth 20000 in
theorem ggX11_goes_X11_of : GoodIn wsX11_goes wsX11_of := goodIn_r _ [10, 1, 51, 52, 53, 54, 55, 56, 57, 58, 59, 60, 61, 62, 63, 64, 65, 66, 67, 68, 69, 70] (by decide +kernel) (by decide +kernel)
set_option maxRecDepth 20000 in
theorem gX11_goes_X11_of : GoodIn wsX11_goes (wsV RX11 51 RX11 yX11_of wsX11_of) := goodIn_app (goodIn_of _ (by decide +kernel)) ggX11_goes_X11_of
set_option maxRecDepth 20000 in
theorem ggX11_goes_X11_gives : GoodIn wsX11_goes wsX11_gives := goodIn_r _ [41, 42, 1, 43, 44, 45, 5, 46, 47, 48, 49, 50, 51, 52, 53, 54, 55, 56, 57, 58, 59, 60, 61, 62, 63, 64, 65, 66, 67, 68, 69, 70] (by decide +kernel) (by decide +kernel)
set_option maxRecDepth 20000 in
theorem gX11_goes_X11_gives : GoodIn wsX11_goes (wsV RX11 151 RX11 yX11_gives wsX11_gives) := goodIn_app (goodIn_of _ (by decide +kernel)) ggX11_goes_X11_gives
theorem dX11_goes_0 : decode cX11_goes 0 = .ok (.iconst 0, 1) := by decide +kernel
theorem dX11_goes_1 : decode cX11_goes 1 = .ok (.istore_n 3, 1) := by decide +kernel
theorem dX11_goes_2 : decode cX11_goes 2 = .ok (.iload_n 3, 1) := by decide +kernel
theorem dX11_goes_3 : decode cX11_goes 3 = .ok (.aload_n 0, 1) := by decide +kernel
theorem dX11_goes_4 : decode cX11_goes 4 = .ok (.getfield 9, 3) := by decide +kernel
theorem dX11_goes_7 : decode cX11_goes 7 = .ok (.iconst 2, 1) := by decide +kernel
theorem dX11_goes_8 : decode cX11_goes 8 = .ok (.iaload, 1) := by decide +kernel
theorem dX11_goes_9 : decode cX11_goes 9 = .ok (.if_icmp .ge 68, 3) := by decide +kernel
theorem dX11_goes_12 : decode cX11_goes 12 = .ok (.aload_n 0, 1) := by decide +kernel
theorem dX11_goes_13 : decode cX11_goes 13 = .ok (.iload_n 3, 1) := by decide +kernel
theorem dX11_goes_14 : decode cX11_goes 14 = .ok (.iconst 4, 1) := by decide +kernel
theorem dX11_goes_15 : decode cX11_goes 15 = .ok (.iload_n 2, 1) := by decide +kernel
theorem dX11_goes_16 : decode cX11_goes 16 = .ok (.iload_n 3, 1) := by decide +kernel
theorem dX11_goes_17 : decode cX11_goes 17 = .ok (.ishr, 1) := by decide +kernel
theorem dX11_goes_18 : decode cX11_goes 18 = .ok (.iconst 1, 1) := by decide +kernel
theorem dX11_goes_19 : decode cX11_goes 19 = .ok (.iand, 1) := by decide +kernel
theorem dX11_goes_20 : decode cX11_goes 20 = .ok (.iconst 1, 1) := by decide +kernel
theorem dX11_goes_21 : decode cX11_goes 21 = .ok (.if_icmp .ne 7, 3) := by decide +kernel
theorem dX11_goes_24 : decode cX11_goes 24 = .ok (.iconst 0, 1) := by decide +kernel
theorem dX11_goes_25 : decode cX11_goes 25 = .ok (.goto 9, 3) := by decide +kernel
theorem dX11_goes_28 : decode cX11_goes 28 = .ok (.aload_n 0, 1) := by decide +kernel
theorem dX11_goes_29 : decode cX11_goes 29 = .ok (.iload_n 3, 1) := by decide +kernel
theorem dX11_goes_30 : decode cX11_goes 30 = .ok (.iload_n 1, 1) := by decide +kernel
theorem dX11_goes_31 : decode cX11_goes 31 = .ok (.invokevirtual 164, 3) := by decide +kernel
theorem dX11_goes_34 : decode cX11_goes 34 = .ok (.invokevirtual 81, 3) := by decide +kernel
theorem dX11_goes_37 : decode cX11_goes 37 = .ok (.aload_n 0, 1) := by decide +kernel
theorem dX11_goes_38 : decode cX11_goes 38 = .ok (.iconst 1, 1) := by decide +kernel
theorem dX11_goes_39 : decode cX11_goes 39 = .ok (.aload_n 0, 1) := by decide +kernel
theorem dX11_goes_40 : decode cX11_goes 40 = .ok (.iload_n 3, 1) := by decide +kernel
theorem dX11_goes_41 : decode cX11_goes 41 = .ok (.iconst 4, 1) := by decide +kernel
theorem dX11_goes_42 : decode cX11_goes 42 = .ok (.invokevirtual 51, 3) := by decide +kernel
theorem dX11_goes_45 : decode cX11_goes 45 = .ok (.aload_n 0, 1) := by decide +kernel
theorem dX11_goes_46 : decode cX11_goes 46 = .ok (.iload_n 3, 1) := by decide +kernel
theorem dX11_goes_47 : decode cX11_goes 47 = .ok (.iconst 1, 1) := by decide +kernel
theorem dX11_goes_48 : decode cX11_goes 48 = .ok (.invokevirtual 51, 3) := by decide +kernel
theorem dX11_goes_51 : decode cX11_goes 51 = .ok (.aload_n 0, 1) := by decide +kernel
theorem dX11_goes_52 : decode cX11_goes 52 = .ok (.iload_n 3, 1) := by decide +kernel
theorem dX11_goes_53 : decode cX11_goes 53 = .ok (.iconst 0, 1) := by decide +kernel
theorem dX11_goes_54 : decode cX11_goes 54 = .ok (.invokevirtual 51, 3) := by decide +kernel
theorem dX11_goes_57 : decode cX11_goes 57 = .ok (.invokevirtual 151, 3) := by decide +kernel
theorem dX11_goes_60 : decode cX11_goes 60 = .ok (.iconst 1, 1) := by decide +kernel
theorem dX11_goes_61 : decode cX11_goes 61 = .ok (.if_icmp .ne 10, 3) := by decide +kernel
theorem dX11_goes_64 : decode cX11_goes 64 = .ok (.aload_n 0, 1) := by decide +kernel
theorem dX11_goes_65 : decode cX11_goes 65 = .ok (.iload_n 3, 1) := by decide +kernel
theorem dX11_goes_66 : decode cX11_goes 66 = .ok (.iconst 3, 1) := by decide +kernel
theorem dX11_goes_67 : decode cX11_goes 67 = .ok (.iconst 1, 1) := by decide +kernel
theorem dX11_goes_68 : decode cX11_goes 68 = .ok (.invokevirtual 81, 3) := by decide +kernel
theorem dX11_goes_71 : decode cX11_goes 71 = .ok (.iinc 3 1, 3) := by decide +kernel
theorem dX11_goes_74 : decode cX11_goes 74 = .ok (.goto (-72), 3) := by decide +kernel
theorem dX11_goes_77 : decode cX11_goes 77 = .ok (.aload_n 0, 1) := by decide +kernel
theorem dX11_goes_78 : decode cX11_goes 78 = .ok (.getfield 9, 3) := by decide +kernel
theorem dX11_goes_81 : decode cX11_goes 81 = .ok (.iconst 0, 1) := by decide +kernel
theorem dX11_goes_82 : decode cX11_goes 82 = .ok (.dup2, 1) := by decide +kernel
theorem dX11_goes_83 : decode cX11_goes 83 = .ok (.iaload, 1) := by decide +kernel
theorem dX11_goes_84 : decode cX11_goes 84 = .ok (.iconst 1, 1) := by decide +kernel
theorem dX11_goes_85 : decode cX11_goes 85 = .ok (.iadd, 1) := by decide +kernel
theorem dX11_goes_86 : decode cX11_goes 86 = .ok (.iastore, 1) := by decide +kernel
theorem dX11_goes_87 : decode cX11_goes 87 = .ok (.return_, 1) := by decide +kernel
set_option maxRecDepth 20000 in
theorem ggX11_goesOn_X11_pullOf : GoodIn wsX11_goesOn wsX11_pullOf := goodIn_r _ [6, 1, 7, 8, 9, 5, 10, 11, 12, 13, 14, 15, 16, 17, 18, 19, 59, 60, 61, 62, 63, 64, 65, 66, 67, 68, 69, 70, 71, 72, 73, 74, 75, 76, 77, 78] (by decide +kernel) (by decide +kernel)
set_option maxRecDepth 20000 in
theorem gX11_goesOn_X11_pullOf : GoodIn wsX11_goesOn (wsV RX11 167 RX11 yX11_pullOf wsX11_pullOf) := goodIn_app (goodIn_of _ (by decide +kernel)) ggX11_goesOn_X11_pullOf
set_option maxRecDepth 20000 in
theorem ggX11_goesOn_X11_goes : GoodIn wsX11_goesOn wsX11_goes := goodIn_r _ [23, 1, 24, 25, 26, 5, 27, 28, 29, 30, 31, 32, 33, 34, 35, 36, 37, 38, 39, 40, 41, 42, 43, 44, 45, 46, 47, 48, 49, 50, 51, 52, 53, 54, 55, 56, 57, 58, 7, 8, 9, 10, 11, 12, 13, 14, 15, 16, 17, 18, 19, 59, 60, 61, 62, 63, 64, 65, 66, 67, 68, 69, 70, 71, 72, 73, 74, 75, 76, 77, 78] (by decide +kernel) (by decide +kernel)
set_option maxRecDepth 20000 in
theorem gX11_goesOn_X11_goes : GoodIn wsX11_goesOn (wsV RX11 170 RX11 yX11_goes wsX11_goes) := goodIn_app (goodIn_of _ (by decide +kernel)) ggX11_goesOn_X11_goes
theorem dX11_goesOn_0 : decode cX11_goesOn 0 = .ok (.iconst 0, 1) := by decide +kernel
theorem dX11_goesOn_1 : decode cX11_goesOn 1 = .ok (.istore_n 2, 1) := by decide +kernel
theorem dX11_goesOn_2 : decode cX11_goesOn 2 = .ok (.iload_n 2, 1) := by decide +kernel
theorem dX11_goesOn_3 : decode cX11_goesOn 3 = .ok (.iload_n 1, 1) := by decide +kernel
theorem dX11_goesOn_4 : decode cX11_goesOn 4 = .ok (.if_icmp .ge 24, 3) := by decide +kernel
theorem dX11_goesOn_7 : decode cX11_goesOn 7 = .ok (.aload_n 0, 1) := by decide +kernel
theorem dX11_goesOn_8 : decode cX11_goesOn 8 = .ok (.aload_n 0, 1) := by decide +kernel
theorem dX11_goesOn_9 : decode cX11_goesOn 9 = .ok (.aload_n 0, 1) := by decide +kernel
theorem dX11_goesOn_10 : decode cX11_goesOn 10 = .ok (.getfield 9, 3) := by decide +kernel
theorem dX11_goesOn_13 : decode cX11_goesOn 13 = .ok (.iconst 0, 1) := by decide +kernel
theorem dX11_goesOn_14 : decode cX11_goesOn 14 = .ok (.iaload, 1) := by decide +kernel
theorem dX11_goesOn_15 : decode cX11_goesOn 15 = .ok (.invokevirtual 167, 3) := by decide +kernel
theorem dX11_goesOn_18 : decode cX11_goesOn 18 = .ok (.iconst 0, 1) := by decide +kernel
theorem dX11_goesOn_19 : decode cX11_goesOn 19 = .ok (.invokevirtual 170, 3) := by decide +kernel
theorem dX11_goesOn_22 : decode cX11_goesOn 22 = .ok (.iinc 2 1, 3) := by decide +kernel
theorem dX11_goesOn_25 : decode cX11_goesOn 25 = .ok (.goto (-23), 3) := by decide +kernel
theorem dX11_goesOn_28 : decode cX11_goesOn 28 = .ok (.return_, 1) := by decide +kernel
set_option maxRecDepth 20000 in
theorem ggX11_broken_X11_of : GoodIn wsX11_broken wsX11_of := goodIn_r _ [6, 1, 7, 8, 9, 10, 11, 12, 13, 14, 15, 16, 17, 18, 19, 20, 21, 22, 23, 24, 25, 26] (by decide +kernel) (by decide +kernel)
set_option maxRecDepth 20000 in
theorem gX11_broken_X11_of : GoodIn wsX11_broken (wsV RX11 51 RX11 yX11_of wsX11_of) := goodIn_app (goodIn_of _ (by decide +kernel)) ggX11_broken_X11_of
theorem dX11_broken_0 : decode cX11_broken 0 = .ok (.iconst 0, 1) := by decide +kernel
theorem dX11_broken_1 : decode cX11_broken 1 = .ok (.istore_n 1, 1) := by decide +kernel
theorem dX11_broken_2 : decode cX11_broken 2 = .ok (.iconst 0, 1) := by decide +kernel
theorem dX11_broken_3 : decode cX11_broken 3 = .ok (.istore_n 2, 1) := by decide +kernel
theorem dX11_broken_4 : decode cX11_broken 4 = .ok (.iload_n 2, 1) := by decide +kernel
theorem dX11_broken_5 : decode cX11_broken 5 = .ok (.aload_n 0, 1) := by decide +kernel
theorem dX11_broken_6 : decode cX11_broken 6 = .ok (.getfield 9, 3) := by decide +kernel
theorem dX11_broken_9 : decode cX11_broken 9 = .ok (.iconst 2, 1) := by decide +kernel
theorem dX11_broken_10 : decode cX11_broken 10 = .ok (.iaload, 1) := by decide +kernel
theorem dX11_broken_11 : decode cX11_broken 11 = .ok (.if_icmp .ge 18, 3) := by decide +kernel
theorem dX11_broken_14 : decode cX11_broken 14 = .ok (.iload_n 1, 1) := by decide +kernel
theorem dX11_broken_15 : decode cX11_broken 15 = .ok (.aload_n 0, 1) := by decide +kernel
theorem dX11_broken_16 : decode cX11_broken 16 = .ok (.iload_n 2, 1) := by decide +kernel
theorem dX11_broken_17 : decode cX11_broken 17 = .ok (.iconst 3, 1) := by decide +kernel
theorem dX11_broken_18 : decode cX11_broken 18 = .ok (.invokevirtual 51, 3) := by decide +kernel
theorem dX11_broken_21 : decode cX11_broken 21 = .ok (.iadd, 1) := by decide +kernel
theorem dX11_broken_22 : decode cX11_broken 22 = .ok (.istore_n 1, 1) := by decide +kernel
theorem dX11_broken_23 : decode cX11_broken 23 = .ok (.iinc 2 1, 3) := by decide +kernel
theorem dX11_broken_26 : decode cX11_broken 26 = .ok (.goto (-22), 3) := by decide +kernel
theorem dX11_broken_29 : decode cX11_broken 29 = .ok (.iload_n 1, 1) := by decide +kernel
theorem dX11_broken_30 : decode cX11_broken 30 = .ok (.ireturn, 1) := by decide +kernel
set_option maxRecDepth 20000 in
theorem ggX11_hours_X11_in : GoodIn wsX11_hours wsX11_in := goodIn_r _ [7] (by decide +kernel) (by decide +kernel)
set_option maxRecDepth 20000 in
theorem gX11_hours_X11_in : GoodIn wsX11_hours (va_wsS RX11 47 yX11_in wsX11_in) := goodIn_app (goodIn_of _ (by decide +kernel)) ggX11_hours_X11_in
set_option maxRecDepth 20000 in
theorem ggX11_hours_X11_error : GoodIn wsX11_hours wsX11_error := goodIn_r _ [11, 12, 13, 78, 79, 80, 81, 82, 83, 84, 85, 86, 87, 88, 89, 90, 91, 92, 93, 94, 95, 96, 97] (by decide +kernel) (by decide +kernel)
set_option maxRecDepth 20000 in
theorem gX11_hours_X11_error : GoodIn wsX11_hours (wsV RX11 67 RX11 yX11_error wsX11_error) := goodIn_app (goodIn_of _ (by decide +kernel)) ggX11_hours_X11_error
set_option maxRecDepth 20000 in
theorem ggX11_hours_X11_goesOn : GoodIn wsX11_hours wsX11_goesOn := goodIn_r _ [17, 2, 18, 19, 20, 6, 21, 22, 23, 24, 25, 26, 27, 28, 29, 30, 31, 32, 33, 34, 35, 36, 37, 38, 39, 40, 41, 42, 43, 44, 45, 46, 47, 48, 49, 50, 51, 52, 53, 54, 55, 56, 57, 58, 59, 60, 61, 62, 63, 64, 65, 66, 67, 68, 69, 70, 71, 72, 73, 78, 79, 80, 81, 82, 83, 84, 85, 86, 87, 88, 89, 90, 91, 92, 93, 94, 95, 96, 97] (by decide +kernel) (by decide +kernel)
set_option maxRecDepth 20000 in
theorem gX11_hours_X11_goesOn : GoodIn wsX11_hours (wsV RX11 173 RX11 yX11_goesOn wsX11_goesOn) := goodIn_app (goodIn_of _ (by decide +kernel)) ggX11_hours_X11_goesOn
set_option maxRecDepth 20000 in
theorem ggX11_hours_X11_broken : GoodIn wsX11_hours wsX11_broken := goodIn_r _ [77, 2, 43, 44, 45, 6, 46, 78, 79, 80, 81, 82, 83, 84, 85, 86, 87, 88, 89, 90, 91, 92, 93, 94, 95, 96, 97] (by decide +kernel) (by decide +kernel)
set_option maxRecDepth 20000 in
theorem gX11_hours_X11_broken : GoodIn wsX11_hours (wsV RX11 176 RX11 yX11_broken wsX11_broken) := goodIn_app (goodIn_of _ (by decide +kernel)) ggX11_hours_X11_broken
theorem dX11_hours_0 : decode cX11_hours 0 = .ok (.iload_n 1, 1) := by decide +kernel
theorem dX11_hours_1 : decode cX11_hours 1 = .ok (.iconst 1, 1) := by decide +kernel
theorem dX11_hours_2 : decode cX11_hours 2 = .ok (.bipush 100, 2) := by decide +kernel
theorem dX11_hours_4 : decode cX11_hours 4 = .ok (.invokestatic 47, 3) := by decide +kernel
theorem dX11_hours_7 : decode cX11_hours 7 = .ok (.ifCond .ne 10, 3) := by decide +kernel
theorem dX11_hours_10 : decode cX11_hours 10 = .ok (.aload_n 0, 1) := by decide +kernel
theorem dX11_hours_11 : decode cX11_hours 11 = .ok (.ldc 66, 2) := by decide +kernel
theorem dX11_hours_13 : decode cX11_hours 13 = .ok (.invokevirtual 67, 3) := by decide +kernel
theorem dX11_hours_16 : decode cX11_hours 16 = .ok (.ireturn, 1) := by decide +kernel
theorem dX11_hours_17 : decode cX11_hours 17 = .ok (.aload_n 0, 1) := by decide +kernel
theorem dX11_hours_18 : decode cX11_hours 18 = .ok (.getfield 9, 3) := by decide +kernel
theorem dX11_hours_21 : decode cX11_hours 21 = .ok (.iconst 0, 1) := by decide +kernel
theorem dX11_hours_22 : decode cX11_hours 22 = .ok (.iaload, 1) := by decide +kernel
theorem dX11_hours_23 : decode cX11_hours 23 = .ok (.iload_n 1, 1) := by decide +kernel
theorem dX11_hours_24 : decode cX11_hours 24 = .ok (.iadd, 1) := by decide +kernel
theorem dX11_hours_25 : decode cX11_hours 25 = .ok (.sipush 9999, 3) := by decide +kernel
theorem dX11_hours_28 : decode cX11_hours 28 = .ok (.if_icmp .le 10, 3) := by decide +kernel
theorem dX11_hours_31 : decode cX11_hours 31 = .ok (.aload_n 0, 1) := by decide +kernel
theorem dX11_hours_32 : decode cX11_hours 32 = .ok (.ldc 70, 2) := by decide +kernel
theorem dX11_hours_34 : decode cX11_hours 34 = .ok (.invokevirtual 67, 3) := by decide +kernel
theorem dX11_hours_37 : decode cX11_hours 37 = .ok (.ireturn, 1) := by decide +kernel
theorem dX11_hours_38 : decode cX11_hours 38 = .ok (.aload_n 0, 1) := by decide +kernel
theorem dX11_hours_39 : decode cX11_hours 39 = .ok (.iload_n 1, 1) := by decide +kernel
theorem dX11_hours_40 : decode cX11_hours 40 = .ok (.invokevirtual 173, 3) := by decide +kernel
theorem dX11_hours_43 : decode cX11_hours 43 = .ok (.aload_n 0, 1) := by decide +kernel
theorem dX11_hours_44 : decode cX11_hours 44 = .ok (.invokevirtual 176, 3) := by decide +kernel
theorem dX11_hours_47 : decode cX11_hours 47 = .ok (.ireturn, 1) := by decide +kernel
theorem dX11_draw_0 : decode cX11_draw 0 = .ok (.aload_n 0, 1) := by decide +kernel
theorem dX11_draw_1 : decode cX11_draw 1 = .ok (.getfield 9, 3) := by decide +kernel
theorem dX11_draw_4 : decode cX11_draw 4 = .ok (.iconst 1, 1) := by decide +kernel
theorem dX11_draw_5 : decode cX11_draw 5 = .ok (.aload_n 0, 1) := by decide +kernel
theorem dX11_draw_6 : decode cX11_draw 6 = .ok (.getfield 9, 3) := by decide +kernel
theorem dX11_draw_9 : decode cX11_draw 9 = .ok (.iconst 1, 1) := by decide +kernel
theorem dX11_draw_10 : decode cX11_draw 10 = .ok (.iaload, 1) := by decide +kernel
theorem dX11_draw_11 : decode cX11_draw 11 = .ok (.ldc 179, 2) := by decide +kernel
theorem dX11_draw_13 : decode cX11_draw 13 = .ok (.imul, 1) := by decide +kernel
theorem dX11_draw_14 : decode cX11_draw 14 = .ok (.sipush 12345, 3) := by decide +kernel
theorem dX11_draw_17 : decode cX11_draw 17 = .ok (.iadd, 1) := by decide +kernel
theorem dX11_draw_18 : decode cX11_draw 18 = .ok (.iastore, 1) := by decide +kernel
theorem dX11_draw_19 : decode cX11_draw 19 = .ok (.aload_n 0, 1) := by decide +kernel
theorem dX11_draw_20 : decode cX11_draw 20 = .ok (.getfield 9, 3) := by decide +kernel
theorem dX11_draw_23 : decode cX11_draw 23 = .ok (.iconst 1, 1) := by decide +kernel
theorem dX11_draw_24 : decode cX11_draw 24 = .ok (.iaload, 1) := by decide +kernel
theorem dX11_draw_25 : decode cX11_draw 25 = .ok (.bipush 8, 2) := by decide +kernel
theorem dX11_draw_27 : decode cX11_draw 27 = .ok (.iushr, 1) := by decide +kernel
theorem dX11_draw_28 : decode cX11_draw 28 = .ok (.ireturn, 1) := by decide +kernel
set_option maxRecDepth 20000 in
theorem ggX11_shakes_X11_in : GoodIn wsX11_shakes wsX11_in := goodIn_r _ [7] (by decide +kernel) (by decide +kernel)
set_option maxRecDepth 20000 in
theorem gX11_shakes_X11_in : GoodIn wsX11_shakes (va_wsS RX11 47 yX11_in wsX11_in) := goodIn_app (goodIn_of _ (by decide +kernel)) ggX11_shakes_X11_in
set_option maxRecDepth 20000 in
theorem ggX11_shakes_X11_error : GoodIn wsX11_shakes wsX11_error := goodIn_r _ [11, 12, 13, 75, 76, 77, 78, 79, 80, 81, 82, 83, 84, 85, 86, 87, 88, 89, 90, 91, 92, 93, 94] (by decide +kernel) (by decide +kernel)
set_option maxRecDepth 20000 in
theorem gX11_shakes_X11_error : GoodIn wsX11_shakes (wsV RX11 67 RX11 yX11_error wsX11_error) := goodIn_app (goodIn_of _ (by decide +kernel)) ggX11_shakes_X11_error
set_option maxRecDepth 20000 in
theorem ggX11_shakes_X11_draw : GoodIn wsX11_shakes wsX11_draw := goodIn_r _ [17, 2, 18, 75, 76, 77, 78, 79, 80, 81, 82, 83, 84, 85, 86, 87, 88, 89, 90, 91, 92, 93, 94] (by decide +kernel) (by decide +kernel)
set_option maxRecDepth 20000 in
theorem gX11_shakes_X11_draw : GoodIn wsX11_shakes (wsV RX11 180 RX11 yX11_draw wsX11_draw) := goodIn_app (goodIn_of _ (by decide +kernel)) ggX11_shakes_X11_draw
set_option maxRecDepth 20000 in
theorem ggX11_shakes_X11_goes : GoodIn wsX11_shakes wsX11_goes := goodIn_r _ [22, 2, 23, 24, 25, 6, 26, 27, 28, 29, 30, 31, 32, 33, 34, 35, 36, 37, 38, 39, 40, 41, 42, 43, 44, 45, 46, 47, 48, 49, 50, 51, 52, 53, 54, 55, 56, 57, 58, 59, 60, 61, 62, 63, 64, 65, 66, 67, 68, 69, 70, 75, 76, 77, 78, 79, 80, 81, 82, 83, 84, 85, 86, 87, 88, 89, 90, 91, 92, 93, 94] (by decide +kernel) (by decide +kernel)
set_option maxRecDepth 20000 in
theorem gX11_shakes_X11_goes : GoodIn wsX11_shakes (wsV RX11 170 RX11 yX11_goes wsX11_goes) := goodIn_app (goodIn_of _ (by decide +kernel)) ggX11_shakes_X11_goes
set_option maxRecDepth 20000 in
theorem ggX11_shakes_X11_broken : GoodIn wsX11_shakes wsX11_broken := goodIn_r _ [74, 2, 27, 28, 29, 6, 30, 75, 76, 77, 78, 79, 80, 81, 82, 83, 84, 85, 86, 87, 88, 89, 90, 91, 92, 93, 94] (by decide +kernel) (by decide +kernel)
set_option maxRecDepth 20000 in
theorem gX11_shakes_X11_broken : GoodIn wsX11_shakes (wsV RX11 176 RX11 yX11_broken wsX11_broken) := goodIn_app (goodIn_of _ (by decide +kernel)) ggX11_shakes_X11_broken
theorem dX11_shakes_0 : decode cX11_shakes 0 = .ok (.iload_n 1, 1) := by decide +kernel
theorem dX11_shakes_1 : decode cX11_shakes 1 = .ok (.iconst 1, 1) := by decide +kernel
theorem dX11_shakes_2 : decode cX11_shakes 2 = .ok (.bipush 40, 2) := by decide +kernel
theorem dX11_shakes_4 : decode cX11_shakes 4 = .ok (.invokestatic 47, 3) := by decide +kernel
theorem dX11_shakes_7 : decode cX11_shakes 7 = .ok (.ifCond .ne 10, 3) := by decide +kernel
theorem dX11_shakes_10 : decode cX11_shakes 10 = .ok (.aload_n 0, 1) := by decide +kernel
theorem dX11_shakes_11 : decode cX11_shakes 11 = .ok (.ldc 66, 2) := by decide +kernel
theorem dX11_shakes_13 : decode cX11_shakes 13 = .ok (.invokevirtual 67, 3) := by decide +kernel
theorem dX11_shakes_16 : decode cX11_shakes 16 = .ok (.ireturn, 1) := by decide +kernel
theorem dX11_shakes_17 : decode cX11_shakes 17 = .ok (.aload_n 0, 1) := by decide +kernel
theorem dX11_shakes_18 : decode cX11_shakes 18 = .ok (.getfield 9, 3) := by decide +kernel
theorem dX11_shakes_21 : decode cX11_shakes 21 = .ok (.iconst 0, 1) := by decide +kernel
theorem dX11_shakes_22 : decode cX11_shakes 22 = .ok (.iaload, 1) := by decide +kernel
theorem dX11_shakes_23 : decode cX11_shakes 23 = .ok (.iload_n 1, 1) := by decide +kernel
theorem dX11_shakes_24 : decode cX11_shakes 24 = .ok (.iadd, 1) := by decide +kernel
theorem dX11_shakes_25 : decode cX11_shakes 25 = .ok (.sipush 9999, 3) := by decide +kernel
theorem dX11_shakes_28 : decode cX11_shakes 28 = .ok (.if_icmp .le 10, 3) := by decide +kernel
theorem dX11_shakes_31 : decode cX11_shakes 31 = .ok (.aload_n 0, 1) := by decide +kernel
theorem dX11_shakes_32 : decode cX11_shakes 32 = .ok (.ldc 70, 2) := by decide +kernel
theorem dX11_shakes_34 : decode cX11_shakes 34 = .ok (.invokevirtual 67, 3) := by decide +kernel
theorem dX11_shakes_37 : decode cX11_shakes 37 = .ok (.ireturn, 1) := by decide +kernel
theorem dX11_shakes_38 : decode cX11_shakes 38 = .ok (.iconst 0, 1) := by decide +kernel
theorem dX11_shakes_39 : decode cX11_shakes 39 = .ok (.istore_n 2, 1) := by decide +kernel
theorem dX11_shakes_40 : decode cX11_shakes 40 = .ok (.iload_n 2, 1) := by decide +kernel
theorem dX11_shakes_41 : decode cX11_shakes 41 = .ok (.iload_n 1, 1) := by decide +kernel
theorem dX11_shakes_42 : decode cX11_shakes 42 = .ok (.if_icmp .ge 20, 3) := by decide +kernel
theorem dX11_shakes_45 : decode cX11_shakes 45 = .ok (.aload_n 0, 1) := by decide +kernel
theorem dX11_shakes_46 : decode cX11_shakes 46 = .ok (.aload_n 0, 1) := by decide +kernel
theorem dX11_shakes_47 : decode cX11_shakes 47 = .ok (.invokevirtual 180, 3) := by decide +kernel
theorem dX11_shakes_50 : decode cX11_shakes 50 = .ok (.iconst 4, 1) := by decide +kernel
theorem dX11_shakes_51 : decode cX11_shakes 51 = .ok (.irem, 1) := by decide +kernel
theorem dX11_shakes_52 : decode cX11_shakes 52 = .ok (.iconst 0, 1) := by decide +kernel
theorem dX11_shakes_53 : decode cX11_shakes 53 = .ok (.invokevirtual 170, 3) := by decide +kernel
theorem dX11_shakes_56 : decode cX11_shakes 56 = .ok (.iinc 2 1, 3) := by decide +kernel
theorem dX11_shakes_59 : decode cX11_shakes 59 = .ok (.goto (-19), 3) := by decide +kernel
theorem dX11_shakes_62 : decode cX11_shakes 62 = .ok (.aload_n 0, 1) := by decide +kernel
theorem dX11_shakes_63 : decode cX11_shakes 63 = .ok (.invokevirtual 176, 3) := by decide +kernel
theorem dX11_shakes_66 : decode cX11_shakes 66 = .ok (.ireturn, 1) := by decide +kernel
set_option maxRecDepth 20000 in
theorem ggX11_seed_X11_becomes : GoodIn wsX11_seed wsX11_becomes := goodIn_r _ [5, 6, 7, 8, 9, 10, 11, 12, 13, 14, 15, 16, 17, 18, 19, 20, 21, 22, 23, 24, 25, 26] (by decide +kernel) (by decide +kernel)
set_option maxRecDepth 20000 in
theorem gX11_seed_X11_becomes : GoodIn wsX11_seed (wsV RX11 71 RX11 yX11_becomes wsX11_becomes) := goodIn_app (goodIn_of _ (by decide +kernel)) ggX11_seed_X11_becomes
theorem dX11_seed_0 : decode cX11_seed 0 = .ok (.aload_n 0, 1) := by decide +kernel
theorem dX11_seed_1 : decode cX11_seed 1 = .ok (.iconst 1, 1) := by decide +kernel
theorem dX11_seed_2 : decode cX11_seed 2 = .ok (.iload_n 1, 1) := by decide +kernel
theorem dX11_seed_3 : decode cX11_seed 3 = .ok (.invokevirtual 71, 3) := by decide +kernel
theorem dX11_seed_6 : decode cX11_seed 6 = .ok (.ireturn, 1) := by decide +kernel
set_option maxRecDepth 20000 in
theorem ggX11_pull_X11_in : GoodIn wsX11_pull wsX11_in := goodIn_r _ [5] (by decide +kernel) (by decide +kernel)
set_option maxRecDepth 20000 in
theorem gX11_pull_X11_in : GoodIn wsX11_pull (va_wsS RX11 47 yX11_in wsX11_in) := goodIn_app (goodIn_of _ (by decide +kernel)) ggX11_pull_X11_in
set_option maxRecDepth 20000 in
theorem ggX11_pull_X11_pullOf : GoodIn wsX11_pull wsX11_pullOf := goodIn_r _ [9, 10, 11, 12, 13, 4, 14, 15, 16, 17, 18, 19, 20, 21, 22, 23, 30, 31, 32, 33, 34, 35, 36, 37, 38, 39, 40, 41, 42, 43, 44, 45, 46, 47, 48, 49] (by decide +kernel) (by decide +kernel)
set_option maxRecDepth 20000 in
theorem gX11_pull_X11_pullOf : GoodIn wsX11_pull (wsV RX11 167 RX11 yX11_pullOf wsX11_pullOf) := goodIn_app (goodIn_of _ (by decide +kernel)) ggX11_pull_X11_pullOf
set_option maxRecDepth 20000 in
theorem ggX11_pull_X11_error : GoodIn wsX11_pull wsX11_error := goodIn_r _ [27, 28, 29, 30, 31, 32, 33, 34, 35, 36, 37, 38, 39, 40, 41, 42, 43, 44, 45, 46, 47, 48, 49] (by decide +kernel) (by decide +kernel)
set_option maxRecDepth 20000 in
theorem gX11_pull_X11_error : GoodIn wsX11_pull (wsV RX11 67 RX11 yX11_error wsX11_error) := goodIn_app (goodIn_of _ (by decide +kernel)) ggX11_pull_X11_error
theorem dX11_pull_0 : decode cX11_pull 0 = .ok (.iload_n 1, 1) := by decide +kernel
theorem dX11_pull_1 : decode cX11_pull 1 = .ok (.iconst 0, 1) := by decide +kernel
theorem dX11_pull_2 : decode cX11_pull 2 = .ok (.sipush 9999, 3) := by decide +kernel
theorem dX11_pull_5 : decode cX11_pull 5 = .ok (.invokestatic 47, 3) := by decide +kernel
theorem dX11_pull_8 : decode cX11_pull 8 = .ok (.ifCond .eq 11, 3) := by decide +kernel
theorem dX11_pull_11 : decode cX11_pull 11 = .ok (.aload_n 0, 1) := by decide +kernel
theorem dX11_pull_12 : decode cX11_pull 12 = .ok (.iload_n 1, 1) := by decide +kernel
theorem dX11_pull_13 : decode cX11_pull 13 = .ok (.invokevirtual 167, 3) := by decide +kernel
theorem dX11_pull_16 : decode cX11_pull 16 = .ok (.goto 9, 3) := by decide +kernel
theorem dX11_pull_19 : decode cX11_pull 19 = .ok (.aload_n 0, 1) := by decide +kernel
theorem dX11_pull_20 : decode cX11_pull 20 = .ok (.ldc 66, 2) := by decide +kernel
theorem dX11_pull_22 : decode cX11_pull 22 = .ok (.invokevirtual 67, 3) := by decide +kernel
theorem dX11_pull_25 : decode cX11_pull 25 = .ok (.ireturn, 1) := by decide +kernel
set_option maxRecDepth 20000 in
theorem ggX11_thinks_X11_copyAll : GoodIn wsX11_thinks wsX11_copyAll := goodIn_r _ [6] (by decide +kernel) (by decide +kernel)
set_option maxRecDepth 20000 in
theorem gX11_thinks_X11_copyAll : GoodIn wsX11_thinks (va_wsS RX11 183 yX11_copyAll wsX11_copyAll) := goodIn_app (goodIn_of _ (by decide +kernel)) ggX11_thinks_X11_copyAll
theorem dX11_thinks_0 : decode cX11_thinks 0 = .ok (.aload_n 0, 1) := by decide +kernel
theorem dX11_thinks_1 : decode cX11_thinks 1 = .ok (.getfield 9, 3) := by decide +kernel
theorem dX11_thinks_4 : decode cX11_thinks 4 = .ok (.aload_n 0, 1) := by decide +kernel
theorem dX11_thinks_5 : decode cX11_thinks 5 = .ok (.getfield 16, 3) := by decide +kernel
theorem dX11_thinks_8 : decode cX11_thinks 8 = .ok (.invokestatic 183, 3) := by decide +kernel
theorem dX11_thinks_11 : decode cX11_thinks 11 = .ok (.return_, 1) := by decide +kernel
set_option maxRecDepth 20000 in
theorem ggX11_putsBack_X11_copyAll : GoodIn wsX11_putsBack wsX11_copyAll := goodIn_r _ [6] (by decide +kernel) (by decide +kernel)
set_option maxRecDepth 20000 in
theorem gX11_putsBack_X11_copyAll : GoodIn wsX11_putsBack (va_wsS RX11 183 yX11_copyAll wsX11_copyAll) := goodIn_app (goodIn_of _ (by decide +kernel)) ggX11_putsBack_X11_copyAll
theorem dX11_putsBack_0 : decode cX11_putsBack 0 = .ok (.aload_n 0, 1) := by decide +kernel
theorem dX11_putsBack_1 : decode cX11_putsBack 1 = .ok (.getfield 16, 3) := by decide +kernel
theorem dX11_putsBack_4 : decode cX11_putsBack 4 = .ok (.aload_n 0, 1) := by decide +kernel
theorem dX11_putsBack_5 : decode cX11_putsBack 5 = .ok (.getfield 9, 3) := by decide +kernel
theorem dX11_putsBack_8 : decode cX11_putsBack 8 = .ok (.invokestatic 183, 3) := by decide +kernel
theorem dX11_putsBack_11 : decode cX11_putsBack 11 = .ok (.return_, 1) := by decide +kernel
set_option maxRecDepth 20000 in
theorem ggX11_then_X11_isThing : GoodIn wsX11_then wsX11_isThing := goodIn_r _ [6, 7, 8, 9, 5, 10, 89, 90, 91, 92, 93, 94, 95, 96, 97, 98, 99, 100, 101, 102, 103, 104, 105, 106, 107, 108] (by decide +kernel) (by decide +kernel)
set_option maxRecDepth 20000 in
theorem gX11_then_X11_isThing : GoodIn wsX11_then (wsV RX11 85 RX11 yX11_isThing wsX11_isThing) := goodIn_app (goodIn_of _ (by decide +kernel)) ggX11_then_X11_isThing
set_option maxRecDepth 20000 in
theorem ggX11_then_X11_in : GoodIn wsX11_then wsX11_in := goodIn_r _ [10] (by decide +kernel) (by decide +kernel)
set_option maxRecDepth 20000 in
theorem gX11_then_X11_in : GoodIn wsX11_then (va_wsS RX11 47 yX11_in wsX11_in) := goodIn_app (goodIn_of _ (by decide +kernel)) ggX11_then_X11_in
set_option maxRecDepth 20000 in
theorem ggX11_then_X11_error : GoodIn wsX11_then wsX11_error := goodIn_r _ [14, 15, 16, 89, 90, 91, 92, 93, 94, 95, 96, 97, 98, 99, 100, 101, 102, 103, 104, 105, 106, 107, 108] (by decide +kernel) (by decide +kernel)
set_option maxRecDepth 20000 in
theorem gX11_then_X11_error : GoodIn wsX11_then (wsV RX11 67 RX11 yX11_error wsX11_error) := goodIn_app (goodIn_of _ (by decide +kernel)) ggX11_then_X11_error
set_option maxRecDepth 20000 in
theorem ggX11_then_X11_thinks : GoodIn wsX11_then wsX11_thinks := goodIn_r _ [20, 7, 21, 22, 23, 5, 24, 89, 90, 91, 92, 93, 94, 95, 96, 97, 98, 99, 100, 101, 102, 103, 104, 105, 106, 107, 108] (by decide +kernel) (by decide +kernel)
set_option maxRecDepth 20000 in
theorem gX11_then_X11_thinks : GoodIn wsX11_then (wsV RX11 187 RX11 yX11_thinks wsX11_thinks) := goodIn_app (goodIn_of _ (by decide +kernel)) ggX11_then_X11_thinks
set_option maxRecDepth 20000 in
theorem ggX11_then_X11_goesOn : GoodIn wsX11_then wsX11_goesOn := goodIn_r _ [28, 7, 29, 30, 31, 5, 32, 33, 34, 35, 36, 37, 38, 39, 40, 41, 42, 43, 44, 45, 46, 47, 48, 49, 50, 51, 52, 53, 54, 55, 56, 57, 58, 59, 60, 61, 62, 63, 64, 65, 66, 67, 68, 69, 70, 71, 72, 73, 74, 75, 76, 77, 78, 79, 80, 81, 82, 83, 84, 89, 90, 91, 92, 93, 94, 95, 96, 97, 98, 99, 100, 101, 102, 103, 104, 105, 106, 107, 108] (by decide +kernel) (by decide +kernel)
set_option maxRecDepth 20000 in
theorem gX11_then_X11_goesOn : GoodIn wsX11_then (wsV RX11 173 RX11 yX11_goesOn wsX11_goesOn) := goodIn_app (goodIn_of _ (by decide +kernel)) ggX11_then_X11_goesOn
set_option maxRecDepth 20000 in
theorem ggX11_then_X11_of : GoodIn wsX11_then wsX11_of := goodIn_r _ [57, 7, 89, 90, 91, 92, 93, 94, 95, 96, 97, 98, 99, 100, 101, 102, 103, 104, 105, 106, 107, 108] (by decide +kernel) (by decide +kernel)
set_option maxRecDepth 20000 in
theorem gX11_then_X11_of : GoodIn wsX11_then (wsV RX11 51 RX11 yX11_of wsX11_of) := goodIn_app (goodIn_of _ (by decide +kernel)) ggX11_then_X11_of
set_option maxRecDepth 20000 in
theorem ggX11_then_X11_putsBack : GoodIn wsX11_then wsX11_putsBack := goodIn_r _ [88, 21, 7, 22, 23, 5, 24, 89, 90, 91, 92, 93, 94, 95, 96, 97, 98, 99, 100, 101, 102, 103, 104, 105, 106, 107, 108] (by decide +kernel) (by decide +kernel)
set_option maxRecDepth 20000 in
theorem gX11_then_X11_putsBack : GoodIn wsX11_then (wsV RX11 190 RX11 yX11_putsBack wsX11_putsBack) := goodIn_app (goodIn_of _ (by decide +kernel)) ggX11_then_X11_putsBack
theorem dX11_then_0 : decode cX11_then 0 = .ok (.aload_n 0, 1) := by decide +kernel
theorem dX11_then_1 : decode cX11_then 1 = .ok (.iload_n 1, 1) := by decide +kernel
theorem dX11_then_2 : decode cX11_then 2 = .ok (.invokevirtual 85, 3) := by decide +kernel
theorem dX11_then_5 : decode cX11_then 5 = .ok (.ifCond .eq 13, 3) := by decide +kernel
theorem dX11_then_8 : decode cX11_then 8 = .ok (.iload_n 2, 1) := by decide +kernel
theorem dX11_then_9 : decode cX11_then 9 = .ok (.iconst 0, 1) := by decide +kernel
theorem dX11_then_10 : decode cX11_then 10 = .ok (.bipush 100, 2) := by decide +kernel
theorem dX11_then_12 : decode cX11_then 12 = .ok (.invokestatic 47, 3) := by decide +kernel
theorem dX11_then_15 : decode cX11_then 15 = .ok (.ifCond .ne 10, 3) := by decide +kernel
theorem dX11_then_18 : decode cX11_then 18 = .ok (.aload_n 0, 1) := by decide +kernel
theorem dX11_then_19 : decode cX11_then 19 = .ok (.ldc 66, 2) := by decide +kernel
theorem dX11_then_21 : decode cX11_then 21 = .ok (.invokevirtual 67, 3) := by decide +kernel
theorem dX11_then_24 : decode cX11_then 24 = .ok (.ireturn, 1) := by decide +kernel
theorem dX11_then_25 : decode cX11_then 25 = .ok (.aload_n 0, 1) := by decide +kernel
theorem dX11_then_26 : decode cX11_then 26 = .ok (.invokevirtual 187, 3) := by decide +kernel
theorem dX11_then_29 : decode cX11_then 29 = .ok (.aload_n 0, 1) := by decide +kernel
theorem dX11_then_30 : decode cX11_then 30 = .ok (.iload_n 2, 1) := by decide +kernel
theorem dX11_then_31 : decode cX11_then 31 = .ok (.invokevirtual 173, 3) := by decide +kernel
theorem dX11_then_34 : decode cX11_then 34 = .ok (.aload_n 0, 1) := by decide +kernel
theorem dX11_then_35 : decode cX11_then 35 = .ok (.iload_n 1, 1) := by decide +kernel
theorem dX11_then_36 : decode cX11_then 36 = .ok (.iconst 2, 1) := by decide +kernel
theorem dX11_then_37 : decode cX11_then 37 = .ok (.invokevirtual 51, 3) := by decide +kernel
theorem dX11_then_40 : decode cX11_then 40 = .ok (.istore_n 3, 1) := by decide +kernel
theorem dX11_then_41 : decode cX11_then 41 = .ok (.aload_n 0, 1) := by decide +kernel
theorem dX11_then_42 : decode cX11_then 42 = .ok (.invokevirtual 190, 3) := by decide +kernel
theorem dX11_then_45 : decode cX11_then 45 = .ok (.iload_n 3, 1) := by decide +kernel
theorem dX11_then_46 : decode cX11_then 46 = .ok (.ireturn, 1) := by decide +kernel
set_option maxRecDepth 20000 in
theorem ggX11_when_X11_isThing : GoodIn wsX11_when wsX11_isThing := goodIn_r _ [7, 8, 9, 10, 6, 11, 93, 94, 95, 96, 97, 98, 99, 100, 101, 102, 103, 104, 105, 106, 107, 108, 109, 110, 111, 112] (by decide +kernel) (by decide +kernel)
set_option maxRecDepth 20000 in
theorem gX11_when_X11_isThing : GoodIn wsX11_when (wsV RX11 85 RX11 yX11_isThing wsX11_isThing) := goodIn_app (goodIn_of _ (by decide +kernel)) ggX11_when_X11_isThing
set_option maxRecDepth 20000 in
theorem ggX11_when_X11_isCell : GoodIn wsX11_when wsX11_isCell := goodIn_r _ [14, 9, 10, 6, 11] (by decide +kernel) (by decide +kernel)
set_option maxRecDepth 20000 in
theorem gX11_when_X11_isCell : GoodIn wsX11_when (va_wsS RX11 63 yX11_isCell wsX11_isCell) := goodIn_app (goodIn_of _ (by decide +kernel)) ggX11_when_X11_isCell
set_option maxRecDepth 20000 in
theorem ggX11_when_X11_error : GoodIn wsX11_when wsX11_error := goodIn_r _ [18, 19, 20, 93, 94, 95, 96, 97, 98, 99, 100, 101, 102, 103, 104, 105, 106, 107, 108, 109, 110, 111, 112] (by decide +kernel) (by decide +kernel)
set_option maxRecDepth 20000 in
theorem gX11_when_X11_error : GoodIn wsX11_when (wsV RX11 67 RX11 yX11_error wsX11_error) := goodIn_app (goodIn_of _ (by decide +kernel)) ggX11_when_X11_error
set_option maxRecDepth 20000 in
theorem ggX11_when_X11_thinks : GoodIn wsX11_when wsX11_thinks := goodIn_r _ [24, 8, 25, 26, 27, 6, 28, 93, 94, 95, 96, 97, 98, 99, 100, 101, 102, 103, 104, 105, 106, 107, 108, 109, 110, 111, 112] (by decide +kernel) (by decide +kernel)
set_option maxRecDepth 20000 in
theorem gX11_when_X11_thinks : GoodIn wsX11_when (wsV RX11 187 RX11 yX11_thinks wsX11_thinks) := goodIn_app (goodIn_of _ (by decide +kernel)) ggX11_when_X11_thinks
set_option maxRecDepth 20000 in
theorem ggX11_when_X11_of : GoodIn wsX11_when wsX11_of := goodIn_r _ [32, 8, 93, 94, 95, 96, 97, 98, 99, 100, 101, 102, 103, 104, 105, 106, 107, 108, 109, 110, 111, 112] (by decide +kernel) (by decide +kernel)
set_option maxRecDepth 20000 in
theorem gX11_when_X11_of : GoodIn wsX11_when (wsV RX11 51 RX11 yX11_of wsX11_of) := goodIn_app (goodIn_of _ (by decide +kernel)) ggX11_when_X11_of
set_option maxRecDepth 20000 in
theorem ggX11_when_X11_goesOn : GoodIn wsX11_when wsX11_goesOn := goodIn_r _ [36, 8, 37, 38, 39, 6, 40, 41, 42, 43, 44, 45, 46, 47, 48, 49, 50, 51, 52, 53, 54, 55, 56, 57, 58, 59, 60, 61, 29, 30, 31, 32, 62, 63, 64, 65, 66, 67, 68, 69, 70, 71, 72, 73, 74, 75, 76, 77, 78, 79, 80, 81, 82, 83, 84, 85, 86, 87, 88, 93, 94, 95, 96, 97, 98, 99, 100, 101, 102, 103, 104, 105, 106, 107, 108, 109, 110, 111, 112] (by decide +kernel) (by decide +kernel)
set_option maxRecDepth 20000 in
theorem gX11_when_X11_goesOn : GoodIn wsX11_when (wsV RX11 173 RX11 yX11_goesOn wsX11_goesOn) := goodIn_app (goodIn_of _ (by decide +kernel)) ggX11_when_X11_goesOn
set_option maxRecDepth 20000 in
theorem ggX11_when_X11_putsBack : GoodIn wsX11_when wsX11_putsBack := goodIn_r _ [92, 25, 8, 26, 27, 6, 28, 93, 94, 95, 96, 97, 98, 99, 100, 101, 102, 103, 104, 105, 106, 107, 108, 109, 110, 111, 112] (by decide +kernel) (by decide +kernel)
set_option maxRecDepth 20000 in
theorem gX11_when_X11_putsBack : GoodIn wsX11_when (wsV RX11 190 RX11 yX11_putsBack wsX11_putsBack) := goodIn_app (goodIn_of _ (by decide +kernel)) ggX11_when_X11_putsBack
theorem dX11_when_0 : decode cX11_when 0 = .ok (.aload_n 0, 1) := by decide +kernel
theorem dX11_when_1 : decode cX11_when 1 = .ok (.iload_n 1, 1) := by decide +kernel
theorem dX11_when_2 : decode cX11_when 2 = .ok (.invokevirtual 85, 3) := by decide +kernel
theorem dX11_when_5 : decode cX11_when 5 = .ok (.ifCond .eq 10, 3) := by decide +kernel
theorem dX11_when_8 : decode cX11_when 8 = .ok (.iload_n 2, 1) := by decide +kernel
theorem dX11_when_9 : decode cX11_when 9 = .ok (.invokestatic 63, 3) := by decide +kernel
theorem dX11_when_12 : decode cX11_when 12 = .ok (.ifCond .ne 10, 3) := by decide +kernel
theorem dX11_when_15 : decode cX11_when 15 = .ok (.aload_n 0, 1) := by decide +kernel
theorem dX11_when_16 : decode cX11_when 16 = .ok (.ldc 66, 2) := by decide +kernel
theorem dX11_when_18 : decode cX11_when 18 = .ok (.invokevirtual 67, 3) := by decide +kernel
theorem dX11_when_21 : decode cX11_when 21 = .ok (.ireturn, 1) := by decide +kernel
theorem dX11_when_22 : decode cX11_when 22 = .ok (.aload_n 0, 1) := by decide +kernel
theorem dX11_when_23 : decode cX11_when 23 = .ok (.invokevirtual 187, 3) := by decide +kernel
theorem dX11_when_26 : decode cX11_when 26 = .ok (.iconst 0, 1) := by decide +kernel
theorem dX11_when_27 : decode cX11_when 27 = .ok (.istore_n 3, 1) := by decide +kernel
theorem dX11_when_28 : decode cX11_when 28 = .ok (.iload_n 3, 1) := by decide +kernel
theorem dX11_when_29 : decode cX11_when 29 = .ok (.bipush 100, 2) := by decide +kernel
theorem dX11_when_31 : decode cX11_when 31 = .ok (.if_icmp .gt 24, 3) := by decide +kernel
theorem dX11_when_34 : decode cX11_when 34 = .ok (.aload_n 0, 1) := by decide +kernel
theorem dX11_when_35 : decode cX11_when 35 = .ok (.iload_n 1, 1) := by decide +kernel
theorem dX11_when_36 : decode cX11_when 36 = .ok (.iconst 2, 1) := by decide +kernel
theorem dX11_when_37 : decode cX11_when 37 = .ok (.invokevirtual 51, 3) := by decide +kernel
theorem dX11_when_40 : decode cX11_when 40 = .ok (.iload_n 2, 1) := by decide +kernel
theorem dX11_when_41 : decode cX11_when 41 = .ok (.if_icmp .eq 14, 3) := by decide +kernel
theorem dX11_when_44 : decode cX11_when 44 = .ok (.aload_n 0, 1) := by decide +kernel
theorem dX11_when_45 : decode cX11_when 45 = .ok (.iconst 1, 1) := by decide +kernel
theorem dX11_when_46 : decode cX11_when 46 = .ok (.invokevirtual 173, 3) := by decide +kernel
theorem dX11_when_49 : decode cX11_when 49 = .ok (.iinc 3 1, 3) := by decide +kernel
theorem dX11_when_52 : decode cX11_when 52 = .ok (.goto (-24), 3) := by decide +kernel
theorem dX11_when_55 : decode cX11_when 55 = .ok (.aload_n 0, 1) := by decide +kernel
theorem dX11_when_56 : decode cX11_when 56 = .ok (.invokevirtual 190, 3) := by decide +kernel
theorem dX11_when_59 : decode cX11_when 59 = .ok (.iload_n 3, 1) := by decide +kernel
theorem dX11_when_60 : decode cX11_when 60 = .ok (.bipush 100, 2) := by decide +kernel
theorem dX11_when_62 : decode cX11_when 62 = .ok (.if_icmp .le 12, 3) := by decide +kernel
theorem dX11_when_65 : decode cX11_when 65 = .ok (.aload_n 0, 1) := by decide +kernel
theorem dX11_when_66 : decode cX11_when 66 = .ok (.ldc 193, 2) := by decide +kernel
theorem dX11_when_68 : decode cX11_when 68 = .ok (.invokevirtual 67, 3) := by decide +kernel
theorem dX11_when_71 : decode cX11_when 71 = .ok (.goto 4, 3) := by decide +kernel
theorem dX11_when_74 : decode cX11_when 74 = .ok (.iload_n 3, 1) := by decide +kernel
theorem dX11_when_75 : decode cX11_when 75 = .ok (.ireturn, 1) := by decide +kernel
set_option maxRecDepth 20000 in
theorem ggX11_farthest_X11_in : GoodIn wsX11_farthest wsX11_in := goodIn_r _ [6] (by decide +kernel) (by decide +kernel)
set_option maxRecDepth 20000 in
theorem gX11_farthest_X11_in : GoodIn wsX11_farthest (va_wsS RX11 47 yX11_in wsX11_in) := goodIn_app (goodIn_of _ (by decide +kernel)) ggX11_farthest_X11_in
set_option maxRecDepth 20000 in
theorem ggX11_farthest_X11_error : GoodIn wsX11_farthest wsX11_error := goodIn_r _ [10, 11, 12, 85, 86, 87, 88, 89, 90, 91, 92, 93, 94, 95, 96, 97, 98, 99, 100, 101, 102, 103, 104] (by decide +kernel) (by decide +kernel)
set_option maxRecDepth 20000 in
theorem gX11_farthest_X11_error : GoodIn wsX11_farthest (wsV RX11 67 RX11 yX11_error wsX11_error) := goodIn_app (goodIn_of _ (by decide +kernel)) ggX11_farthest_X11_error
set_option maxRecDepth 20000 in
theorem ggX11_farthest_X11_thinks : GoodIn wsX11_farthest wsX11_thinks := goodIn_r _ [16, 2, 17, 18, 19, 5, 20, 85, 86, 87, 88, 89, 90, 91, 92, 93, 94, 95, 96, 97, 98, 99, 100, 101, 102, 103, 104] (by decide +kernel) (by decide +kernel)
set_option maxRecDepth 20000 in
theorem gX11_farthest_X11_thinks : GoodIn wsX11_farthest (wsV RX11 187 RX11 yX11_thinks wsX11_thinks) := goodIn_app (goodIn_of _ (by decide +kernel)) ggX11_farthest_X11_thinks
set_option maxRecDepth 20000 in
theorem ggX11_farthest_X11_goesOn : GoodIn wsX11_farthest wsX11_goesOn := goodIn_r _ [24, 2, 25, 26, 27, 5, 28, 29, 30, 31, 32, 33, 34, 35, 36, 37, 38, 39, 40, 41, 42, 43, 44, 45, 46, 47, 48, 49, 50, 51, 52, 53, 54, 55, 56, 57, 58, 59, 60, 61, 62, 63, 64, 65, 66, 67, 68, 69, 70, 71, 72, 73, 74, 75, 76, 77, 78, 79, 80, 85, 86, 87, 88, 89, 90, 91, 92, 93, 94, 95, 96, 97, 98, 99, 100, 101, 102, 103, 104] (by decide +kernel) (by decide +kernel)
set_option maxRecDepth 20000 in
theorem gX11_farthest_X11_goesOn : GoodIn wsX11_farthest (wsV RX11 173 RX11 yX11_goesOn wsX11_goesOn) := goodIn_app (goodIn_of _ (by decide +kernel)) ggX11_farthest_X11_goesOn
set_option maxRecDepth 20000 in
theorem ggX11_farthest_X11_of : GoodIn wsX11_farthest wsX11_of := goodIn_r _ [53, 2, 85, 86, 87, 88, 89, 90, 91, 92, 93, 94, 95, 96, 97, 98, 99, 100, 101, 102, 103, 104] (by decide +kernel) (by decide +kernel)
set_option maxRecDepth 20000 in
theorem gX11_farthest_X11_of : GoodIn wsX11_farthest (wsV RX11 51 RX11 yX11_of wsX11_of) := goodIn_app (goodIn_of _ (by decide +kernel)) ggX11_farthest_X11_of
set_option maxRecDepth 20000 in
theorem ggX11_farthest_X11_putsBack : GoodIn wsX11_farthest wsX11_putsBack := goodIn_r _ [84, 17, 2, 18, 19, 5, 20, 85, 86, 87, 88, 89, 90, 91, 92, 93, 94, 95, 96, 97, 98, 99, 100, 101, 102, 103, 104] (by decide +kernel) (by decide +kernel)
set_option maxRecDepth 20000 in
theorem gX11_farthest_X11_putsBack : GoodIn wsX11_farthest (wsV RX11 190 RX11 yX11_putsBack wsX11_putsBack) := goodIn_app (goodIn_of _ (by decide +kernel)) ggX11_farthest_X11_putsBack
theorem dX11_farthest_0 : decode cX11_farthest 0 = .ok (.iload_n 1, 1) := by decide +kernel
theorem dX11_farthest_1 : decode cX11_farthest 1 = .ok (.iconst 1, 1) := by decide +kernel
theorem dX11_farthest_2 : decode cX11_farthest 2 = .ok (.bipush 60, 2) := by decide +kernel
theorem dX11_farthest_4 : decode cX11_farthest 4 = .ok (.invokestatic 47, 3) := by decide +kernel
theorem dX11_farthest_7 : decode cX11_farthest 7 = .ok (.ifCond .eq 12, 3) := by decide +kernel
theorem dX11_farthest_10 : decode cX11_farthest 10 = .ok (.iload_n 2, 1) := by decide +kernel
theorem dX11_farthest_11 : decode cX11_farthest 11 = .ok (.iconst 0, 1) := by decide +kernel
theorem dX11_farthest_12 : decode cX11_farthest 12 = .ok (.iconst 2, 1) := by decide +kernel
theorem dX11_farthest_13 : decode cX11_farthest 13 = .ok (.invokestatic 47, 3) := by decide +kernel
theorem dX11_farthest_16 : decode cX11_farthest 16 = .ok (.ifCond .ne 10, 3) := by decide +kernel
theorem dX11_farthest_19 : decode cX11_farthest 19 = .ok (.aload_n 0, 1) := by decide +kernel
theorem dX11_farthest_20 : decode cX11_farthest 20 = .ok (.ldc 66, 2) := by decide +kernel
theorem dX11_farthest_22 : decode cX11_farthest 22 = .ok (.invokevirtual 67, 3) := by decide +kernel
theorem dX11_farthest_25 : decode cX11_farthest 25 = .ok (.ireturn, 1) := by decide +kernel
theorem dX11_farthest_26 : decode cX11_farthest 26 = .ok (.aload_n 0, 1) := by decide +kernel
theorem dX11_farthest_27 : decode cX11_farthest 27 = .ok (.invokevirtual 187, 3) := by decide +kernel
theorem dX11_farthest_30 : decode cX11_farthest 30 = .ok (.iconst 0, 1) := by decide +kernel
theorem dX11_farthest_31 : decode cX11_farthest 31 = .ok (.istore_n 3, 1) := by decide +kernel
theorem dX11_farthest_32 : decode cX11_farthest 32 = .ok (.iconst (-1), 1) := by decide +kernel
theorem dX11_farthest_33 : decode cX11_farthest 33 = .ok (.istore 4, 2) := by decide +kernel
theorem dX11_farthest_35 : decode cX11_farthest 35 = .ok (.iconst 0, 1) := by decide +kernel
theorem dX11_farthest_36 : decode cX11_farthest 36 = .ok (.istore 5, 2) := by decide +kernel
theorem dX11_farthest_38 : decode cX11_farthest 38 = .ok (.iconst 1, 1) := by decide +kernel
theorem dX11_farthest_39 : decode cX11_farthest 39 = .ok (.istore 6, 2) := by decide +kernel
theorem dX11_farthest_41 : decode cX11_farthest 41 = .ok (.iload 6, 2) := by decide +kernel
theorem dX11_farthest_43 : decode cX11_farthest 43 = .ok (.iload_n 1, 1) := by decide +kernel
theorem dX11_farthest_44 : decode cX11_farthest 44 = .ok (.if_icmp .gt 61, 3) := by decide +kernel
theorem dX11_farthest_47 : decode cX11_farthest 47 = .ok (.aload_n 0, 1) := by decide +kernel
theorem dX11_farthest_48 : decode cX11_farthest 48 = .ok (.iconst 1, 1) := by decide +kernel
theorem dX11_farthest_49 : decode cX11_farthest 49 = .ok (.invokevirtual 173, 3) := by decide +kernel
theorem dX11_farthest_52 : decode cX11_farthest 52 = .ok (.iconst 0, 1) := by decide +kernel
theorem dX11_farthest_53 : decode cX11_farthest 53 = .ok (.istore 7, 2) := by decide +kernel
theorem dX11_farthest_55 : decode cX11_farthest 55 = .ok (.iload 7, 2) := by decide +kernel
theorem dX11_farthest_57 : decode cX11_farthest 57 = .ok (.aload_n 0, 1) := by decide +kernel
theorem dX11_farthest_58 : decode cX11_farthest 58 = .ok (.getfield 9, 3) := by decide +kernel
theorem dX11_farthest_61 : decode cX11_farthest 61 = .ok (.iconst 2, 1) := by decide +kernel
theorem dX11_farthest_62 : decode cX11_farthest 62 = .ok (.iaload, 1) := by decide +kernel
theorem dX11_farthest_63 : decode cX11_farthest 63 = .ok (.if_icmp .ge 36, 3) := by decide +kernel
theorem dX11_farthest_66 : decode cX11_farthest 66 = .ok (.aload_n 0, 1) := by decide +kernel
theorem dX11_farthest_67 : decode cX11_farthest 67 = .ok (.iload 7, 2) := by decide +kernel
theorem dX11_farthest_69 : decode cX11_farthest 69 = .ok (.iconst 4, 1) := by decide +kernel
theorem dX11_farthest_70 : decode cX11_farthest 70 = .ok (.invokevirtual 51, 3) := by decide +kernel
theorem dX11_farthest_73 : decode cX11_farthest 73 = .ok (.iload_n 3, 1) := by decide +kernel
theorem dX11_farthest_74 : decode cX11_farthest 74 = .ok (.if_icmp .le 19, 3) := by decide +kernel
theorem dX11_farthest_77 : decode cX11_farthest 77 = .ok (.aload_n 0, 1) := by decide +kernel
theorem dX11_farthest_78 : decode cX11_farthest 78 = .ok (.iload 7, 2) := by decide +kernel
theorem dX11_farthest_80 : decode cX11_farthest 80 = .ok (.iconst 4, 1) := by decide +kernel
theorem dX11_farthest_81 : decode cX11_farthest 81 = .ok (.invokevirtual 51, 3) := by decide +kernel
theorem dX11_farthest_84 : decode cX11_farthest 84 = .ok (.istore_n 3, 1) := by decide +kernel
theorem dX11_farthest_85 : decode cX11_farthest 85 = .ok (.iload 7, 2) := by decide +kernel
theorem dX11_farthest_87 : decode cX11_farthest 87 = .ok (.istore 4, 2) := by decide +kernel
theorem dX11_farthest_89 : decode cX11_farthest 89 = .ok (.iload 6, 2) := by decide +kernel
theorem dX11_farthest_91 : decode cX11_farthest 91 = .ok (.istore 5, 2) := by decide +kernel
theorem dX11_farthest_93 : decode cX11_farthest 93 = .ok (.iinc 7 1, 3) := by decide +kernel
theorem dX11_farthest_96 : decode cX11_farthest 96 = .ok (.goto (-41), 3) := by decide +kernel
theorem dX11_farthest_99 : decode cX11_farthest 99 = .ok (.iinc 6 1, 3) := by decide +kernel
theorem dX11_farthest_102 : decode cX11_farthest 102 = .ok (.goto (-61), 3) := by decide +kernel
theorem dX11_farthest_105 : decode cX11_farthest 105 = .ok (.aload_n 0, 1) := by decide +kernel
theorem dX11_farthest_106 : decode cX11_farthest 106 = .ok (.invokevirtual 190, 3) := by decide +kernel
theorem dX11_farthest_109 : decode cX11_farthest 109 = .ok (.iload_n 2, 1) := by decide +kernel
theorem dX11_farthest_110 : decode cX11_farthest 110 = .ok (.ifCond .ne 7, 3) := by decide +kernel
theorem dX11_farthest_113 : decode cX11_farthest 113 = .ok (.iload_n 3, 1) := by decide +kernel
theorem dX11_farthest_114 : decode cX11_farthest 114 = .ok (.goto 15, 3) := by decide +kernel
theorem dX11_farthest_117 : decode cX11_farthest 117 = .ok (.iload_n 2, 1) := by decide +kernel
theorem dX11_farthest_118 : decode cX11_farthest 118 = .ok (.iconst 1, 1) := by decide +kernel
theorem dX11_farthest_119 : decode cX11_farthest 119 = .ok (.if_icmp .ne 8, 3) := by decide +kernel
theorem dX11_farthest_122 : decode cX11_farthest 122 = .ok (.iload 4, 2) := by decide +kernel
theorem dX11_farthest_124 : decode cX11_farthest 124 = .ok (.goto 5, 3) := by decide +kernel
theorem dX11_farthest_127 : decode cX11_farthest 127 = .ok (.iload 5, 2) := by decide +kernel
theorem dX11_farthest_129 : decode cX11_farthest 129 = .ok (.ireturn, 1) := by decide +kernel
set_option maxRecDepth 20000 in
theorem ggX11_isCalm_X11_pullOf : GoodIn wsX11_isCalm wsX11_pullOf := goodIn_r _ [6, 1, 7, 8, 9, 5, 10, 11, 12, 13, 14, 15, 16, 17, 18, 19, 67, 68, 69, 70, 71, 72, 73, 74, 75, 76, 77, 78, 79, 80, 81, 82, 83, 84, 85, 86] (by decide +kernel) (by decide +kernel)
set_option maxRecDepth 20000 in
theorem gX11_isCalm_X11_pullOf : GoodIn wsX11_isCalm (wsV RX11 167 RX11 yX11_pullOf wsX11_pullOf) := goodIn_app (goodIn_of _ (by decide +kernel)) ggX11_isCalm_X11_pullOf
set_option maxRecDepth 20000 in
theorem ggX11_isCalm_X11_goes : GoodIn wsX11_isCalm wsX11_goes := goodIn_r _ [23, 1, 24, 25, 26, 5, 27, 28, 29, 30, 31, 32, 33, 34, 35, 36, 37, 38, 39, 40, 41, 42, 43, 44, 45, 46, 47, 48, 49, 50, 51, 52, 53, 54, 55, 56, 57, 58, 7, 8, 9, 10, 11, 12, 13, 14, 15, 16, 17, 18, 19, 67, 68, 69, 70, 71, 72, 73, 74, 75, 76, 77, 78, 79, 80, 81, 82, 83, 84, 85, 86] (by decide +kernel) (by decide +kernel)
set_option maxRecDepth 20000 in
theorem gX11_isCalm_X11_goes : GoodIn wsX11_isCalm (wsV RX11 170 RX11 yX11_goes wsX11_goes) := goodIn_app (goodIn_of _ (by decide +kernel)) ggX11_isCalm_X11_goes
set_option maxRecDepth 20000 in
theorem ggX11_isCalm_X11_of : GoodIn wsX11_isCalm wsX11_of := goodIn_r _ [31, 1, 67, 68, 69, 70, 71, 72, 73, 74, 75, 76, 77, 78, 79, 80, 81, 82, 83, 84, 85, 86] (by decide +kernel) (by decide +kernel)
set_option maxRecDepth 20000 in
theorem gX11_isCalm_X11_of : GoodIn wsX11_isCalm (wsV RX11 51 RX11 yX11_of wsX11_of) := goodIn_app (goodIn_of _ (by decide +kernel)) ggX11_isCalm_X11_of
set_option maxRecDepth 20000 in
theorem ggX11_isCalm_X11_putsBack : GoodIn wsX11_isCalm wsX11_putsBack := goodIn_r _ [62, 63, 1, 64, 65, 5, 66, 67, 68, 69, 70, 71, 72, 73, 74, 75, 76, 77, 78, 79, 80, 81, 82, 83, 84, 85, 86] (by decide +kernel) (by decide +kernel)
set_option maxRecDepth 20000 in
theorem gX11_isCalm_X11_putsBack : GoodIn wsX11_isCalm (wsV RX11 190 RX11 yX11_putsBack wsX11_putsBack) := goodIn_app (goodIn_of _ (by decide +kernel)) ggX11_isCalm_X11_putsBack
theorem dX11_isCalm_0 : decode cX11_isCalm 0 = .ok (.iconst 1, 1) := by decide +kernel
theorem dX11_isCalm_1 : decode cX11_isCalm 1 = .ok (.istore 4, 2) := by decide +kernel
theorem dX11_isCalm_3 : decode cX11_isCalm 3 = .ok (.iconst 0, 1) := by decide +kernel
theorem dX11_isCalm_4 : decode cX11_isCalm 4 = .ok (.istore 5, 2) := by decide +kernel
theorem dX11_isCalm_6 : decode cX11_isCalm 6 = .ok (.iload 5, 2) := by decide +kernel
theorem dX11_isCalm_8 : decode cX11_isCalm 8 = .ok (.iload_n 2, 1) := by decide +kernel
theorem dX11_isCalm_9 : decode cX11_isCalm 9 = .ok (.if_icmp .ge 72, 3) := by decide +kernel
theorem dX11_isCalm_12 : decode cX11_isCalm 12 = .ok (.iload 4, 2) := by decide +kernel
theorem dX11_isCalm_14 : decode cX11_isCalm 14 = .ok (.ifCond .eq 67, 3) := by decide +kernel
theorem dX11_isCalm_17 : decode cX11_isCalm 17 = .ok (.aload_n 0, 1) := by decide +kernel
theorem dX11_isCalm_18 : decode cX11_isCalm 18 = .ok (.aload_n 0, 1) := by decide +kernel
theorem dX11_isCalm_19 : decode cX11_isCalm 19 = .ok (.aload_n 0, 1) := by decide +kernel
theorem dX11_isCalm_20 : decode cX11_isCalm 20 = .ok (.getfield 9, 3) := by decide +kernel
theorem dX11_isCalm_23 : decode cX11_isCalm 23 = .ok (.iconst 0, 1) := by decide +kernel
theorem dX11_isCalm_24 : decode cX11_isCalm 24 = .ok (.iaload, 1) := by decide +kernel
theorem dX11_isCalm_25 : decode cX11_isCalm 25 = .ok (.invokevirtual 167, 3) := by decide +kernel
theorem dX11_isCalm_28 : decode cX11_isCalm 28 = .ok (.iload_n 1, 1) := by decide +kernel
theorem dX11_isCalm_29 : decode cX11_isCalm 29 = .ok (.invokevirtual 170, 3) := by decide +kernel
theorem dX11_isCalm_32 : decode cX11_isCalm 32 = .ok (.iconst 0, 1) := by decide +kernel
theorem dX11_isCalm_33 : decode cX11_isCalm 33 = .ok (.istore 6, 2) := by decide +kernel
theorem dX11_isCalm_35 : decode cX11_isCalm 35 = .ok (.iload 6, 2) := by decide +kernel
theorem dX11_isCalm_37 : decode cX11_isCalm 37 = .ok (.aload_n 0, 1) := by decide +kernel
theorem dX11_isCalm_38 : decode cX11_isCalm 38 = .ok (.getfield 9, 3) := by decide +kernel
theorem dX11_isCalm_41 : decode cX11_isCalm 41 = .ok (.iconst 2, 1) := by decide +kernel
theorem dX11_isCalm_42 : decode cX11_isCalm 42 = .ok (.iaload, 1) := by decide +kernel
theorem dX11_isCalm_43 : decode cX11_isCalm 43 = .ok (.if_icmp .ge 32, 3) := by decide +kernel
theorem dX11_isCalm_46 : decode cX11_isCalm 46 = .ok (.iload 4, 2) := by decide +kernel
theorem dX11_isCalm_48 : decode cX11_isCalm 48 = .ok (.ifCond .eq 18, 3) := by decide +kernel
theorem dX11_isCalm_51 : decode cX11_isCalm 51 = .ok (.aload_n 0, 1) := by decide +kernel
theorem dX11_isCalm_52 : decode cX11_isCalm 52 = .ok (.iload 6, 2) := by decide +kernel
theorem dX11_isCalm_54 : decode cX11_isCalm 54 = .ok (.iconst 4, 1) := by decide +kernel
theorem dX11_isCalm_55 : decode cX11_isCalm 55 = .ok (.invokevirtual 51, 3) := by decide +kernel
theorem dX11_isCalm_58 : decode cX11_isCalm 58 = .ok (.iload_n 3, 1) := by decide +kernel
theorem dX11_isCalm_59 : decode cX11_isCalm 59 = .ok (.if_icmp .gt 7, 3) := by decide +kernel
theorem dX11_isCalm_62 : decode cX11_isCalm 62 = .ok (.iconst 1, 1) := by decide +kernel
theorem dX11_isCalm_63 : decode cX11_isCalm 63 = .ok (.goto 4, 3) := by decide +kernel
theorem dX11_isCalm_66 : decode cX11_isCalm 66 = .ok (.iconst 0, 1) := by decide +kernel
theorem dX11_isCalm_67 : decode cX11_isCalm 67 = .ok (.istore 4, 2) := by decide +kernel
theorem dX11_isCalm_69 : decode cX11_isCalm 69 = .ok (.iinc 6 1, 3) := by decide +kernel
theorem dX11_isCalm_72 : decode cX11_isCalm 72 = .ok (.goto (-37), 3) := by decide +kernel
theorem dX11_isCalm_75 : decode cX11_isCalm 75 = .ok (.iinc 5 1, 3) := by decide +kernel
theorem dX11_isCalm_78 : decode cX11_isCalm 78 = .ok (.goto (-72), 3) := by decide +kernel
theorem dX11_isCalm_81 : decode cX11_isCalm 81 = .ok (.aload_n 0, 1) := by decide +kernel
theorem dX11_isCalm_82 : decode cX11_isCalm 82 = .ok (.invokevirtual 190, 3) := by decide +kernel
theorem dX11_isCalm_85 : decode cX11_isCalm 85 = .ok (.iload 4, 2) := by decide +kernel
theorem dX11_isCalm_87 : decode cX11_isCalm 87 = .ok (.ireturn, 1) := by decide +kernel
theorem dX11_bits_0 : decode cX11_bits 0 = .ok (.iconst 0, 1) := by decide +kernel
theorem dX11_bits_1 : decode cX11_bits 1 = .ok (.istore_n 1, 1) := by decide +kernel
theorem dX11_bits_2 : decode cX11_bits 2 = .ok (.iload_n 0, 1) := by decide +kernel
theorem dX11_bits_3 : decode cX11_bits 3 = .ok (.istore_n 2, 1) := by decide +kernel
theorem dX11_bits_4 : decode cX11_bits 4 = .ok (.iload_n 2, 1) := by decide +kernel
theorem dX11_bits_5 : decode cX11_bits 5 = .ok (.ifCond .eq 15, 3) := by decide +kernel
theorem dX11_bits_8 : decode cX11_bits 8 = .ok (.iinc 1 1, 3) := by decide +kernel
theorem dX11_bits_11 : decode cX11_bits 11 = .ok (.iload_n 2, 1) := by decide +kernel
theorem dX11_bits_12 : decode cX11_bits 12 = .ok (.iload_n 2, 1) := by decide +kernel
theorem dX11_bits_13 : decode cX11_bits 13 = .ok (.iconst 1, 1) := by decide +kernel
theorem dX11_bits_14 : decode cX11_bits 14 = .ok (.isub, 1) := by decide +kernel
theorem dX11_bits_15 : decode cX11_bits 15 = .ok (.iand, 1) := by decide +kernel
theorem dX11_bits_16 : decode cX11_bits 16 = .ok (.istore_n 2, 1) := by decide +kernel
theorem dX11_bits_17 : decode cX11_bits 17 = .ok (.goto (-13), 3) := by decide +kernel
theorem dX11_bits_20 : decode cX11_bits 20 = .ok (.iload_n 1, 1) := by decide +kernel
theorem dX11_bits_21 : decode cX11_bits 21 = .ok (.ireturn, 1) := by decide +kernel
set_option maxRecDepth 20000 in
theorem ggX11_screws_X11_in : GoodIn wsX11_screws wsX11_in := goodIn_r _ [6] (by decide +kernel) (by decide +kernel)
set_option maxRecDepth 20000 in
theorem gX11_screws_X11_in : GoodIn wsX11_screws (va_wsS RX11 47 yX11_in wsX11_in) := goodIn_app (goodIn_of _ (by decide +kernel)) ggX11_screws_X11_in
set_option maxRecDepth 20000 in
theorem ggX11_screws_X11_error : GoodIn wsX11_screws wsX11_error := goodIn_r _ [10, 11, 12, 88, 89, 90, 91, 92, 93, 94, 95, 96, 97, 98, 99, 100, 101, 102, 103, 104, 105, 106, 107] (by decide +kernel) (by decide +kernel)
set_option maxRecDepth 20000 in
theorem gX11_screws_X11_error : GoodIn wsX11_screws (wsV RX11 67 RX11 yX11_error wsX11_error) := goodIn_app (goodIn_of _ (by decide +kernel)) ggX11_screws_X11_error
set_option maxRecDepth 20000 in
theorem ggX11_screws_X11_thinks : GoodIn wsX11_screws wsX11_thinks := goodIn_r _ [16, 2, 17, 18, 19, 5, 20, 88, 89, 90, 91, 92, 93, 94, 95, 96, 97, 98, 99, 100, 101, 102, 103, 104, 105, 106, 107] (by decide +kernel) (by decide +kernel)
set_option maxRecDepth 20000 in
theorem gX11_screws_X11_thinks : GoodIn wsX11_screws (wsV RX11 187 RX11 yX11_thinks wsX11_thinks) := goodIn_app (goodIn_of _ (by decide +kernel)) ggX11_screws_X11_thinks
set_option maxRecDepth 20000 in
theorem ggX11_screws_X11_bits : GoodIn wsX11_screws wsX11_bits := goodIn_r _ [23] (by decide +kernel) (by decide +kernel)
set_option maxRecDepth 20000 in
theorem gX11_screws_X11_bits : GoodIn wsX11_screws (va_wsS RX11 194 yX11_bits wsX11_bits) := goodIn_app (goodIn_of _ (by decide +kernel)) ggX11_screws_X11_bits
set_option maxRecDepth 20000 in
theorem ggX11_screws_X11_isCalm : GoodIn wsX11_screws wsX11_isCalm := goodIn_r _ [27, 2, 28, 29, 30, 5, 31, 32, 33, 34, 35, 36, 37, 38, 39, 40, 41, 42, 43, 44, 45, 46, 47, 48, 49, 50, 51, 52, 53, 54, 55, 56, 57, 58, 59, 60, 61, 62, 63, 64, 65, 66, 67, 68, 69, 70, 71, 72, 73, 74, 75, 76, 77, 78, 79, 80, 81, 82, 83, 84, 85, 86, 87, 17, 18, 19, 20, 88, 89, 90, 91, 92, 93, 94, 95, 96, 97, 98, 99, 100, 101, 102, 103, 104, 105, 106, 107] (by decide +kernel) (by decide +kernel)
set_option maxRecDepth 20000 in
theorem gX11_screws_X11_isCalm : GoodIn wsX11_screws (wsV RX11 197 RX11 yX11_isCalm wsX11_isCalm) := goodIn_app (goodIn_of _ (by decide +kernel)) ggX11_screws_X11_isCalm
theorem dX11_screws_0 : decode cX11_screws 0 = .ok (.iload_n 1, 1) := by decide +kernel
theorem dX11_screws_1 : decode cX11_screws 1 = .ok (.iconst 1, 1) := by decide +kernel
theorem dX11_screws_2 : decode cX11_screws 2 = .ok (.bipush 60, 2) := by decide +kernel
theorem dX11_screws_4 : decode cX11_screws 4 = .ok (.invokestatic 47, 3) := by decide +kernel
theorem dX11_screws_7 : decode cX11_screws 7 = .ok (.ifCond .eq 21, 3) := by decide +kernel
theorem dX11_screws_10 : decode cX11_screws 10 = .ok (.iload_n 2, 1) := by decide +kernel
theorem dX11_screws_11 : decode cX11_screws 11 = .ok (.iconst 0, 1) := by decide +kernel
theorem dX11_screws_12 : decode cX11_screws 12 = .ok (.iconst 5, 1) := by decide +kernel
theorem dX11_screws_13 : decode cX11_screws 13 = .ok (.invokestatic 47, 3) := by decide +kernel
theorem dX11_screws_16 : decode cX11_screws 16 = .ok (.ifCond .eq 12, 3) := by decide +kernel
theorem dX11_screws_19 : decode cX11_screws 19 = .ok (.iload_n 3, 1) := by decide +kernel
theorem dX11_screws_20 : decode cX11_screws 20 = .ok (.iconst 0, 1) := by decide +kernel
theorem dX11_screws_21 : decode cX11_screws 21 = .ok (.iconst 1, 1) := by decide +kernel
theorem dX11_screws_22 : decode cX11_screws 22 = .ok (.invokestatic 47, 3) := by decide +kernel
theorem dX11_screws_25 : decode cX11_screws 25 = .ok (.ifCond .ne 10, 3) := by decide +kernel
theorem dX11_screws_28 : decode cX11_screws 28 = .ok (.aload_n 0, 1) := by decide +kernel
theorem dX11_screws_29 : decode cX11_screws 29 = .ok (.ldc 66, 2) := by decide +kernel
theorem dX11_screws_31 : decode cX11_screws 31 = .ok (.invokevirtual 67, 3) := by decide +kernel
theorem dX11_screws_34 : decode cX11_screws 34 = .ok (.ireturn, 1) := by decide +kernel
theorem dX11_screws_35 : decode cX11_screws 35 = .ok (.aload_n 0, 1) := by decide +kernel
theorem dX11_screws_36 : decode cX11_screws 36 = .ok (.invokevirtual 187, 3) := by decide +kernel
theorem dX11_screws_39 : decode cX11_screws 39 = .ok (.iconst 1, 1) := by decide +kernel
theorem dX11_screws_40 : decode cX11_screws 40 = .ok (.aload_n 0, 1) := by decide +kernel
theorem dX11_screws_41 : decode cX11_screws 41 = .ok (.getfield 9, 3) := by decide +kernel
theorem dX11_screws_44 : decode cX11_screws 44 = .ok (.iconst 2, 1) := by decide +kernel
theorem dX11_screws_45 : decode cX11_screws 45 = .ok (.iaload, 1) := by decide +kernel
theorem dX11_screws_46 : decode cX11_screws 46 = .ok (.ishl, 1) := by decide +kernel
theorem dX11_screws_47 : decode cX11_screws 47 = .ok (.iconst 1, 1) := by decide +kernel
theorem dX11_screws_48 : decode cX11_screws 48 = .ok (.isub, 1) := by decide +kernel
theorem dX11_screws_49 : decode cX11_screws 49 = .ok (.istore 4, 2) := by decide +kernel
theorem dX11_screws_51 : decode cX11_screws 51 = .ok (.iconst 0, 1) := by decide +kernel
theorem dX11_screws_52 : decode cX11_screws 52 = .ok (.istore 5, 2) := by decide +kernel
theorem dX11_screws_54 : decode cX11_screws 54 = .ok (.iload 5, 2) := by decide +kernel
theorem dX11_screws_56 : decode cX11_screws 56 = .ok (.iconst 1, 1) := by decide +kernel
theorem dX11_screws_57 : decode cX11_screws 57 = .ok (.aload_n 0, 1) := by decide +kernel
theorem dX11_screws_58 : decode cX11_screws 58 = .ok (.getfield 9, 3) := by decide +kernel
theorem dX11_screws_61 : decode cX11_screws 61 = .ok (.iconst 2, 1) := by decide +kernel
theorem dX11_screws_62 : decode cX11_screws 62 = .ok (.iaload, 1) := by decide +kernel
theorem dX11_screws_63 : decode cX11_screws 63 = .ok (.ishl, 1) := by decide +kernel
theorem dX11_screws_64 : decode cX11_screws 64 = .ok (.if_icmp .ge 37, 3) := by decide +kernel
theorem dX11_screws_67 : decode cX11_screws 67 = .ok (.iload 5, 2) := by decide +kernel
theorem dX11_screws_69 : decode cX11_screws 69 = .ok (.invokestatic 194, 3) := by decide +kernel
theorem dX11_screws_72 : decode cX11_screws 72 = .ok (.iload 4, 2) := by decide +kernel
theorem dX11_screws_74 : decode cX11_screws 74 = .ok (.invokestatic 194, 3) := by decide +kernel
theorem dX11_screws_77 : decode cX11_screws 77 = .ok (.if_icmp .ge 18, 3) := by decide +kernel
theorem dX11_screws_80 : decode cX11_screws 80 = .ok (.aload_n 0, 1) := by decide +kernel
theorem dX11_screws_81 : decode cX11_screws 81 = .ok (.iload 5, 2) := by decide +kernel
theorem dX11_screws_83 : decode cX11_screws 83 = .ok (.iload_n 1, 1) := by decide +kernel
theorem dX11_screws_84 : decode cX11_screws 84 = .ok (.iload_n 2, 1) := by decide +kernel
theorem dX11_screws_85 : decode cX11_screws 85 = .ok (.invokevirtual 197, 3) := by decide +kernel
theorem dX11_screws_88 : decode cX11_screws 88 = .ok (.ifCond .eq 7, 3) := by decide +kernel
theorem dX11_screws_91 : decode cX11_screws 91 = .ok (.iload 5, 2) := by decide +kernel
theorem dX11_screws_93 : decode cX11_screws 93 = .ok (.istore 4, 2) := by decide +kernel
theorem dX11_screws_95 : decode cX11_screws 95 = .ok (.iinc 5 1, 3) := by decide +kernel
theorem dX11_screws_98 : decode cX11_screws 98 = .ok (.goto (-44), 3) := by decide +kernel
theorem dX11_screws_101 : decode cX11_screws 101 = .ok (.iload_n 3, 1) := by decide +kernel
theorem dX11_screws_102 : decode cX11_screws 102 = .ok (.ifCond .ne 11, 3) := by decide +kernel
theorem dX11_screws_105 : decode cX11_screws 105 = .ok (.iload 4, 2) := by decide +kernel
theorem dX11_screws_107 : decode cX11_screws 107 = .ok (.invokestatic 194, 3) := by decide +kernel
theorem dX11_screws_110 : decode cX11_screws 110 = .ok (.goto 5, 3) := by decide +kernel
theorem dX11_screws_113 : decode cX11_screws 113 = .ok (.iload 4, 2) := by decide +kernel
theorem dX11_screws_115 : decode cX11_screws 115 = .ok (.ireturn, 1) := by decide +kernel
set_option maxRecDepth 20000 in
theorem ggX11_landsFrom_X11_nextTo : GoodIn wsX11_landsFrom wsX11_nextTo := goodIn_r _ [4] (by decide +kernel) (by decide +kernel)
set_option maxRecDepth 20000 in
theorem gX11_landsFrom_X11_nextTo : GoodIn wsX11_landsFrom (va_wsS RX11 155 yX11_nextTo wsX11_nextTo) := goodIn_app (goodIn_of _ (by decide +kernel)) ggX11_landsFrom_X11_nextTo
set_option maxRecDepth 20000 in
theorem ggX11_landsFrom_X11_isWall : GoodIn wsX11_landsFrom wsX11_isWall := goodIn_r _ [8, 9, 10, 11, 12, 13, 14, 15, 16, 17, 18, 19, 20, 21, 22, 23, 24, 25, 26, 27, 28, 29] (by decide +kernel) (by decide +kernel)
set_option maxRecDepth 20000 in
theorem gX11_landsFrom_X11_isWall : GoodIn wsX11_landsFrom (wsV RX11 55 RX11 yX11_isWall wsX11_isWall) := goodIn_app (goodIn_of _ (by decide +kernel)) ggX11_landsFrom_X11_isWall
theorem dX11_landsFrom_0 : decode cX11_landsFrom 0 = .ok (.iload_n 1, 1) := by decide +kernel
theorem dX11_landsFrom_1 : decode cX11_landsFrom 1 = .ok (.istore_n 3, 1) := by decide +kernel
theorem dX11_landsFrom_2 : decode cX11_landsFrom 2 = .ok (.iload_n 3, 1) := by decide +kernel
theorem dX11_landsFrom_3 : decode cX11_landsFrom 3 = .ok (.iload_n 2, 1) := by decide +kernel
theorem dX11_landsFrom_4 : decode cX11_landsFrom 4 = .ok (.invokestatic 155, 3) := by decide +kernel
theorem dX11_landsFrom_7 : decode cX11_landsFrom 7 = .ok (.istore 4, 2) := by decide +kernel
theorem dX11_landsFrom_9 : decode cX11_landsFrom 9 = .ok (.iload 4, 2) := by decide +kernel
theorem dX11_landsFrom_11 : decode cX11_landsFrom 11 = .ok (.ifCond .lt 25, 3) := by decide +kernel
theorem dX11_landsFrom_14 : decode cX11_landsFrom 14 = .ok (.aload_n 0, 1) := by decide +kernel
theorem dX11_landsFrom_15 : decode cX11_landsFrom 15 = .ok (.iload 4, 2) := by decide +kernel
theorem dX11_landsFrom_17 : decode cX11_landsFrom 17 = .ok (.invokevirtual 55, 3) := by decide +kernel
theorem dX11_landsFrom_20 : decode cX11_landsFrom 20 = .ok (.ifCond .ne 16, 3) := by decide +kernel
theorem dX11_landsFrom_23 : decode cX11_landsFrom 23 = .ok (.iload 4, 2) := by decide +kernel
theorem dX11_landsFrom_25 : decode cX11_landsFrom 25 = .ok (.istore_n 3, 1) := by decide +kernel
theorem dX11_landsFrom_26 : decode cX11_landsFrom 26 = .ok (.iload_n 3, 1) := by decide +kernel
theorem dX11_landsFrom_27 : decode cX11_landsFrom 27 = .ok (.iload_n 2, 1) := by decide +kernel
theorem dX11_landsFrom_28 : decode cX11_landsFrom 28 = .ok (.invokestatic 155, 3) := by decide +kernel
theorem dX11_landsFrom_31 : decode cX11_landsFrom 31 = .ok (.istore 4, 2) := by decide +kernel
theorem dX11_landsFrom_33 : decode cX11_landsFrom 33 = .ok (.goto (-24), 3) := by decide +kernel
theorem dX11_landsFrom_36 : decode cX11_landsFrom 36 = .ok (.iload_n 3, 1) := by decide +kernel
theorem dX11_landsFrom_37 : decode cX11_landsFrom 37 = .ok (.ireturn, 1) := by decide +kernel
set_option maxRecDepth 20000 in
theorem ggX11_notRoom_X11_isCell : GoodIn wsX11_notRoom wsX11_isCell := goodIn_r _ [6, 7, 8, 5, 9] (by decide +kernel) (by decide +kernel)
set_option maxRecDepth 20000 in
theorem gX11_notRoom_X11_isCell : GoodIn wsX11_notRoom (va_wsS RX11 63 yX11_isCell wsX11_isCell) := goodIn_app (goodIn_of _ (by decide +kernel)) ggX11_notRoom_X11_isCell
set_option maxRecDepth 20000 in
theorem ggX11_notRoom_X11_isWall : GoodIn wsX11_notRoom wsX11_isWall := goodIn_r _ [13, 14, 15, 16, 17, 18, 19, 20, 21, 22, 23, 24, 25, 26, 27, 28, 29, 30, 31, 32, 33, 34] (by decide +kernel) (by decide +kernel)
set_option maxRecDepth 20000 in
theorem gX11_notRoom_X11_isWall : GoodIn wsX11_notRoom (wsV RX11 55 RX11 yX11_isWall wsX11_isWall) := goodIn_app (goodIn_of _ (by decide +kernel)) ggX11_notRoom_X11_isWall
theorem dX11_notRoom_0 : decode cX11_notRoom 0 = .ok (.iload_n 1, 1) := by decide +kernel
theorem dX11_notRoom_1 : decode cX11_notRoom 1 = .ok (.invokestatic 63, 3) := by decide +kernel
theorem dX11_notRoom_4 : decode cX11_notRoom 4 = .ok (.ifCond .ne 8, 3) := by decide +kernel
theorem dX11_notRoom_7 : decode cX11_notRoom 7 = .ok (.ldc 66, 2) := by decide +kernel
theorem dX11_notRoom_9 : decode cX11_notRoom 9 = .ok (.goto 17, 3) := by decide +kernel
theorem dX11_notRoom_12 : decode cX11_notRoom 12 = .ok (.aload_n 0, 1) := by decide +kernel
theorem dX11_notRoom_13 : decode cX11_notRoom 13 = .ok (.iload_n 1, 1) := by decide +kernel
theorem dX11_notRoom_14 : decode cX11_notRoom 14 = .ok (.invokevirtual 55, 3) := by decide +kernel
theorem dX11_notRoom_17 : decode cX11_notRoom 17 = .ok (.ifCond .eq 8, 3) := by decide +kernel
theorem dX11_notRoom_20 : decode cX11_notRoom 20 = .ok (.ldc 70, 2) := by decide +kernel
theorem dX11_notRoom_22 : decode cX11_notRoom 22 = .ok (.goto 4, 3) := by decide +kernel
theorem dX11_notRoom_25 : decode cX11_notRoom 25 = .ok (.iconst 0, 1) := by decide +kernel
theorem dX11_notRoom_26 : decode cX11_notRoom 26 = .ok (.ireturn, 1) := by decide +kernel
set_option maxRecDepth 20000 in
theorem ggX11_lands_X11_in : GoodIn wsX11_lands wsX11_in := goodIn_r _ [5] (by decide +kernel) (by decide +kernel)
set_option maxRecDepth 20000 in
theorem gX11_lands_X11_in : GoodIn wsX11_lands (va_wsS RX11 47 yX11_in wsX11_in) := goodIn_app (goodIn_of _ (by decide +kernel)) ggX11_lands_X11_in
set_option maxRecDepth 20000 in
theorem ggX11_lands_X11_notRoom : GoodIn wsX11_lands wsX11_notRoom := goodIn_r _ [9, 1, 10, 11, 12, 4, 13, 2, 3, 5, 14, 15, 16, 17, 18, 32, 33, 34, 35, 36, 37, 38, 39, 40, 41, 42, 43, 44, 45, 46, 47, 48, 49, 50, 51] (by decide +kernel) (by decide +kernel)
set_option maxRecDepth 20000 in
theorem gX11_lands_X11_notRoom : GoodIn wsX11_lands (wsV RX11 200 RX11 yX11_notRoom wsX11_notRoom) := goodIn_app (goodIn_of _ (by decide +kernel)) ggX11_lands_X11_notRoom
set_option maxRecDepth 20000 in
theorem ggX11_lands_X11_error : GoodIn wsX11_lands wsX11_error := goodIn_r _ [22, 23, 24, 32, 33, 34, 35, 36, 37, 38, 39, 40, 41, 42, 43, 44, 45, 46, 47, 48, 49, 50, 51] (by decide +kernel) (by decide +kernel)
set_option maxRecDepth 20000 in
theorem gX11_lands_X11_error : GoodIn wsX11_lands (wsV RX11 67 RX11 yX11_error wsX11_error) := goodIn_app (goodIn_of _ (by decide +kernel)) ggX11_lands_X11_error
set_option maxRecDepth 20000 in
theorem ggX11_lands_X11_landsFrom : GoodIn wsX11_lands wsX11_landsFrom := goodIn_r _ [28, 29, 30, 4, 31, 14, 15, 16, 17, 18, 32, 33, 34, 35, 36, 37, 38, 39, 40, 41, 42, 43, 44, 45, 46, 47, 48, 49, 50, 51] (by decide +kernel) (by decide +kernel)
set_option maxRecDepth 20000 in
theorem gX11_lands_X11_landsFrom : GoodIn wsX11_lands (wsV RX11 203 RX11 yX11_landsFrom wsX11_landsFrom) := goodIn_app (goodIn_of _ (by decide +kernel)) ggX11_lands_X11_landsFrom
theorem dX11_lands_0 : decode cX11_lands 0 = .ok (.iload_n 2, 1) := by decide +kernel
theorem dX11_lands_1 : decode cX11_lands 1 = .ok (.iconst 0, 1) := by decide +kernel
theorem dX11_lands_2 : decode cX11_lands 2 = .ok (.iconst 3, 1) := by decide +kernel
theorem dX11_lands_3 : decode cX11_lands 3 = .ok (.invokestatic 47, 3) := by decide +kernel
theorem dX11_lands_6 : decode cX11_lands 6 = .ok (.ifCond .eq 11, 3) := by decide +kernel
theorem dX11_lands_9 : decode cX11_lands 9 = .ok (.aload_n 0, 1) := by decide +kernel
theorem dX11_lands_10 : decode cX11_lands 10 = .ok (.iload_n 1, 1) := by decide +kernel
theorem dX11_lands_11 : decode cX11_lands 11 = .ok (.invokevirtual 200, 3) := by decide +kernel
theorem dX11_lands_14 : decode cX11_lands 14 = .ok (.goto 5, 3) := by decide +kernel
theorem dX11_lands_17 : decode cX11_lands 17 = .ok (.ldc 66, 2) := by decide +kernel
theorem dX11_lands_19 : decode cX11_lands 19 = .ok (.istore_n 3, 1) := by decide +kernel
theorem dX11_lands_20 : decode cX11_lands 20 = .ok (.iload_n 3, 1) := by decide +kernel
theorem dX11_lands_21 : decode cX11_lands 21 = .ok (.ifCond .eq 11, 3) := by decide +kernel
theorem dX11_lands_24 : decode cX11_lands 24 = .ok (.aload_n 0, 1) := by decide +kernel
theorem dX11_lands_25 : decode cX11_lands 25 = .ok (.iload_n 3, 1) := by decide +kernel
theorem dX11_lands_26 : decode cX11_lands 26 = .ok (.invokevirtual 67, 3) := by decide +kernel
theorem dX11_lands_29 : decode cX11_lands 29 = .ok (.goto 9, 3) := by decide +kernel
theorem dX11_lands_32 : decode cX11_lands 32 = .ok (.aload_n 0, 1) := by decide +kernel
theorem dX11_lands_33 : decode cX11_lands 33 = .ok (.iload_n 1, 1) := by decide +kernel
theorem dX11_lands_34 : decode cX11_lands 34 = .ok (.iload_n 2, 1) := by decide +kernel
theorem dX11_lands_35 : decode cX11_lands 35 = .ok (.invokevirtual 203, 3) := by decide +kernel
theorem dX11_lands_38 : decode cX11_lands 38 = .ok (.ireturn, 1) := by decide +kernel
set_option maxRecDepth 20000 in
theorem ggX11_sources_X11_in : GoodIn wsX11_sources wsX11_in := goodIn_r _ [5] (by decide +kernel) (by decide +kernel)
set_option maxRecDepth 20000 in
theorem gX11_sources_X11_in : GoodIn wsX11_sources (va_wsS RX11 47 yX11_in wsX11_in) := goodIn_app (goodIn_of _ (by decide +kernel)) ggX11_sources_X11_in
set_option maxRecDepth 20000 in
theorem ggX11_sources_X11_notRoom : GoodIn wsX11_sources wsX11_notRoom := goodIn_r _ [9, 1, 10, 11, 12, 4, 13, 2, 3, 5, 14, 15, 16, 17, 18, 32, 33, 34, 35, 36, 37, 38, 39, 40, 41, 42, 43, 44, 45, 46, 47, 48, 49, 50, 51] (by decide +kernel) (by decide +kernel)
set_option maxRecDepth 20000 in
theorem gX11_sources_X11_notRoom : GoodIn wsX11_sources (wsV RX11 200 RX11 yX11_notRoom wsX11_notRoom) := goodIn_app (goodIn_of _ (by decide +kernel)) ggX11_sources_X11_notRoom
set_option maxRecDepth 20000 in
theorem ggX11_sources_X11_error : GoodIn wsX11_sources wsX11_error := goodIn_r _ [22, 23, 24, 32, 33, 34, 35, 36, 37, 38, 39, 40, 41, 42, 43, 44, 45, 46, 47, 48, 49, 50, 51] (by decide +kernel) (by decide +kernel)
set_option maxRecDepth 20000 in
theorem gX11_sources_X11_error : GoodIn wsX11_sources (wsV RX11 67 RX11 yX11_error wsX11_error) := goodIn_app (goodIn_of _ (by decide +kernel)) ggX11_sources_X11_error
set_option maxRecDepth 20000 in
theorem ggX11_sources_X11_isWall : GoodIn wsX11_sources wsX11_isWall := goodIn_r _ [17, 18, 32, 33, 34, 35, 36, 37, 38, 39, 40, 41, 42, 43, 44, 45, 46, 47, 48, 49, 50, 51] (by decide +kernel) (by decide +kernel)
set_option maxRecDepth 20000 in
theorem gX11_sources_X11_isWall : GoodIn wsX11_sources (wsV RX11 55 RX11 yX11_isWall wsX11_isWall) := goodIn_app (goodIn_of _ (by decide +kernel)) ggX11_sources_X11_isWall
set_option maxRecDepth 20000 in
theorem ggX11_sources_X11_landsFrom : GoodIn wsX11_sources wsX11_landsFrom := goodIn_r _ [28, 29, 30, 4, 31, 14, 15, 16, 17, 18, 32, 33, 34, 35, 36, 37, 38, 39, 40, 41, 42, 43, 44, 45, 46, 47, 48, 49, 50, 51] (by decide +kernel) (by decide +kernel)
set_option maxRecDepth 20000 in
theorem gX11_sources_X11_landsFrom : GoodIn wsX11_sources (wsV RX11 203 RX11 yX11_landsFrom wsX11_landsFrom) := goodIn_app (goodIn_of _ (by decide +kernel)) ggX11_sources_X11_landsFrom
theorem dX11_sources_0 : decode cX11_sources 0 = .ok (.iload_n 2, 1) := by decide +kernel
theorem dX11_sources_1 : decode cX11_sources 1 = .ok (.iconst 0, 1) := by decide +kernel
theorem dX11_sources_2 : decode cX11_sources 2 = .ok (.iconst 3, 1) := by decide +kernel
theorem dX11_sources_3 : decode cX11_sources 3 = .ok (.invokestatic 47, 3) := by decide +kernel
theorem dX11_sources_6 : decode cX11_sources 6 = .ok (.ifCond .eq 11, 3) := by decide +kernel
theorem dX11_sources_9 : decode cX11_sources 9 = .ok (.aload_n 0, 1) := by decide +kernel
theorem dX11_sources_10 : decode cX11_sources 10 = .ok (.iload_n 1, 1) := by decide +kernel
theorem dX11_sources_11 : decode cX11_sources 11 = .ok (.invokevirtual 200, 3) := by decide +kernel
theorem dX11_sources_14 : decode cX11_sources 14 = .ok (.goto 5, 3) := by decide +kernel
theorem dX11_sources_17 : decode cX11_sources 17 = .ok (.ldc 66, 2) := by decide +kernel
theorem dX11_sources_19 : decode cX11_sources 19 = .ok (.istore_n 3, 1) := by decide +kernel
theorem dX11_sources_20 : decode cX11_sources 20 = .ok (.iload_n 3, 1) := by decide +kernel
theorem dX11_sources_21 : decode cX11_sources 21 = .ok (.ifCond .eq 10, 3) := by decide +kernel
theorem dX11_sources_24 : decode cX11_sources 24 = .ok (.aload_n 0, 1) := by decide +kernel
theorem dX11_sources_25 : decode cX11_sources 25 = .ok (.iload_n 3, 1) := by decide +kernel
theorem dX11_sources_26 : decode cX11_sources 26 = .ok (.invokevirtual 67, 3) := by decide +kernel
theorem dX11_sources_29 : decode cX11_sources 29 = .ok (.i2l, 1) := by decide +kernel
theorem dX11_sources_30 : decode cX11_sources 30 = .ok (.lreturn, 1) := by decide +kernel
theorem dX11_sources_31 : decode cX11_sources 31 = .ok (.lconst 0, 1) := by decide +kernel
theorem dX11_sources_32 : decode cX11_sources 32 = .ok (.lstore 4, 2) := by decide +kernel
theorem dX11_sources_34 : decode cX11_sources 34 = .ok (.iconst 0, 1) := by decide +kernel
theorem dX11_sources_35 : decode cX11_sources 35 = .ok (.istore 6, 2) := by decide +kernel
theorem dX11_sources_37 : decode cX11_sources 37 = .ok (.iload 6, 2) := by decide +kernel
theorem dX11_sources_39 : decode cX11_sources 39 = .ok (.bipush 36, 2) := by decide +kernel
theorem dX11_sources_41 : decode cX11_sources 41 = .ok (.if_icmp .ge 42, 3) := by decide +kernel
theorem dX11_sources_44 : decode cX11_sources 44 = .ok (.lload 4, 2) := by decide +kernel
theorem dX11_sources_46 : decode cX11_sources 46 = .ok (.aload_n 0, 1) := by decide +kernel
theorem dX11_sources_47 : decode cX11_sources 47 = .ok (.iload 6, 2) := by decide +kernel
theorem dX11_sources_49 : decode cX11_sources 49 = .ok (.invokevirtual 55, 3) := by decide +kernel
theorem dX11_sources_52 : decode cX11_sources 52 = .ok (.ifCond .ne 21, 3) := by decide +kernel
theorem dX11_sources_55 : decode cX11_sources 55 = .ok (.aload_n 0, 1) := by decide +kernel
theorem dX11_sources_56 : decode cX11_sources 56 = .ok (.iload 6, 2) := by decide +kernel
theorem dX11_sources_58 : decode cX11_sources 58 = .ok (.iload_n 2, 1) := by decide +kernel
theorem dX11_sources_59 : decode cX11_sources 59 = .ok (.invokevirtual 203, 3) := by decide +kernel
theorem dX11_sources_62 : decode cX11_sources 62 = .ok (.iload_n 1, 1) := by decide +kernel
theorem dX11_sources_63 : decode cX11_sources 63 = .ok (.if_icmp .ne 10, 3) := by decide +kernel
theorem dX11_sources_66 : decode cX11_sources 66 = .ok (.lconst 1, 1) := by decide +kernel
theorem dX11_sources_67 : decode cX11_sources 67 = .ok (.iload 6, 2) := by decide +kernel
theorem dX11_sources_69 : decode cX11_sources 69 = .ok (.lshl, 1) := by decide +kernel
theorem dX11_sources_70 : decode cX11_sources 70 = .ok (.goto 4, 3) := by decide +kernel
theorem dX11_sources_73 : decode cX11_sources 73 = .ok (.lconst 0, 1) := by decide +kernel
theorem dX11_sources_74 : decode cX11_sources 74 = .ok (.lor, 1) := by decide +kernel
theorem dX11_sources_75 : decode cX11_sources 75 = .ok (.lstore 4, 2) := by decide +kernel
theorem dX11_sources_77 : decode cX11_sources 77 = .ok (.iinc 6 1, 3) := by decide +kernel
theorem dX11_sources_80 : decode cX11_sources 80 = .ok (.goto (-43), 3) := by decide +kernel
theorem dX11_sources_83 : decode cX11_sources 83 = .ok (.lload 4, 2) := by decide +kernel
theorem dX11_sources_85 : decode cX11_sources 85 = .ok (.lreturn, 1) := by decide +kernel
set_option maxRecDepth 20000 in
theorem ggX11_onward_X11_landsFrom : GoodIn wsX11_onward wsX11_landsFrom := goodIn_r _ [5, 6, 7, 4, 8, 9, 10, 11, 12, 13, 14, 15, 16, 17, 18, 19, 20, 21, 22, 23, 24, 25, 26, 27, 28, 29, 30, 31, 32, 33] (by decide +kernel) (by decide +kernel)
set_option maxRecDepth 20000 in
theorem gX11_onward_X11_landsFrom : GoodIn wsX11_onward (wsV RX11 203 RX11 yX11_landsFrom wsX11_landsFrom) := goodIn_app (goodIn_of _ (by decide +kernel)) ggX11_onward_X11_landsFrom
theorem dX11_onward_0 : decode cX11_onward 0 = .ok (.lload_n 1, 1) := by decide +kernel
theorem dX11_onward_1 : decode cX11_onward 1 = .ok (.lstore 4, 2) := by decide +kernel
theorem dX11_onward_3 : decode cX11_onward 3 = .ok (.iconst 0, 1) := by decide +kernel
theorem dX11_onward_4 : decode cX11_onward 4 = .ok (.istore 6, 2) := by decide +kernel
theorem dX11_onward_6 : decode cX11_onward 6 = .ok (.iload 6, 2) := by decide +kernel
theorem dX11_onward_8 : decode cX11_onward 8 = .ok (.bipush 36, 2) := by decide +kernel
theorem dX11_onward_10 : decode cX11_onward 10 = .ok (.if_icmp .ge 38, 3) := by decide +kernel
theorem dX11_onward_13 : decode cX11_onward 13 = .ok (.lload 4, 2) := by decide +kernel
theorem dX11_onward_15 : decode cX11_onward 15 = .ok (.lload_n 1, 1) := by decide +kernel
theorem dX11_onward_16 : decode cX11_onward 16 = .ok (.iload 6, 2) := by decide +kernel
theorem dX11_onward_18 : decode cX11_onward 18 = .ok (.lshr, 1) := by decide +kernel
theorem dX11_onward_19 : decode cX11_onward 19 = .ok (.lconst 1, 1) := by decide +kernel
theorem dX11_onward_20 : decode cX11_onward 20 = .ok (.land, 1) := by decide +kernel
theorem dX11_onward_21 : decode cX11_onward 21 = .ok (.lconst 1, 1) := by decide +kernel
theorem dX11_onward_22 : decode cX11_onward 22 = .ok (.lcmp, 1) := by decide +kernel
theorem dX11_onward_23 : decode cX11_onward 23 = .ok (.ifCond .ne 15, 3) := by decide +kernel
theorem dX11_onward_26 : decode cX11_onward 26 = .ok (.lconst 1, 1) := by decide +kernel
theorem dX11_onward_27 : decode cX11_onward 27 = .ok (.aload_n 0, 1) := by decide +kernel
theorem dX11_onward_28 : decode cX11_onward 28 = .ok (.iload 6, 2) := by decide +kernel
theorem dX11_onward_30 : decode cX11_onward 30 = .ok (.iload_n 3, 1) := by decide +kernel
theorem dX11_onward_31 : decode cX11_onward 31 = .ok (.invokevirtual 203, 3) := by decide +kernel
theorem dX11_onward_34 : decode cX11_onward 34 = .ok (.lshl, 1) := by decide +kernel
theorem dX11_onward_35 : decode cX11_onward 35 = .ok (.goto 4, 3) := by decide +kernel
theorem dX11_onward_38 : decode cX11_onward 38 = .ok (.lconst 0, 1) := by decide +kernel
theorem dX11_onward_39 : decode cX11_onward 39 = .ok (.lor, 1) := by decide +kernel
theorem dX11_onward_40 : decode cX11_onward 40 = .ok (.lstore 4, 2) := by decide +kernel
theorem dX11_onward_42 : decode cX11_onward 42 = .ok (.iinc 6 1, 3) := by decide +kernel
theorem dX11_onward_45 : decode cX11_onward 45 = .ok (.goto (-39), 3) := by decide +kernel
theorem dX11_onward_48 : decode cX11_onward 48 = .ok (.lload 4, 2) := by decide +kernel
theorem dX11_onward_50 : decode cX11_onward 50 = .ok (.lreturn, 1) := by decide +kernel
set_option maxRecDepth 20000 in
theorem ggX11_rooms_X11_in : GoodIn wsX11_rooms wsX11_in := goodIn_r _ [6] (by decide +kernel) (by decide +kernel)
set_option maxRecDepth 20000 in
theorem gX11_rooms_X11_in : GoodIn wsX11_rooms (va_wsS RX11 47 yX11_in wsX11_in) := goodIn_app (goodIn_of _ (by decide +kernel)) ggX11_rooms_X11_in
set_option maxRecDepth 20000 in
theorem ggX11_rooms_X11_notRoom : GoodIn wsX11_rooms wsX11_notRoom := goodIn_r _ [10, 1, 11, 12, 13, 5, 14, 3, 4, 6, 15, 16, 17, 18, 2, 53, 54, 55, 56, 57, 58, 59, 60, 61, 62, 63, 64, 65, 66, 67, 68, 69, 70, 71, 72] (by decide +kernel) (by decide +kernel)
set_option maxRecDepth 20000 in
theorem gX11_rooms_X11_notRoom : GoodIn wsX11_rooms (wsV RX11 200 RX11 yX11_notRoom wsX11_notRoom) := goodIn_app (goodIn_of _ (by decide +kernel)) ggX11_rooms_X11_notRoom
set_option maxRecDepth 20000 in
theorem ggX11_rooms_X11_error : GoodIn wsX11_rooms wsX11_error := goodIn_r _ [22, 23, 24, 53, 54, 55, 56, 57, 58, 59, 60, 61, 62, 63, 64, 65, 66, 67, 68, 69, 70, 71, 72] (by decide +kernel) (by decide +kernel)
set_option maxRecDepth 20000 in
theorem gX11_rooms_X11_error : GoodIn wsX11_rooms (wsV RX11 67 RX11 yX11_error wsX11_error) := goodIn_app (goodIn_of _ (by decide +kernel)) ggX11_rooms_X11_error
set_option maxRecDepth 20000 in
theorem ggX11_rooms_X11_pullOf : GoodIn wsX11_rooms wsX11_pullOf := goodIn_r _ [28, 2, 29, 30, 31, 5, 32, 33, 34, 35, 36, 37, 38, 39, 40, 41, 53, 54, 55, 56, 57, 58, 59, 60, 61, 62, 63, 64, 65, 66, 67, 68, 69, 70, 71, 72] (by decide +kernel) (by decide +kernel)
set_option maxRecDepth 20000 in
theorem gX11_rooms_X11_pullOf : GoodIn wsX11_rooms (wsV RX11 167 RX11 yX11_pullOf wsX11_pullOf) := goodIn_app (goodIn_of _ (by decide +kernel)) ggX11_rooms_X11_pullOf
set_option maxRecDepth 20000 in
theorem ggX11_rooms_X11_onward : GoodIn wsX11_rooms wsX11_onward := goodIn_r _ [45, 46, 47, 48, 5, 49, 50, 51, 52, 15, 16, 17, 18, 2, 53, 54, 55, 56, 57, 58, 59, 60, 61, 62, 63, 64, 65, 66, 67, 68, 69, 70, 71, 72] (by decide +kernel) (by decide +kernel)
set_option maxRecDepth 20000 in
theorem gX11_rooms_X11_onward : GoodIn wsX11_rooms (wsV RX11 206 RX11 yX11_onward wsX11_onward) := goodIn_app (goodIn_of _ (by decide +kernel)) ggX11_rooms_X11_onward
theorem dX11_rooms_0 : decode cX11_rooms 0 = .ok (.iload_n 2, 1) := by decide +kernel
theorem dX11_rooms_1 : decode cX11_rooms 1 = .ok (.iconst 0, 1) := by decide +kernel
theorem dX11_rooms_2 : decode cX11_rooms 2 = .ok (.bipush 100, 2) := by decide +kernel
theorem dX11_rooms_4 : decode cX11_rooms 4 = .ok (.invokestatic 47, 3) := by decide +kernel
theorem dX11_rooms_7 : decode cX11_rooms 7 = .ok (.ifCond .eq 11, 3) := by decide +kernel
theorem dX11_rooms_10 : decode cX11_rooms 10 = .ok (.aload_n 0, 1) := by decide +kernel
theorem dX11_rooms_11 : decode cX11_rooms 11 = .ok (.iload_n 1, 1) := by decide +kernel
theorem dX11_rooms_12 : decode cX11_rooms 12 = .ok (.invokevirtual 200, 3) := by decide +kernel
theorem dX11_rooms_15 : decode cX11_rooms 15 = .ok (.goto 5, 3) := by decide +kernel
theorem dX11_rooms_18 : decode cX11_rooms 18 = .ok (.ldc 66, 2) := by decide +kernel
theorem dX11_rooms_20 : decode cX11_rooms 20 = .ok (.istore_n 3, 1) := by decide +kernel
theorem dX11_rooms_21 : decode cX11_rooms 21 = .ok (.iload_n 3, 1) := by decide +kernel
theorem dX11_rooms_22 : decode cX11_rooms 22 = .ok (.ifCond .eq 10, 3) := by decide +kernel
theorem dX11_rooms_25 : decode cX11_rooms 25 = .ok (.aload_n 0, 1) := by decide +kernel
theorem dX11_rooms_26 : decode cX11_rooms 26 = .ok (.iload_n 3, 1) := by decide +kernel
theorem dX11_rooms_27 : decode cX11_rooms 27 = .ok (.invokevirtual 67, 3) := by decide +kernel
theorem dX11_rooms_30 : decode cX11_rooms 30 = .ok (.i2l, 1) := by decide +kernel
theorem dX11_rooms_31 : decode cX11_rooms 31 = .ok (.lreturn, 1) := by decide +kernel
theorem dX11_rooms_32 : decode cX11_rooms 32 = .ok (.lconst 1, 1) := by decide +kernel
theorem dX11_rooms_33 : decode cX11_rooms 33 = .ok (.iload_n 1, 1) := by decide +kernel
theorem dX11_rooms_34 : decode cX11_rooms 34 = .ok (.lshl, 1) := by decide +kernel
theorem dX11_rooms_35 : decode cX11_rooms 35 = .ok (.lstore 4, 2) := by decide +kernel
theorem dX11_rooms_37 : decode cX11_rooms 37 = .ok (.iconst 0, 1) := by decide +kernel
theorem dX11_rooms_38 : decode cX11_rooms 38 = .ok (.istore 6, 2) := by decide +kernel
theorem dX11_rooms_40 : decode cX11_rooms 40 = .ok (.iload 6, 2) := by decide +kernel
theorem dX11_rooms_42 : decode cX11_rooms 42 = .ok (.iload_n 2, 1) := by decide +kernel
theorem dX11_rooms_43 : decode cX11_rooms 43 = .ok (.if_icmp .ge 30, 3) := by decide +kernel
theorem dX11_rooms_46 : decode cX11_rooms 46 = .ok (.aload_n 0, 1) := by decide +kernel
theorem dX11_rooms_47 : decode cX11_rooms 47 = .ok (.lload 4, 2) := by decide +kernel
theorem dX11_rooms_49 : decode cX11_rooms 49 = .ok (.aload_n 0, 1) := by decide +kernel
theorem dX11_rooms_50 : decode cX11_rooms 50 = .ok (.aload_n 0, 1) := by decide +kernel
theorem dX11_rooms_51 : decode cX11_rooms 51 = .ok (.getfield 9, 3) := by decide +kernel
theorem dX11_rooms_54 : decode cX11_rooms 54 = .ok (.iconst 0, 1) := by decide +kernel
theorem dX11_rooms_55 : decode cX11_rooms 55 = .ok (.iaload, 1) := by decide +kernel
theorem dX11_rooms_56 : decode cX11_rooms 56 = .ok (.iload 6, 2) := by decide +kernel
theorem dX11_rooms_58 : decode cX11_rooms 58 = .ok (.iadd, 1) := by decide +kernel
theorem dX11_rooms_59 : decode cX11_rooms 59 = .ok (.invokevirtual 167, 3) := by decide +kernel
theorem dX11_rooms_62 : decode cX11_rooms 62 = .ok (.invokevirtual 206, 3) := by decide +kernel
theorem dX11_rooms_65 : decode cX11_rooms 65 = .ok (.lstore 4, 2) := by decide +kernel
theorem dX11_rooms_67 : decode cX11_rooms 67 = .ok (.iinc 6 1, 3) := by decide +kernel
theorem dX11_rooms_70 : decode cX11_rooms 70 = .ok (.goto (-30), 3) := by decide +kernel
theorem dX11_rooms_73 : decode cX11_rooms 73 = .ok (.lload 4, 2) := by decide +kernel
theorem dX11_rooms_75 : decode cX11_rooms 75 = .ok (.lreturn, 1) := by decide +kernel
set_option maxRecDepth 20000 in
theorem ggX11_soonestOf_X11_pullOf : GoodIn wsX11_soonestOf wsX11_pullOf := goodIn_r _ [6, 1, 7, 8, 9, 5, 10, 11, 12, 13, 14, 15, 16, 17, 18, 19, 35, 36, 37, 38, 39, 40, 41, 42, 43, 44, 45, 46, 47, 48, 49, 50, 51, 52, 53, 54] (by decide +kernel) (by decide +kernel)
set_option maxRecDepth 20000 in
theorem gX11_soonestOf_X11_pullOf : GoodIn wsX11_soonestOf (wsV RX11 167 RX11 yX11_pullOf wsX11_pullOf) := goodIn_app (goodIn_of _ (by decide +kernel)) ggX11_soonestOf_X11_pullOf
set_option maxRecDepth 20000 in
theorem ggX11_soonestOf_X11_onward : GoodIn wsX11_soonestOf wsX11_onward := goodIn_r _ [23, 24, 25, 26, 5, 27, 28, 29, 30, 31, 32, 33, 34, 1, 35, 36, 37, 38, 39, 40, 41, 42, 43, 44, 45, 46, 47, 48, 49, 50, 51, 52, 53, 54] (by decide +kernel) (by decide +kernel)
set_option maxRecDepth 20000 in
theorem gX11_soonestOf_X11_onward : GoodIn wsX11_soonestOf (wsV RX11 206 RX11 yX11_onward wsX11_onward) := goodIn_app (goodIn_of _ (by decide +kernel)) ggX11_soonestOf_X11_onward
theorem dX11_soonestOf_0 : decode cX11_soonestOf 0 = .ok (.lconst 1, 1) := by decide +kernel
theorem dX11_soonestOf_1 : decode cX11_soonestOf 1 = .ok (.iload_n 1, 1) := by decide +kernel
theorem dX11_soonestOf_2 : decode cX11_soonestOf 2 = .ok (.lshl, 1) := by decide +kernel
theorem dX11_soonestOf_3 : decode cX11_soonestOf 3 = .ok (.lstore_n 3, 1) := by decide +kernel
theorem dX11_soonestOf_4 : decode cX11_soonestOf 4 = .ok (.iconst 0, 1) := by decide +kernel
theorem dX11_soonestOf_5 : decode cX11_soonestOf 5 = .ok (.istore 5, 2) := by decide +kernel
theorem dX11_soonestOf_7 : decode cX11_soonestOf 7 = .ok (.iload 5, 2) := by decide +kernel
theorem dX11_soonestOf_9 : decode cX11_soonestOf 9 = .ok (.bipush 100, 2) := by decide +kernel
theorem dX11_soonestOf_11 : decode cX11_soonestOf 11 = .ok (.if_icmp .gt 38, 3) := by decide +kernel
theorem dX11_soonestOf_14 : decode cX11_soonestOf 14 = .ok (.lload_n 3, 1) := by decide +kernel
theorem dX11_soonestOf_15 : decode cX11_soonestOf 15 = .ok (.iload_n 2, 1) := by decide +kernel
theorem dX11_soonestOf_16 : decode cX11_soonestOf 16 = .ok (.lshr, 1) := by decide +kernel
theorem dX11_soonestOf_17 : decode cX11_soonestOf 17 = .ok (.lconst 1, 1) := by decide +kernel
theorem dX11_soonestOf_18 : decode cX11_soonestOf 18 = .ok (.land, 1) := by decide +kernel
theorem dX11_soonestOf_19 : decode cX11_soonestOf 19 = .ok (.lconst 0, 1) := by decide +kernel
theorem dX11_soonestOf_20 : decode cX11_soonestOf 20 = .ok (.lcmp, 1) := by decide +kernel
theorem dX11_soonestOf_21 : decode cX11_soonestOf 21 = .ok (.ifCond .ne 28, 3) := by decide +kernel
theorem dX11_soonestOf_24 : decode cX11_soonestOf 24 = .ok (.aload_n 0, 1) := by decide +kernel
theorem dX11_soonestOf_25 : decode cX11_soonestOf 25 = .ok (.lload_n 3, 1) := by decide +kernel
theorem dX11_soonestOf_26 : decode cX11_soonestOf 26 = .ok (.aload_n 0, 1) := by decide +kernel
theorem dX11_soonestOf_27 : decode cX11_soonestOf 27 = .ok (.aload_n 0, 1) := by decide +kernel
theorem dX11_soonestOf_28 : decode cX11_soonestOf 28 = .ok (.getfield 9, 3) := by decide +kernel
theorem dX11_soonestOf_31 : decode cX11_soonestOf 31 = .ok (.iconst 0, 1) := by decide +kernel
theorem dX11_soonestOf_32 : decode cX11_soonestOf 32 = .ok (.iaload, 1) := by decide +kernel
theorem dX11_soonestOf_33 : decode cX11_soonestOf 33 = .ok (.iload 5, 2) := by decide +kernel
theorem dX11_soonestOf_35 : decode cX11_soonestOf 35 = .ok (.iadd, 1) := by decide +kernel
theorem dX11_soonestOf_36 : decode cX11_soonestOf 36 = .ok (.invokevirtual 167, 3) := by decide +kernel
theorem dX11_soonestOf_39 : decode cX11_soonestOf 39 = .ok (.invokevirtual 206, 3) := by decide +kernel
theorem dX11_soonestOf_42 : decode cX11_soonestOf 42 = .ok (.lstore_n 3, 1) := by decide +kernel
theorem dX11_soonestOf_43 : decode cX11_soonestOf 43 = .ok (.iinc 5 1, 3) := by decide +kernel
theorem dX11_soonestOf_46 : decode cX11_soonestOf 46 = .ok (.goto (-39), 3) := by decide +kernel
theorem dX11_soonestOf_49 : decode cX11_soonestOf 49 = .ok (.iload 5, 2) := by decide +kernel
theorem dX11_soonestOf_51 : decode cX11_soonestOf 51 = .ok (.ireturn, 1) := by decide +kernel
set_option maxRecDepth 20000 in
theorem ggX11_soonest_X11_isCell : GoodIn wsX11_soonest wsX11_isCell := goodIn_r _ [6, 7, 8, 5, 9] (by decide +kernel) (by decide +kernel)
set_option maxRecDepth 20000 in
theorem gX11_soonest_X11_isCell : GoodIn wsX11_soonest (va_wsS RX11 63 yX11_isCell wsX11_isCell) := goodIn_app (goodIn_of _ (by decide +kernel)) ggX11_soonest_X11_isCell
set_option maxRecDepth 20000 in
theorem ggX11_soonest_X11_notRoom : GoodIn wsX11_soonest wsX11_notRoom := goodIn_r _ [13, 1, 14, 3, 4, 5, 6, 7, 8, 9, 15, 16, 17, 18, 19, 58, 59, 60, 61, 62, 63, 64, 65, 66, 67, 68, 69, 70, 71, 72, 73, 74, 75, 76, 77] (by decide +kernel) (by decide +kernel)
set_option maxRecDepth 20000 in
theorem gX11_soonest_X11_notRoom : GoodIn wsX11_soonest (wsV RX11 200 RX11 yX11_notRoom wsX11_notRoom) := goodIn_app (goodIn_of _ (by decide +kernel)) ggX11_soonest_X11_notRoom
set_option maxRecDepth 20000 in
theorem ggX11_soonest_X11_error : GoodIn wsX11_soonest wsX11_error := goodIn_r _ [23, 24, 25, 58, 59, 60, 61, 62, 63, 64, 65, 66, 67, 68, 69, 70, 71, 72, 73, 74, 75, 76, 77] (by decide +kernel) (by decide +kernel)
set_option maxRecDepth 20000 in
theorem gX11_soonest_X11_error : GoodIn wsX11_soonest (wsV RX11 67 RX11 yX11_error wsX11_error) := goodIn_app (goodIn_of _ (by decide +kernel)) ggX11_soonest_X11_error
set_option maxRecDepth 20000 in
theorem ggX11_soonest_X11_soonestOf : GoodIn wsX11_soonest wsX11_soonestOf := goodIn_r _ [29, 19, 30, 31, 32, 5, 33, 34, 35, 36, 37, 38, 39, 40, 41, 42, 43, 44, 45, 46, 47, 48, 49, 50, 51, 52, 53, 54, 55, 56, 57, 15, 16, 17, 18, 58, 59, 60, 61, 62, 63, 64, 65, 66, 67, 68, 69, 70, 71, 72, 73, 74, 75, 76, 77] (by decide +kernel) (by decide +kernel)
set_option maxRecDepth 20000 in
theorem gX11_soonest_X11_soonestOf : GoodIn wsX11_soonest (wsV RX11 210 RX11 yX11_soonestOf wsX11_soonestOf) := goodIn_app (goodIn_of _ (by decide +kernel)) ggX11_soonest_X11_soonestOf
theorem dX11_soonest_0 : decode cX11_soonest 0 = .ok (.iload_n 2, 1) := by decide +kernel
theorem dX11_soonest_1 : decode cX11_soonest 1 = .ok (.invokestatic 63, 3) := by decide +kernel
theorem dX11_soonest_4 : decode cX11_soonest 4 = .ok (.ifCond .eq 11, 3) := by decide +kernel
theorem dX11_soonest_7 : decode cX11_soonest 7 = .ok (.aload_n 0, 1) := by decide +kernel
theorem dX11_soonest_8 : decode cX11_soonest 8 = .ok (.iload_n 1, 1) := by decide +kernel
theorem dX11_soonest_9 : decode cX11_soonest 9 = .ok (.invokevirtual 200, 3) := by decide +kernel
theorem dX11_soonest_12 : decode cX11_soonest 12 = .ok (.goto 5, 3) := by decide +kernel
theorem dX11_soonest_15 : decode cX11_soonest 15 = .ok (.ldc 66, 2) := by decide +kernel
theorem dX11_soonest_17 : decode cX11_soonest 17 = .ok (.istore_n 3, 1) := by decide +kernel
theorem dX11_soonest_18 : decode cX11_soonest 18 = .ok (.iload_n 3, 1) := by decide +kernel
theorem dX11_soonest_19 : decode cX11_soonest 19 = .ok (.ifCond .ne 11, 3) := by decide +kernel
theorem dX11_soonest_22 : decode cX11_soonest 22 = .ok (.aload_n 0, 1) := by decide +kernel
theorem dX11_soonest_23 : decode cX11_soonest 23 = .ok (.iload_n 2, 1) := by decide +kernel
theorem dX11_soonest_24 : decode cX11_soonest 24 = .ok (.invokevirtual 200, 3) := by decide +kernel
theorem dX11_soonest_27 : decode cX11_soonest 27 = .ok (.goto 4, 3) := by decide +kernel
theorem dX11_soonest_30 : decode cX11_soonest 30 = .ok (.iload_n 3, 1) := by decide +kernel
theorem dX11_soonest_31 : decode cX11_soonest 31 = .ok (.istore_n 3, 1) := by decide +kernel
theorem dX11_soonest_32 : decode cX11_soonest 32 = .ok (.iload_n 3, 1) := by decide +kernel
theorem dX11_soonest_33 : decode cX11_soonest 33 = .ok (.ifCond .eq 9, 3) := by decide +kernel
theorem dX11_soonest_36 : decode cX11_soonest 36 = .ok (.aload_n 0, 1) := by decide +kernel
theorem dX11_soonest_37 : decode cX11_soonest 37 = .ok (.iload_n 3, 1) := by decide +kernel
theorem dX11_soonest_38 : decode cX11_soonest 38 = .ok (.invokevirtual 67, 3) := by decide +kernel
theorem dX11_soonest_41 : decode cX11_soonest 41 = .ok (.ireturn, 1) := by decide +kernel
theorem dX11_soonest_42 : decode cX11_soonest 42 = .ok (.aload_n 0, 1) := by decide +kernel
theorem dX11_soonest_43 : decode cX11_soonest 43 = .ok (.iload_n 1, 1) := by decide +kernel
theorem dX11_soonest_44 : decode cX11_soonest 44 = .ok (.iload_n 2, 1) := by decide +kernel
theorem dX11_soonest_45 : decode cX11_soonest 45 = .ok (.invokevirtual 210, 3) := by decide +kernel
theorem dX11_soonest_48 : decode cX11_soonest 48 = .ok (.istore 4, 2) := by decide +kernel
theorem dX11_soonest_50 : decode cX11_soonest 50 = .ok (.iload 4, 2) := by decide +kernel
theorem dX11_soonest_52 : decode cX11_soonest 52 = .ok (.bipush 100, 2) := by decide +kernel
theorem dX11_soonest_54 : decode cX11_soonest 54 = .ok (.if_icmp .le 12, 3) := by decide +kernel
theorem dX11_soonest_57 : decode cX11_soonest 57 = .ok (.aload_n 0, 1) := by decide +kernel
theorem dX11_soonest_58 : decode cX11_soonest 58 = .ok (.ldc 193, 2) := by decide +kernel
theorem dX11_soonest_60 : decode cX11_soonest 60 = .ok (.invokevirtual 67, 3) := by decide +kernel
theorem dX11_soonest_63 : decode cX11_soonest 63 = .ok (.goto 5, 3) := by decide +kernel
theorem dX11_soonest_66 : decode cX11_soonest 66 = .ok (.iload 4, 2) := by decide +kernel
theorem dX11_soonest_68 : decode cX11_soonest 68 = .ok (.ireturn, 1) := by decide +kernel
set_option maxRecDepth 20000 in
theorem ggX11_shut_X11_notRoom : GoodIn wsX11_shut wsX11_notRoom := goodIn_r _ [5, 6, 7, 8, 9, 4, 10, 11, 12, 13, 14, 15, 16, 17, 18, 57, 58, 59, 60, 61, 62, 63, 64, 65, 66, 67, 68, 69, 70, 71, 72, 73, 74, 75, 76] (by decide +kernel) (by decide +kernel)
set_option maxRecDepth 20000 in
theorem gX11_shut_X11_notRoom : GoodIn wsX11_shut (wsV RX11 200 RX11 yX11_notRoom wsX11_notRoom) := goodIn_app (goodIn_of _ (by decide +kernel)) ggX11_shut_X11_notRoom
set_option maxRecDepth 20000 in
theorem ggX11_shut_X11_error : GoodIn wsX11_shut wsX11_error := goodIn_r _ [22, 23, 24, 57, 58, 59, 60, 61, 62, 63, 64, 65, 66, 67, 68, 69, 70, 71, 72, 73, 74, 75, 76] (by decide +kernel) (by decide +kernel)
set_option maxRecDepth 20000 in
theorem gX11_shut_X11_error : GoodIn wsX11_shut (wsV RX11 67 RX11 yX11_error wsX11_error) := goodIn_app (goodIn_of _ (by decide +kernel)) ggX11_shut_X11_error
set_option maxRecDepth 20000 in
theorem ggX11_shut_X11_isWall : GoodIn wsX11_shut wsX11_isWall := goodIn_r _ [17, 18, 57, 58, 59, 60, 61, 62, 63, 64, 65, 66, 67, 68, 69, 70, 71, 72, 73, 74, 75, 76] (by decide +kernel) (by decide +kernel)
set_option maxRecDepth 20000 in
theorem gX11_shut_X11_isWall : GoodIn wsX11_shut (wsV RX11 55 RX11 yX11_isWall wsX11_isWall) := goodIn_app (goodIn_of _ (by decide +kernel)) ggX11_shut_X11_isWall
set_option maxRecDepth 20000 in
theorem ggX11_shut_X11_soonestOf : GoodIn wsX11_shut wsX11_soonestOf := goodIn_r _ [28, 18, 29, 30, 31, 4, 32, 33, 34, 35, 36, 37, 38, 39, 40, 41, 42, 43, 44, 45, 46, 47, 48, 49, 50, 51, 52, 53, 54, 55, 56, 14, 15, 16, 17, 57, 58, 59, 60, 61, 62, 63, 64, 65, 66, 67, 68, 69, 70, 71, 72, 73, 74, 75, 76] (by decide +kernel) (by decide +kernel)
set_option maxRecDepth 20000 in
theorem gX11_shut_X11_soonestOf : GoodIn wsX11_shut (wsV RX11 210 RX11 yX11_soonestOf wsX11_soonestOf) := goodIn_app (goodIn_of _ (by decide +kernel)) ggX11_shut_X11_soonestOf
theorem dX11_shut_0 : decode cX11_shut 0 = .ok (.aload_n 0, 1) := by decide +kernel
theorem dX11_shut_1 : decode cX11_shut 1 = .ok (.iload_n 1, 1) := by decide +kernel
theorem dX11_shut_2 : decode cX11_shut 2 = .ok (.invokevirtual 200, 3) := by decide +kernel
theorem dX11_shut_5 : decode cX11_shut 5 = .ok (.istore_n 2, 1) := by decide +kernel
theorem dX11_shut_6 : decode cX11_shut 6 = .ok (.iload_n 2, 1) := by decide +kernel
theorem dX11_shut_7 : decode cX11_shut 7 = .ok (.ifCond .eq 10, 3) := by decide +kernel
theorem dX11_shut_10 : decode cX11_shut 10 = .ok (.aload_n 0, 1) := by decide +kernel
theorem dX11_shut_11 : decode cX11_shut 11 = .ok (.iload_n 2, 1) := by decide +kernel
theorem dX11_shut_12 : decode cX11_shut 12 = .ok (.invokevirtual 67, 3) := by decide +kernel
theorem dX11_shut_15 : decode cX11_shut 15 = .ok (.i2l, 1) := by decide +kernel
theorem dX11_shut_16 : decode cX11_shut 16 = .ok (.lreturn, 1) := by decide +kernel
theorem dX11_shut_17 : decode cX11_shut 17 = .ok (.lconst 0, 1) := by decide +kernel
theorem dX11_shut_18 : decode cX11_shut 18 = .ok (.lstore_n 3, 1) := by decide +kernel
theorem dX11_shut_19 : decode cX11_shut 19 = .ok (.iconst 0, 1) := by decide +kernel
theorem dX11_shut_20 : decode cX11_shut 20 = .ok (.istore 5, 2) := by decide +kernel
theorem dX11_shut_22 : decode cX11_shut 22 = .ok (.iload 5, 2) := by decide +kernel
theorem dX11_shut_24 : decode cX11_shut 24 = .ok (.bipush 36, 2) := by decide +kernel
theorem dX11_shut_26 : decode cX11_shut 26 = .ok (.if_icmp .ge 41, 3) := by decide +kernel
theorem dX11_shut_29 : decode cX11_shut 29 = .ok (.lload_n 3, 1) := by decide +kernel
theorem dX11_shut_30 : decode cX11_shut 30 = .ok (.aload_n 0, 1) := by decide +kernel
theorem dX11_shut_31 : decode cX11_shut 31 = .ok (.iload 5, 2) := by decide +kernel
theorem dX11_shut_33 : decode cX11_shut 33 = .ok (.invokevirtual 55, 3) := by decide +kernel
theorem dX11_shut_36 : decode cX11_shut 36 = .ok (.ifCond .ne 22, 3) := by decide +kernel
theorem dX11_shut_39 : decode cX11_shut 39 = .ok (.aload_n 0, 1) := by decide +kernel
theorem dX11_shut_40 : decode cX11_shut 40 = .ok (.iload 5, 2) := by decide +kernel
theorem dX11_shut_42 : decode cX11_shut 42 = .ok (.iload_n 1, 1) := by decide +kernel
theorem dX11_shut_43 : decode cX11_shut 43 = .ok (.invokevirtual 210, 3) := by decide +kernel
theorem dX11_shut_46 : decode cX11_shut 46 = .ok (.bipush 100, 2) := by decide +kernel
theorem dX11_shut_48 : decode cX11_shut 48 = .ok (.if_icmp .le 10, 3) := by decide +kernel
theorem dX11_shut_51 : decode cX11_shut 51 = .ok (.lconst 1, 1) := by decide +kernel
theorem dX11_shut_52 : decode cX11_shut 52 = .ok (.iload 5, 2) := by decide +kernel
theorem dX11_shut_54 : decode cX11_shut 54 = .ok (.lshl, 1) := by decide +kernel
theorem dX11_shut_55 : decode cX11_shut 55 = .ok (.goto 4, 3) := by decide +kernel
theorem dX11_shut_58 : decode cX11_shut 58 = .ok (.lconst 0, 1) := by decide +kernel
theorem dX11_shut_59 : decode cX11_shut 59 = .ok (.lor, 1) := by decide +kernel
theorem dX11_shut_60 : decode cX11_shut 60 = .ok (.lstore_n 3, 1) := by decide +kernel
theorem dX11_shut_61 : decode cX11_shut 61 = .ok (.iinc 5 1, 3) := by decide +kernel
theorem dX11_shut_64 : decode cX11_shut 64 = .ok (.goto (-42), 3) := by decide +kernel
theorem dX11_shut_67 : decode cX11_shut 67 = .ok (.lload_n 3, 1) := by decide +kernel
theorem dX11_shut_68 : decode cX11_shut 68 = .ok (.lreturn, 1) := by decide +kernel
set_option maxRecDepth 20000 in
theorem ggX11_isFit_X11_pullOf : GoodIn wsX11_isFit wsX11_pullOf := goodIn_r _ [7, 8, 9, 10, 11, 6, 12, 13, 14, 15, 16, 17, 18, 19, 20, 21, 33, 34, 35, 36, 37, 38, 39, 40, 41, 42, 43, 44, 45, 46, 47, 48, 49, 50, 51, 52] (by decide +kernel) (by decide +kernel)
set_option maxRecDepth 20000 in
theorem gX11_isFit_X11_pullOf : GoodIn wsX11_isFit (wsV RX11 167 RX11 yX11_pullOf wsX11_pullOf) := goodIn_app (goodIn_of _ (by decide +kernel)) ggX11_isFit_X11_pullOf
set_option maxRecDepth 20000 in
theorem ggX11_isFit_X11_landsFrom : GoodIn wsX11_isFit wsX11_landsFrom := goodIn_r _ [25, 26, 27, 6, 28, 29, 30, 31, 32, 8, 33, 34, 35, 36, 37, 38, 39, 40, 41, 42, 43, 44, 45, 46, 47, 48, 49, 50, 51, 52] (by decide +kernel) (by decide +kernel)
set_option maxRecDepth 20000 in
theorem gX11_isFit_X11_landsFrom : GoodIn wsX11_isFit (wsV RX11 203 RX11 yX11_landsFrom wsX11_landsFrom) := goodIn_app (goodIn_of _ (by decide +kernel)) ggX11_isFit_X11_landsFrom
theorem dX11_isFit_0 : decode cX11_isFit 0 = .ok (.aload_n 0, 1) := by decide +kernel
theorem dX11_isFit_1 : decode cX11_isFit 1 = .ok (.getfield 40, 3) := by decide +kernel
theorem dX11_isFit_4 : decode cX11_isFit 4 = .ok (.bipush 24, 2) := by decide +kernel
theorem dX11_isFit_6 : decode cX11_isFit 6 = .ok (.iload_n 1, 1) := by decide +kernel
theorem dX11_isFit_7 : decode cX11_isFit 7 = .ok (.imul, 1) := by decide +kernel
theorem dX11_isFit_8 : decode cX11_isFit 8 = .ok (.iaload, 1) := by decide +kernel
theorem dX11_isFit_9 : decode cX11_isFit 9 = .ok (.istore_n 3, 1) := by decide +kernel
theorem dX11_isFit_10 : decode cX11_isFit 10 = .ok (.iconst 1, 1) := by decide +kernel
theorem dX11_isFit_11 : decode cX11_isFit 11 = .ok (.istore 4, 2) := by decide +kernel
theorem dX11_isFit_13 : decode cX11_isFit 13 = .ok (.iconst 1, 1) := by decide +kernel
theorem dX11_isFit_14 : decode cX11_isFit 14 = .ok (.istore 5, 2) := by decide +kernel
theorem dX11_isFit_16 : decode cX11_isFit 16 = .ok (.iload 5, 2) := by decide +kernel
theorem dX11_isFit_18 : decode cX11_isFit 18 = .ok (.aload_n 0, 1) := by decide +kernel
theorem dX11_isFit_19 : decode cX11_isFit 19 = .ok (.getfield 37, 3) := by decide +kernel
theorem dX11_isFit_22 : decode cX11_isFit 22 = .ok (.iload_n 1, 1) := by decide +kernel
theorem dX11_isFit_23 : decode cX11_isFit 23 = .ok (.iaload, 1) := by decide +kernel
theorem dX11_isFit_24 : decode cX11_isFit 24 = .ok (.if_icmp .ge 53, 3) := by decide +kernel
theorem dX11_isFit_27 : decode cX11_isFit 27 = .ok (.iload 4, 2) := by decide +kernel
theorem dX11_isFit_29 : decode cX11_isFit 29 = .ok (.ifCond .eq 48, 3) := by decide +kernel
theorem dX11_isFit_32 : decode cX11_isFit 32 = .ok (.aload_n 0, 1) := by decide +kernel
theorem dX11_isFit_33 : decode cX11_isFit 33 = .ok (.iload_n 3, 1) := by decide +kernel
theorem dX11_isFit_34 : decode cX11_isFit 34 = .ok (.aload_n 0, 1) := by decide +kernel
theorem dX11_isFit_35 : decode cX11_isFit 35 = .ok (.iload_n 2, 1) := by decide +kernel
theorem dX11_isFit_36 : decode cX11_isFit 36 = .ok (.iload 5, 2) := by decide +kernel
theorem dX11_isFit_38 : decode cX11_isFit 38 = .ok (.iadd, 1) := by decide +kernel
theorem dX11_isFit_39 : decode cX11_isFit 39 = .ok (.iconst 1, 1) := by decide +kernel
theorem dX11_isFit_40 : decode cX11_isFit 40 = .ok (.isub, 1) := by decide +kernel
theorem dX11_isFit_41 : decode cX11_isFit 41 = .ok (.invokevirtual 167, 3) := by decide +kernel
theorem dX11_isFit_44 : decode cX11_isFit 44 = .ok (.invokevirtual 203, 3) := by decide +kernel
theorem dX11_isFit_47 : decode cX11_isFit 47 = .ok (.istore_n 3, 1) := by decide +kernel
theorem dX11_isFit_48 : decode cX11_isFit 48 = .ok (.iload_n 3, 1) := by decide +kernel
theorem dX11_isFit_49 : decode cX11_isFit 49 = .ok (.aload_n 0, 1) := by decide +kernel
theorem dX11_isFit_50 : decode cX11_isFit 50 = .ok (.getfield 40, 3) := by decide +kernel
theorem dX11_isFit_53 : decode cX11_isFit 53 = .ok (.bipush 24, 2) := by decide +kernel
theorem dX11_isFit_55 : decode cX11_isFit 55 = .ok (.iload_n 1, 1) := by decide +kernel
theorem dX11_isFit_56 : decode cX11_isFit 56 = .ok (.imul, 1) := by decide +kernel
theorem dX11_isFit_57 : decode cX11_isFit 57 = .ok (.iload 5, 2) := by decide +kernel
theorem dX11_isFit_59 : decode cX11_isFit 59 = .ok (.iadd, 1) := by decide +kernel
theorem dX11_isFit_60 : decode cX11_isFit 60 = .ok (.iaload, 1) := by decide +kernel
theorem dX11_isFit_61 : decode cX11_isFit 61 = .ok (.if_icmp .ne 7, 3) := by decide +kernel
theorem dX11_isFit_64 : decode cX11_isFit 64 = .ok (.iconst 1, 1) := by decide +kernel
theorem dX11_isFit_65 : decode cX11_isFit 65 = .ok (.goto 4, 3) := by decide +kernel
theorem dX11_isFit_68 : decode cX11_isFit 68 = .ok (.iconst 0, 1) := by decide +kernel
theorem dX11_isFit_69 : decode cX11_isFit 69 = .ok (.istore 4, 2) := by decide +kernel
theorem dX11_isFit_71 : decode cX11_isFit 71 = .ok (.iinc 5 1, 3) := by decide +kernel
theorem dX11_isFit_74 : decode cX11_isFit 74 = .ok (.goto (-58), 3) := by decide +kernel
theorem dX11_isFit_77 : decode cX11_isFit 77 = .ok (.iload 4, 2) := by decide +kernel
theorem dX11_isFit_79 : decode cX11_isFit 79 = .ok (.ireturn, 1) := by decide +kernel
set_option maxRecDepth 20000 in
theorem ggX11_fits_X11_isSheet : GoodIn wsX11_fits wsX11_isSheet := goodIn_r _ [8, 9, 10, 7, 11] (by decide +kernel) (by decide +kernel)
set_option maxRecDepth 20000 in
theorem gX11_fits_X11_isSheet : GoodIn wsX11_fits (va_wsS RX11 213 yX11_isSheet wsX11_isSheet) := goodIn_app (goodIn_of _ (by decide +kernel)) ggX11_fits_X11_isSheet
set_option maxRecDepth 20000 in
theorem ggX11_fits_X11_error : GoodIn wsX11_fits wsX11_error := goodIn_r _ [15, 16, 17, 59, 60, 61, 62, 63, 64, 65, 66, 67, 68, 69, 70, 71, 72, 73, 74, 75, 76, 77, 78] (by decide +kernel) (by decide +kernel)
set_option maxRecDepth 20000 in
theorem gX11_fits_X11_error : GoodIn wsX11_fits (wsV RX11 67 RX11 yX11_error wsX11_error) := goodIn_app (goodIn_of _ (by decide +kernel)) ggX11_fits_X11_error
set_option maxRecDepth 20000 in
theorem ggX11_fits_X11_notRoom : GoodIn wsX11_fits wsX11_notRoom := goodIn_r _ [21, 1, 22, 23, 24, 7, 25, 9, 10, 11, 26, 27, 28, 29, 30, 59, 60, 61, 62, 63, 64, 65, 66, 67, 68, 69, 70, 71, 72, 73, 74, 75, 76, 77, 78] (by decide +kernel) (by decide +kernel)
set_option maxRecDepth 20000 in
theorem gX11_fits_X11_notRoom : GoodIn wsX11_fits (wsV RX11 200 RX11 yX11_notRoom wsX11_notRoom) := goodIn_app (goodIn_of _ (by decide +kernel)) ggX11_fits_X11_notRoom
set_option maxRecDepth 20000 in
theorem ggX11_fits_X11_isFit : GoodIn wsX11_fits wsX11_isFit := goodIn_r _ [34, 4, 2, 35, 36, 37, 7, 38, 30, 39, 40, 41, 42, 43, 44, 45, 46, 47, 48, 49, 50, 51, 52, 53, 54, 55, 56, 57, 58, 26, 27, 28, 29, 59, 60, 61, 62, 63, 64, 65, 66, 67, 68, 69, 70, 71, 72, 73, 74, 75, 76, 77, 78] (by decide +kernel) (by decide +kernel)
set_option maxRecDepth 20000 in
theorem gX11_fits_X11_isFit : GoodIn wsX11_fits (wsV RX11 216 RX11 yX11_isFit wsX11_isFit) := goodIn_app (goodIn_of _ (by decide +kernel)) ggX11_fits_X11_isFit
theorem dX11_fits_0 : decode cX11_fits 0 = .ok (.iload_n 1, 1) := by decide +kernel
theorem dX11_fits_1 : decode cX11_fits 1 = .ok (.invokestatic 213, 3) := by decide +kernel
theorem dX11_fits_4 : decode cX11_fits 4 = .ok (.ifCond .ne 10, 3) := by decide +kernel
theorem dX11_fits_7 : decode cX11_fits 7 = .ok (.aload_n 0, 1) := by decide +kernel
theorem dX11_fits_8 : decode cX11_fits 8 = .ok (.ldc 66, 2) := by decide +kernel
theorem dX11_fits_10 : decode cX11_fits 10 = .ok (.invokevirtual 67, 3) := by decide +kernel
theorem dX11_fits_13 : decode cX11_fits 13 = .ok (.ireturn, 1) := by decide +kernel
theorem dX11_fits_14 : decode cX11_fits 14 = .ok (.aload_n 0, 1) := by decide +kernel
theorem dX11_fits_15 : decode cX11_fits 15 = .ok (.getfield 37, 3) := by decide +kernel
theorem dX11_fits_18 : decode cX11_fits 18 = .ok (.iload_n 1, 1) := by decide +kernel
theorem dX11_fits_19 : decode cX11_fits 19 = .ok (.iaload, 1) := by decide +kernel
theorem dX11_fits_20 : decode cX11_fits 20 = .ok (.ifCond .ne 10, 3) := by decide +kernel
theorem dX11_fits_23 : decode cX11_fits 23 = .ok (.aload_n 0, 1) := by decide +kernel
theorem dX11_fits_24 : decode cX11_fits 24 = .ok (.ldc 193, 2) := by decide +kernel
theorem dX11_fits_26 : decode cX11_fits 26 = .ok (.invokevirtual 67, 3) := by decide +kernel
theorem dX11_fits_29 : decode cX11_fits 29 = .ok (.ireturn, 1) := by decide +kernel
theorem dX11_fits_30 : decode cX11_fits 30 = .ok (.iconst 0, 1) := by decide +kernel
theorem dX11_fits_31 : decode cX11_fits 31 = .ok (.istore_n 2, 1) := by decide +kernel
theorem dX11_fits_32 : decode cX11_fits 32 = .ok (.iconst 0, 1) := by decide +kernel
theorem dX11_fits_33 : decode cX11_fits 33 = .ok (.istore_n 3, 1) := by decide +kernel
theorem dX11_fits_34 : decode cX11_fits 34 = .ok (.iload_n 3, 1) := by decide +kernel
theorem dX11_fits_35 : decode cX11_fits 35 = .ok (.bipush 12, 2) := by decide +kernel
theorem dX11_fits_37 : decode cX11_fits 37 = .ok (.if_icmp .ge 44, 3) := by decide +kernel
theorem dX11_fits_40 : decode cX11_fits 40 = .ok (.aload_n 0, 1) := by decide +kernel
theorem dX11_fits_41 : decode cX11_fits 41 = .ok (.aload_n 0, 1) := by decide +kernel
theorem dX11_fits_42 : decode cX11_fits 42 = .ok (.getfield 40, 3) := by decide +kernel
