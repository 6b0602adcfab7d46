theorem dX11_fits_45 : decode cX11_fits 45 = .ok (.bipush 24, 2) := by decide +kernel
theorem dX11_fits_47 : decode cX11_fits 47 = .ok (.iload_n 1, 1) := by decide +kernel
theorem dX11_fits_48 : decode cX11_fits 48 = .ok (.imul, 1) := by decide +kernel
theorem dX11_fits_49 : decode cX11_fits 49 = .ok (.iaload, 1) := by decide +kernel
theorem dX11_fits_50 : decode cX11_fits 50 = .ok (.invokevirtual 200, 3) := by decide +kernel
theorem dX11_fits_53 : decode cX11_fits 53 = .ok (.ifCond .ne 28, 3) := by decide +kernel
theorem dX11_fits_56 : decode cX11_fits 56 = .ok (.iload_n 2, 1) := by decide +kernel
theorem dX11_fits_57 : decode cX11_fits 57 = .ok (.aload_n 0, 1) := by decide +kernel
theorem dX11_fits_58 : decode cX11_fits 58 = .ok (.iload_n 1, 1) := by decide +kernel
theorem dX11_fits_59 : decode cX11_fits 59 = .ok (.iload_n 3, 1) := by decide +kernel
theorem dX11_fits_60 : decode cX11_fits 60 = .ok (.invokevirtual 216, 3) := by decide +kernel
theorem dX11_fits_63 : decode cX11_fits 63 = .ok (.ifCond .eq 9, 3) := by decide +kernel
theorem dX11_fits_66 : decode cX11_fits 66 = .ok (.iconst 1, 1) := by decide +kernel
theorem dX11_fits_67 : decode cX11_fits 67 = .ok (.iload_n 3, 1) := by decide +kernel
theorem dX11_fits_68 : decode cX11_fits 68 = .ok (.ishl, 1) := by decide +kernel
theorem dX11_fits_69 : decode cX11_fits 69 = .ok (.goto 4, 3) := by decide +kernel
theorem dX11_fits_72 : decode cX11_fits 72 = .ok (.iconst 0, 1) := by decide +kernel
theorem dX11_fits_73 : decode cX11_fits 73 = .ok (.ior, 1) := by decide +kernel
theorem dX11_fits_74 : decode cX11_fits 74 = .ok (.istore_n 2, 1) := by decide +kernel
theorem dX11_fits_75 : decode cX11_fits 75 = .ok (.iinc 3 1, 3) := by decide +kernel
theorem dX11_fits_78 : decode cX11_fits 78 = .ok (.goto (-44), 3) := by decide +kernel
theorem dX11_fits_81 : decode cX11_fits 81 = .ok (.iload_n 2, 1) := by decide +kernel
theorem dX11_fits_82 : decode cX11_fits 82 = .ok (.ireturn, 1) := by decide +kernel
theorem dX11_begins_0 : decode cX11_begins 0 = .ok (.aload_n 0, 1) := by decide +kernel
theorem dX11_begins_1 : decode cX11_begins 1 = .ok (.getfield 220, 3) := by decide +kernel
theorem dX11_begins_4 : decode cX11_begins 4 = .ok (.bipush 30, 2) := by decide +kernel
theorem dX11_begins_6 : decode cX11_begins 6 = .ok (.if_icmp .ge 23, 3) := by decide +kernel
theorem dX11_begins_9 : decode cX11_begins 9 = .ok (.aload_n 0, 1) := by decide +kernel
theorem dX11_begins_10 : decode cX11_begins 10 = .ok (.getfield 43, 3) := by decide +kernel
theorem dX11_begins_13 : decode cX11_begins 13 = .ok (.aload_n 0, 1) := by decide +kernel
theorem dX11_begins_14 : decode cX11_begins 14 = .ok (.getfield 220, 3) := by decide +kernel
theorem dX11_begins_17 : decode cX11_begins 17 = .ok (.iload_n 1, 1) := by decide +kernel
theorem dX11_begins_18 : decode cX11_begins 18 = .ok (.iastore, 1) := by decide +kernel
theorem dX11_begins_19 : decode cX11_begins 19 = .ok (.aload_n 0, 1) := by decide +kernel
theorem dX11_begins_20 : decode cX11_begins 20 = .ok (.dup, 1) := by decide +kernel
theorem dX11_begins_21 : decode cX11_begins 21 = .ok (.getfield 220, 3) := by decide +kernel
theorem dX11_begins_24 : decode cX11_begins 24 = .ok (.iconst 1, 1) := by decide +kernel
theorem dX11_begins_25 : decode cX11_begins 25 = .ok (.iadd, 1) := by decide +kernel
theorem dX11_begins_26 : decode cX11_begins 26 = .ok (.putfield 220, 3) := by decide +kernel
theorem dX11_begins_29 : decode cX11_begins 29 = .ok (.return_, 1) := by decide +kernel
set_option maxRecDepth 20000 in
theorem ggX11_plainCreaks_X11_begins : GoodIn wsX11_plainCreaks wsX11_begins := goodIn_r _ [5, 6, 7, 8, 9, 10, 11, 12, 13, 14, 15, 16, 17, 18, 19, 20, 21, 22, 23, 24, 25, 26, 27] (by decide +kernel) (by decide +kernel)
set_option maxRecDepth 20000 in
theorem gX11_plainCreaks_X11_begins : GoodIn wsX11_plainCreaks (wsV RX11 223 RX11 yX11_begins wsX11_begins) := goodIn_app (goodIn_of _ (by decide +kernel)) ggX11_plainCreaks_X11_begins
theorem dX11_plainCreaks_0 : decode cX11_plainCreaks 0 = .ok (.aload_n 0, 1) := by decide +kernel
theorem dX11_plainCreaks_1 : decode cX11_plainCreaks 1 = .ok (.bipush 10, 2) := by decide +kernel
theorem dX11_plainCreaks_3 : decode cX11_plainCreaks 3 = .ok (.invokevirtual 223, 3) := by decide +kernel
theorem dX11_plainCreaks_6 : decode cX11_plainCreaks 6 = .ok (.iload_n 2, 1) := by decide +kernel
theorem dX11_plainCreaks_7 : decode cX11_plainCreaks 7 = .ok (.iload_n 1, 1) := by decide +kernel
theorem dX11_plainCreaks_8 : decode cX11_plainCreaks 8 = .ok (.iadd, 1) := by decide +kernel
theorem dX11_plainCreaks_9 : decode cX11_plainCreaks 9 = .ok (.ireturn, 1) := by decide +kernel
set_option maxRecDepth 20000 in
theorem ggX11_rollerCreaks_X11_begins : GoodIn wsX11_rollerCreaks wsX11_begins := goodIn_r _ [5, 6, 7, 12, 13, 14, 15, 16, 17, 18, 19, 20, 21, 22, 23, 24, 25, 26, 27, 28, 29, 30, 31] (by decide +kernel) (by decide +kernel)
set_option maxRecDepth 20000 in
theorem gX11_rollerCreaks_X11_begins : GoodIn wsX11_rollerCreaks (wsV RX11 223 RX11 yX11_begins wsX11_begins) := goodIn_app (goodIn_of _ (by decide +kernel)) ggX11_rollerCreaks_X11_begins
set_option maxRecDepth 20000 in
theorem ggX11_rollerCreaks_X11_plainCreaks : GoodIn wsX11_rollerCreaks wsX11_plainCreaks := goodIn_r _ [11, 1, 2, 3, 4, 5, 6, 7, 12, 13, 14, 15, 16, 17, 18, 19, 20, 21, 22, 23, 24, 25, 26, 27, 28, 29, 30, 31] (by decide +kernel) (by decide +kernel)
set_option maxRecDepth 20000 in
theorem gX11_rollerCreaks_X11_plainCreaks : GoodIn wsX11_rollerCreaks (wsV RX11 226 RX11 yX11_plainCreaks wsX11_plainCreaks) := goodIn_app (goodIn_of _ (by decide +kernel)) ggX11_rollerCreaks_X11_plainCreaks
theorem dX11_rollerCreaks_0 : decode cX11_rollerCreaks 0 = .ok (.aload_n 0, 1) := by decide +kernel
theorem dX11_rollerCreaks_1 : decode cX11_rollerCreaks 1 = .ok (.bipush 20, 2) := by decide +kernel
theorem dX11_rollerCreaks_3 : decode cX11_rollerCreaks 3 = .ok (.invokevirtual 223, 3) := by decide +kernel
theorem dX11_rollerCreaks_6 : decode cX11_rollerCreaks 6 = .ok (.aload_n 0, 1) := by decide +kernel
theorem dX11_rollerCreaks_7 : decode cX11_rollerCreaks 7 = .ok (.iload_n 1, 1) := by decide +kernel
theorem dX11_rollerCreaks_8 : decode cX11_rollerCreaks 8 = .ok (.iload_n 2, 1) := by decide +kernel
theorem dX11_rollerCreaks_9 : decode cX11_rollerCreaks 9 = .ok (.invokevirtual 226, 3) := by decide +kernel
theorem dX11_rollerCreaks_12 : decode cX11_rollerCreaks 12 = .ok (.iconst 4, 1) := by decide +kernel
theorem dX11_rollerCreaks_13 : decode cX11_rollerCreaks 13 = .ok (.isub, 1) := by decide +kernel
theorem dX11_rollerCreaks_14 : decode cX11_rollerCreaks 14 = .ok (.ireturn, 1) := by decide +kernel
set_option maxRecDepth 20000 in
theorem ggX11_creaks_X11_of : GoodIn wsX11_creaks wsX11_of := goodIn_r _ [5, 6, 21, 22, 23, 24, 25, 26, 27, 28, 29, 30, 31, 32, 33, 34, 35, 36, 37, 38, 39, 40] (by decide +kernel) (by decide +kernel)
set_option maxRecDepth 20000 in
theorem gX11_creaks_X11_of : GoodIn wsX11_creaks (wsV RX11 51 RX11 yX11_of wsX11_of) := goodIn_app (goodIn_of _ (by decide +kernel)) ggX11_creaks_X11_of
set_option maxRecDepth 20000 in
theorem ggX11_creaks_X11_rollerCreaks : GoodIn wsX11_creaks wsX11_rollerCreaks := goodIn_r _ [10, 11, 12, 13, 4, 14, 15, 16, 17, 18, 19, 20, 21, 22, 23, 24, 25, 26, 27, 28, 29, 30, 31, 32, 33, 34, 35, 36, 37, 38, 39, 40] (by decide +kernel) (by decide +kernel)
set_option maxRecDepth 20000 in
theorem gX11_creaks_X11_rollerCreaks : GoodIn wsX11_creaks (wsV RX11 229 RX11 yX11_rollerCreaks wsX11_rollerCreaks) := goodIn_app (goodIn_of _ (by decide +kernel)) ggX11_creaks_X11_rollerCreaks
set_option maxRecDepth 20000 in
theorem ggX11_creaks_X11_begins : GoodIn wsX11_creaks wsX11_begins := goodIn_r _ [14, 15, 16, 21, 22, 23, 24, 25, 26, 27, 28, 29, 30, 31, 32, 33, 34, 35, 36, 37, 38, 39, 40] (by decide +kernel) (by decide +kernel)
set_option maxRecDepth 20000 in
theorem gX11_creaks_X11_begins : GoodIn wsX11_creaks (wsV RX11 223 RX11 yX11_begins wsX11_begins) := goodIn_app (goodIn_of _ (by decide +kernel)) ggX11_creaks_X11_begins
set_option maxRecDepth 20000 in
theorem ggX11_creaks_X11_plainCreaks : GoodIn wsX11_creaks wsX11_plainCreaks := goodIn_r _ [20, 11, 12, 13, 4, 14, 15, 16, 21, 22, 23, 24, 25, 26, 27, 28, 29, 30, 31, 32, 33, 34, 35, 36, 37, 38, 39, 40] (by decide +kernel) (by decide +kernel)
set_option maxRecDepth 20000 in
theorem gX11_creaks_X11_plainCreaks : GoodIn wsX11_creaks (wsV RX11 226 RX11 yX11_plainCreaks wsX11_plainCreaks) := goodIn_app (goodIn_of _ (by decide +kernel)) ggX11_creaks_X11_plainCreaks
theorem dX11_creaks_0 : decode cX11_creaks 0 = .ok (.aload_n 0, 1) := by decide +kernel
theorem dX11_creaks_1 : decode cX11_creaks 1 = .ok (.iload_n 1, 1) := by decide +kernel
theorem dX11_creaks_2 : decode cX11_creaks 2 = .ok (.iconst 0, 1) := by decide +kernel
theorem dX11_creaks_3 : decode cX11_creaks 3 = .ok (.invokevirtual 51, 3) := by decide +kernel
theorem dX11_creaks_6 : decode cX11_creaks 6 = .ok (.lookupswitch 65 #[(1, 34), (4, 41), (6, 56)], 34) := by decide +kernel
theorem dX11_creaks_40 : decode cX11_creaks 40 = .ok (.aload_n 0, 1) := by decide +kernel
theorem dX11_creaks_41 : decode cX11_creaks 41 = .ok (.iload_n 1, 1) := by decide +kernel
theorem dX11_creaks_42 : decode cX11_creaks 42 = .ok (.iload_n 2, 1) := by decide +kernel
theorem dX11_creaks_43 : decode cX11_creaks 43 = .ok (.invokevirtual 229, 3) := by decide +kernel
theorem dX11_creaks_46 : decode cX11_creaks 46 = .ok (.ireturn, 1) := by decide +kernel
theorem dX11_creaks_47 : decode cX11_creaks 47 = .ok (.aload_n 0, 1) := by decide +kernel
theorem dX11_creaks_48 : decode cX11_creaks 48 = .ok (.bipush 50, 2) := by decide +kernel
theorem dX11_creaks_50 : decode cX11_creaks 50 = .ok (.invokevirtual 223, 3) := by decide +kernel
theorem dX11_creaks_53 : decode cX11_creaks 53 = .ok (.aload_n 0, 1) := by decide +kernel
theorem dX11_creaks_54 : decode cX11_creaks 54 = .ok (.iload_n 1, 1) := by decide +kernel
theorem dX11_creaks_55 : decode cX11_creaks 55 = .ok (.iload_n 2, 1) := by decide +kernel
theorem dX11_creaks_56 : decode cX11_creaks 56 = .ok (.invokevirtual 229, 3) := by decide +kernel
theorem dX11_creaks_59 : decode cX11_creaks 59 = .ok (.iconst 3, 1) := by decide +kernel
theorem dX11_creaks_60 : decode cX11_creaks 60 = .ok (.imul, 1) := by decide +kernel
theorem dX11_creaks_61 : decode cX11_creaks 61 = .ok (.ireturn, 1) := by decide +kernel
theorem dX11_creaks_62 : decode cX11_creaks 62 = .ok (.aload_n 0, 1) := by decide +kernel
theorem dX11_creaks_63 : decode cX11_creaks 63 = .ok (.bipush 70, 2) := by decide +kernel
theorem dX11_creaks_65 : decode cX11_creaks 65 = .ok (.invokevirtual 223, 3) := by decide +kernel
theorem dX11_creaks_68 : decode cX11_creaks 68 = .ok (.bipush 9, 2) := by decide +kernel
theorem dX11_creaks_70 : decode cX11_creaks 70 = .ok (.ireturn, 1) := by decide +kernel
theorem dX11_creaks_71 : decode cX11_creaks 71 = .ok (.aload_n 0, 1) := by decide +kernel
theorem dX11_creaks_72 : decode cX11_creaks 72 = .ok (.iload_n 1, 1) := by decide +kernel
theorem dX11_creaks_73 : decode cX11_creaks 73 = .ok (.iload_n 2, 1) := by decide +kernel
theorem dX11_creaks_74 : decode cX11_creaks 74 = .ok (.invokevirtual 226, 3) := by decide +kernel
theorem dX11_creaks_77 : decode cX11_creaks 77 = .ok (.ireturn, 1) := by decide +kernel
set_option maxRecDepth 20000 in
theorem ggX11_plainRattles_X11_begins : GoodIn wsX11_plainRattles wsX11_begins := goodIn_r _ [5, 6, 7, 25, 26, 27, 28, 29, 30, 31, 32, 33, 34, 35, 36, 37, 38, 39, 40, 41, 42, 43, 44] (by decide +kernel) (by decide +kernel)
set_option maxRecDepth 20000 in
theorem gX11_plainRattles_X11_begins : GoodIn wsX11_plainRattles (wsV RX11 223 RX11 yX11_begins wsX11_begins) := goodIn_app (goodIn_of _ (by decide +kernel)) ggX11_plainRattles_X11_begins
set_option maxRecDepth 20000 in
theorem ggX11_plainRattles_X11_creaks : GoodIn wsX11_plainRattles wsX11_creaks := goodIn_r _ [11, 12, 13, 14, 4, 15, 16, 17, 18, 19, 20, 1, 2, 3, 5, 6, 7, 21, 22, 23, 24, 25, 26, 27, 28, 29, 30, 31, 32, 33, 34, 35, 36, 37, 38, 39, 40, 41, 42, 43, 44] (by decide +kernel) (by decide +kernel)
set_option maxRecDepth 20000 in
theorem gX11_plainRattles_X11_creaks : GoodIn wsX11_plainRattles (wsV RX11 232 RX11 yX11_creaks wsX11_creaks) := goodIn_app (goodIn_of _ (by decide +kernel)) ggX11_plainRattles_X11_creaks
theorem dX11_plainRattles_0 : decode cX11_plainRattles 0 = .ok (.aload_n 0, 1) := by decide +kernel
theorem dX11_plainRattles_1 : decode cX11_plainRattles 1 = .ok (.bipush 11, 2) := by decide +kernel
theorem dX11_plainRattles_3 : decode cX11_plainRattles 3 = .ok (.invokevirtual 223, 3) := by decide +kernel
theorem dX11_plainRattles_6 : decode cX11_plainRattles 6 = .ok (.aload_n 0, 1) := by decide +kernel
theorem dX11_plainRattles_7 : decode cX11_plainRattles 7 = .ok (.iload_n 1, 1) := by decide +kernel
theorem dX11_plainRattles_8 : decode cX11_plainRattles 8 = .ok (.iload_n 2, 1) := by decide +kernel
theorem dX11_plainRattles_9 : decode cX11_plainRattles 9 = .ok (.invokevirtual 232, 3) := by decide +kernel
theorem dX11_plainRattles_12 : decode cX11_plainRattles 12 = .ok (.iconst 2, 1) := by decide +kernel
theorem dX11_plainRattles_13 : decode cX11_plainRattles 13 = .ok (.imul, 1) := by decide +kernel
theorem dX11_plainRattles_14 : decode cX11_plainRattles 14 = .ok (.ireturn, 1) := by decide +kernel
set_option maxRecDepth 20000 in
theorem ggX11_screwedRattles_X11_begins : GoodIn wsX11_screwedRattles wsX11_begins := goodIn_r _ [5, 6, 7, 29, 30, 31, 32, 33, 34, 35, 36, 37, 38, 39, 40, 41, 42, 43, 44, 45, 46, 47, 48] (by decide +kernel) (by decide +kernel)
set_option maxRecDepth 20000 in
theorem gX11_screwedRattles_X11_begins : GoodIn wsX11_screwedRattles (wsV RX11 223 RX11 yX11_begins wsX11_begins) := goodIn_app (goodIn_of _ (by decide +kernel)) ggX11_screwedRattles_X11_begins
set_option maxRecDepth 20000 in
theorem ggX11_screwedRattles_X11_plainRattles : GoodIn wsX11_screwedRattles wsX11_plainRattles := goodIn_r _ [11, 1, 2, 3, 4, 5, 6, 7, 12, 13, 14, 15, 16, 17, 18, 19, 20, 21, 22, 23, 24, 25, 26, 27, 28, 29, 30, 31, 32, 33, 34, 35, 36, 37, 38, 39, 40, 41, 42, 43, 44, 45, 46, 47, 48] (by decide +kernel) (by decide +kernel)
set_option maxRecDepth 20000 in
theorem gX11_screwedRattles_X11_plainRattles : GoodIn wsX11_screwedRattles (wsV RX11 235 RX11 yX11_plainRattles wsX11_plainRattles) := goodIn_app (goodIn_of _ (by decide +kernel)) ggX11_screwedRattles_X11_plainRattles
theorem dX11_screwedRattles_0 : decode cX11_screwedRattles 0 = .ok (.aload_n 0, 1) := by decide +kernel
theorem dX11_screwedRattles_1 : decode cX11_screwedRattles 1 = .ok (.bipush 30, 2) := by decide +kernel
theorem dX11_screwedRattles_3 : decode cX11_screwedRattles 3 = .ok (.invokevirtual 223, 3) := by decide +kernel
theorem dX11_screwedRattles_6 : decode cX11_screwedRattles 6 = .ok (.aload_n 0, 1) := by decide +kernel
theorem dX11_screwedRattles_7 : decode cX11_screwedRattles 7 = .ok (.iload_n 1, 1) := by decide +kernel
theorem dX11_screwedRattles_8 : decode cX11_screwedRattles 8 = .ok (.iload_n 2, 1) := by decide +kernel
theorem dX11_screwedRattles_9 : decode cX11_screwedRattles 9 = .ok (.invokevirtual 235, 3) := by decide +kernel
theorem dX11_screwedRattles_12 : decode cX11_screwedRattles 12 = .ok (.ineg, 1) := by decide +kernel
theorem dX11_screwedRattles_13 : decode cX11_screwedRattles 13 = .ok (.ireturn, 1) := by decide +kernel
set_option maxRecDepth 20000 in
theorem ggX11_rattles_X11_of : GoodIn wsX11_rattles wsX11_of := goodIn_r _ [5, 6, 33, 34, 35, 36, 37, 38, 39, 40, 41, 42, 43, 44, 45, 46, 47, 48, 49, 50, 51, 52] (by decide +kernel) (by decide +kernel)
set_option maxRecDepth 20000 in
theorem gX11_rattles_X11_of : GoodIn wsX11_rattles (wsV RX11 51 RX11 yX11_of wsX11_of) := goodIn_app (goodIn_of _ (by decide +kernel)) ggX11_rattles_X11_of
set_option maxRecDepth 20000 in
theorem ggX11_rattles_X11_screwedRattles : GoodIn wsX11_rattles wsX11_screwedRattles := goodIn_r _ [10, 11, 12, 13, 4, 14, 15, 16, 17, 18, 19, 20, 21, 22, 23, 24, 1, 2, 3, 5, 6, 25, 26, 27, 28, 29, 30, 31, 32, 33, 34, 35, 36, 37, 38, 39, 40, 41, 42, 43, 44, 45, 46, 47, 48, 49, 50, 51, 52] (by decide +kernel) (by decide +kernel)
set_option maxRecDepth 20000 in
theorem gX11_rattles_X11_screwedRattles : GoodIn wsX11_rattles (wsV RX11 238 RX11 yX11_screwedRattles wsX11_screwedRattles) := goodIn_app (goodIn_of _ (by decide +kernel)) ggX11_rattles_X11_screwedRattles
set_option maxRecDepth 20000 in
theorem ggX11_rattles_X11_begins : GoodIn wsX11_rattles wsX11_begins := goodIn_r _ [14, 15, 16, 33, 34, 35, 36, 37, 38, 39, 40, 41, 42, 43, 44, 45, 46, 47, 48, 49, 50, 51, 52] (by decide +kernel) (by decide +kernel)
set_option maxRecDepth 20000 in
theorem gX11_rattles_X11_begins : GoodIn wsX11_rattles (wsV RX11 223 RX11 yX11_begins wsX11_begins) := goodIn_app (goodIn_of _ (by decide +kernel)) ggX11_rattles_X11_begins
set_option maxRecDepth 20000 in
theorem ggX11_rattles_X11_plainRattles : GoodIn wsX11_rattles wsX11_plainRattles := goodIn_r _ [20, 11, 12, 13, 4, 14, 15, 16, 21, 22, 23, 24, 1, 2, 3, 5, 6, 25, 26, 27, 28, 29, 30, 31, 32, 33, 34, 35, 36, 37, 38, 39, 40, 41, 42, 43, 44, 45, 46, 47, 48, 49, 50, 51, 52] (by decide +kernel) (by decide +kernel)
set_option maxRecDepth 20000 in
theorem gX11_rattles_X11_plainRattles : GoodIn wsX11_rattles (wsV RX11 235 RX11 yX11_plainRattles wsX11_plainRattles) := goodIn_app (goodIn_of _ (by decide +kernel)) ggX11_rattles_X11_plainRattles
theorem dX11_rattles_0 : decode cX11_rattles 0 = .ok (.aload_n 0, 1) := by decide +kernel
theorem dX11_rattles_1 : decode cX11_rattles 1 = .ok (.iload_n 1, 1) := by decide +kernel
theorem dX11_rattles_2 : decode cX11_rattles 2 = .ok (.iconst 0, 1) := by decide +kernel
theorem dX11_rattles_3 : decode cX11_rattles 3 = .ok (.invokevirtual 51, 3) := by decide +kernel
theorem dX11_rattles_6 : decode cX11_rattles 6 = .ok (.tableswitch 76 2 6 #[34, 76, 76, 41, 56], 34) := by decide +kernel
theorem dX11_rattles_40 : decode cX11_rattles 40 = .ok (.aload_n 0, 1) := by decide +kernel
theorem dX11_rattles_41 : decode cX11_rattles 41 = .ok (.iload_n 1, 1) := by decide +kernel
theorem dX11_rattles_42 : decode cX11_rattles 42 = .ok (.iload_n 2, 1) := by decide +kernel
theorem dX11_rattles_43 : decode cX11_rattles 43 = .ok (.invokevirtual 238, 3) := by decide +kernel
theorem dX11_rattles_46 : decode cX11_rattles 46 = .ok (.ireturn, 1) := by decide +kernel
theorem dX11_rattles_47 : decode cX11_rattles 47 = .ok (.aload_n 0, 1) := by decide +kernel
theorem dX11_rattles_48 : decode cX11_rattles 48 = .ok (.bipush 60, 2) := by decide +kernel
theorem dX11_rattles_50 : decode cX11_rattles 50 = .ok (.invokevirtual 223, 3) := by decide +kernel
theorem dX11_rattles_53 : decode cX11_rattles 53 = .ok (.aload_n 0, 1) := by decide +kernel
theorem dX11_rattles_54 : decode cX11_rattles 54 = .ok (.iload_n 1, 1) := by decide +kernel
theorem dX11_rattles_55 : decode cX11_rattles 55 = .ok (.iload_n 2, 1) := by decide +kernel
theorem dX11_rattles_56 : decode cX11_rattles 56 = .ok (.iconst 1, 1) := by decide +kernel
theorem dX11_rattles_57 : decode cX11_rattles 57 = .ok (.iadd, 1) := by decide +kernel
theorem dX11_rattles_58 : decode cX11_rattles 58 = .ok (.invokevirtual 238, 3) := by decide +kernel
theorem dX11_rattles_61 : decode cX11_rattles 61 = .ok (.ireturn, 1) := by decide +kernel
theorem dX11_rattles_62 : decode cX11_rattles 62 = .ok (.aload_n 0, 1) := by decide +kernel
theorem dX11_rattles_63 : decode cX11_rattles 63 = .ok (.bipush 71, 2) := by decide +kernel
theorem dX11_rattles_65 : decode cX11_rattles 65 = .ok (.invokevirtual 223, 3) := by decide +kernel
theorem dX11_rattles_68 : decode cX11_rattles 68 = .ok (.aload_n 0, 1) := by decide +kernel
theorem dX11_rattles_69 : decode cX11_rattles 69 = .ok (.iload_n 1, 1) := by decide +kernel
theorem dX11_rattles_70 : decode cX11_rattles 70 = .ok (.iload_n 2, 1) := by decide +kernel
theorem dX11_rattles_71 : decode cX11_rattles 71 = .ok (.invokevirtual 235, 3) := by decide +kernel
theorem dX11_rattles_74 : decode cX11_rattles 74 = .ok (.aload_n 0, 1) := by decide +kernel
theorem dX11_rattles_75 : decode cX11_rattles 75 = .ok (.iload_n 1, 1) := by decide +kernel
theorem dX11_rattles_76 : decode cX11_rattles 76 = .ok (.iconst 1, 1) := by decide +kernel
theorem dX11_rattles_77 : decode cX11_rattles 77 = .ok (.invokevirtual 51, 3) := by decide +kernel
theorem dX11_rattles_80 : decode cX11_rattles 80 = .ok (.iadd, 1) := by decide +kernel
theorem dX11_rattles_81 : decode cX11_rattles 81 = .ok (.ireturn, 1) := by decide +kernel
theorem dX11_rattles_82 : decode cX11_rattles 82 = .ok (.aload_n 0, 1) := by decide +kernel
theorem dX11_rattles_83 : decode cX11_rattles 83 = .ok (.iload_n 1, 1) := by decide +kernel
theorem dX11_rattles_84 : decode cX11_rattles 84 = .ok (.iload_n 2, 1) := by decide +kernel
theorem dX11_rattles_85 : decode cX11_rattles 85 = .ok (.invokevirtual 235, 3) := by decide +kernel
theorem dX11_rattles_88 : decode cX11_rattles 88 = .ok (.ireturn, 1) := by decide +kernel
set_option maxRecDepth 20000 in
theorem ggX11_plainGroans_X11_begins : GoodIn wsX11_plainGroans wsX11_begins := goodIn_r _ [5, 6, 7, 37, 38, 39, 40, 41, 42, 43, 44, 45, 46, 47, 48, 49, 50, 51, 52, 53, 54, 55, 56] (by decide +kernel) (by decide +kernel)
set_option maxRecDepth 20000 in
theorem gX11_plainGroans_X11_begins : GoodIn wsX11_plainGroans (wsV RX11 223 RX11 yX11_begins wsX11_begins) := goodIn_app (goodIn_of _ (by decide +kernel)) ggX11_plainGroans_X11_begins
set_option maxRecDepth 20000 in
theorem ggX11_plainGroans_X11_rattles : GoodIn wsX11_plainGroans wsX11_rattles := goodIn_r _ [11, 12, 13, 14, 4, 15, 16, 17, 18, 19, 20, 1, 2, 3, 5, 6, 7, 21, 22, 23, 24, 25, 26, 27, 28, 29, 30, 31, 32, 33, 34, 35, 36, 37, 38, 39, 40, 41, 42, 43, 44, 45, 46, 47, 48, 49, 50, 51, 52, 53, 54, 55, 56] (by decide +kernel) (by decide +kernel)
set_option maxRecDepth 20000 in
theorem gX11_plainGroans_X11_rattles : GoodIn wsX11_plainGroans (wsV RX11 241 RX11 yX11_rattles wsX11_rattles) := goodIn_app (goodIn_of _ (by decide +kernel)) ggX11_plainGroans_X11_rattles
set_option maxRecDepth 20000 in
theorem ggX11_plainGroans_X11_of : GoodIn wsX11_plainGroans wsX11_of := goodIn_r _ [15, 16, 37, 38, 39, 40, 41, 42, 43, 44, 45, 46, 47, 48, 49, 50, 51, 52, 53, 54, 55, 56] (by decide +kernel) (by decide +kernel)
set_option maxRecDepth 20000 in
theorem gX11_plainGroans_X11_of : GoodIn wsX11_plainGroans (wsV RX11 51 RX11 yX11_of wsX11_of) := goodIn_app (goodIn_of _ (by decide +kernel)) ggX11_plainGroans_X11_of
theorem dX11_plainGroans_0 : decode cX11_plainGroans 0 = .ok (.aload_n 0, 1) := by decide +kernel
theorem dX11_plainGroans_1 : decode cX11_plainGroans 1 = .ok (.bipush 12, 2) := by decide +kernel
theorem dX11_plainGroans_3 : decode cX11_plainGroans 3 = .ok (.invokevirtual 223, 3) := by decide +kernel
theorem dX11_plainGroans_6 : decode cX11_plainGroans 6 = .ok (.aload_n 0, 1) := by decide +kernel
theorem dX11_plainGroans_7 : decode cX11_plainGroans 7 = .ok (.iload_n 1, 1) := by decide +kernel
theorem dX11_plainGroans_8 : decode cX11_plainGroans 8 = .ok (.iload_n 2, 1) := by decide +kernel
theorem dX11_plainGroans_9 : decode cX11_plainGroans 9 = .ok (.invokevirtual 241, 3) := by decide +kernel
theorem dX11_plainGroans_12 : decode cX11_plainGroans 12 = .ok (.aload_n 0, 1) := by decide +kernel
theorem dX11_plainGroans_13 : decode cX11_plainGroans 13 = .ok (.iload_n 1, 1) := by decide +kernel
theorem dX11_plainGroans_14 : decode cX11_plainGroans 14 = .ok (.iconst 1, 1) := by decide +kernel
theorem dX11_plainGroans_15 : decode cX11_plainGroans 15 = .ok (.invokevirtual 51, 3) := by decide +kernel
theorem dX11_plainGroans_18 : decode cX11_plainGroans 18 = .ok (.isub, 1) := by decide +kernel
theorem dX11_plainGroans_19 : decode cX11_plainGroans 19 = .ok (.ireturn, 1) := by decide +kernel
set_option maxRecDepth 20000 in
theorem ggX11_groans_X11_of : GoodIn wsX11_groans wsX11_of := goodIn_r _ [5, 6, 41, 42, 43, 44, 45, 46, 47, 48, 49, 50, 51, 52, 53, 54, 55, 56, 57, 58, 59, 60] (by decide +kernel) (by decide +kernel)
set_option maxRecDepth 20000 in
theorem gX11_groans_X11_of : GoodIn wsX11_groans (wsV RX11 51 RX11 yX11_of wsX11_of) := goodIn_app (goodIn_of _ (by decide +kernel)) ggX11_groans_X11_of
set_option maxRecDepth 20000 in
theorem ggX11_groans_X11_begins : GoodIn wsX11_groans wsX11_begins := goodIn_r _ [10, 11, 12, 41, 42, 43, 44, 45, 46, 47, 48, 49, 50, 51, 52, 53, 54, 55, 56, 57, 58, 59, 60] (by decide +kernel) (by decide +kernel)
set_option maxRecDepth 20000 in
theorem gX11_groans_X11_begins : GoodIn wsX11_groans (wsV RX11 223 RX11 yX11_begins wsX11_begins) := goodIn_app (goodIn_of _ (by decide +kernel)) ggX11_groans_X11_begins
set_option maxRecDepth 20000 in
theorem ggX11_groans_X11_plainGroans : GoodIn wsX11_groans wsX11_plainGroans := goodIn_r _ [16, 7, 8, 9, 4, 10, 11, 12, 17, 18, 19, 20, 1, 2, 3, 5, 6, 21, 22, 23, 24, 25, 26, 27, 28, 29, 30, 31, 32, 33, 34, 35, 36, 37, 38, 39, 40, 41, 42, 43, 44, 45, 46, 47, 48, 49, 50, 51, 52, 53, 54, 55, 56, 57, 58, 59, 60] (by decide +kernel) (by decide +kernel)
set_option maxRecDepth 20000 in
theorem gX11_groans_X11_plainGroans : GoodIn wsX11_groans (wsV RX11 244 RX11 yX11_plainGroans wsX11_plainGroans) := goodIn_app (goodIn_of _ (by decide +kernel)) ggX11_groans_X11_plainGroans
theorem dX11_groans_0 : decode cX11_groans 0 = .ok (.aload_n 0, 1) := by decide +kernel
theorem dX11_groans_1 : decode cX11_groans 1 = .ok (.iload_n 1, 1) := by decide +kernel
theorem dX11_groans_2 : decode cX11_groans 2 = .ok (.iconst 0, 1) := by decide +kernel
theorem dX11_groans_3 : decode cX11_groans 3 = .ok (.invokevirtual 51, 3) := by decide +kernel
theorem dX11_groans_6 : decode cX11_groans 6 = .ok (.lookupswitch 56 #[(3, 26), (4, 41)], 26) := by decide +kernel
theorem dX11_groans_32 : decode cX11_groans 32 = .ok (.aload_n 0, 1) := by decide +kernel
theorem dX11_groans_33 : decode cX11_groans 33 = .ok (.bipush 40, 2) := by decide +kernel
theorem dX11_groans_35 : decode cX11_groans 35 = .ok (.invokevirtual 223, 3) := by decide +kernel
theorem dX11_groans_38 : decode cX11_groans 38 = .ok (.aload_n 0, 1) := by decide +kernel
theorem dX11_groans_39 : decode cX11_groans 39 = .ok (.iload_n 1, 1) := by decide +kernel
theorem dX11_groans_40 : decode cX11_groans 40 = .ok (.iload_n 2, 1) := by decide +kernel
theorem dX11_groans_41 : decode cX11_groans 41 = .ok (.iconst 2, 1) := by decide +kernel
theorem dX11_groans_42 : decode cX11_groans 42 = .ok (.idiv, 1) := by decide +kernel
theorem dX11_groans_43 : decode cX11_groans 43 = .ok (.invokevirtual 244, 3) := by decide +kernel
theorem dX11_groans_46 : decode cX11_groans 46 = .ok (.ireturn, 1) := by decide +kernel
theorem dX11_groans_47 : decode cX11_groans 47 = .ok (.aload_n 0, 1) := by decide +kernel
theorem dX11_groans_48 : decode cX11_groans 48 = .ok (.bipush 51, 2) := by decide +kernel
theorem dX11_groans_50 : decode cX11_groans 50 = .ok (.invokevirtual 223, 3) := by decide +kernel
theorem dX11_groans_53 : decode cX11_groans 53 = .ok (.aload_n 0, 1) := by decide +kernel
theorem dX11_groans_54 : decode cX11_groans 54 = .ok (.iload_n 1, 1) := by decide +kernel
theorem dX11_groans_55 : decode cX11_groans 55 = .ok (.iload_n 2, 1) := by decide +kernel
theorem dX11_groans_56 : decode cX11_groans 56 = .ok (.invokevirtual 244, 3) := by decide +kernel
theorem dX11_groans_59 : decode cX11_groans 59 = .ok (.iload_n 1, 1) := by decide +kernel
theorem dX11_groans_60 : decode cX11_groans 60 = .ok (.ixor, 1) := by decide +kernel
theorem dX11_groans_61 : decode cX11_groans 61 = .ok (.ireturn, 1) := by decide +kernel
theorem dX11_groans_62 : decode cX11_groans 62 = .ok (.aload_n 0, 1) := by decide +kernel
theorem dX11_groans_63 : decode cX11_groans 63 = .ok (.iload_n 1, 1) := by decide +kernel
theorem dX11_groans_64 : decode cX11_groans 64 = .ok (.iload_n 2, 1) := by decide +kernel
theorem dX11_groans_65 : decode cX11_groans 65 = .ok (.invokevirtual 244, 3) := by decide +kernel
theorem dX11_groans_68 : decode cX11_groans 68 = .ok (.ireturn, 1) := by decide +kernel
set_option maxRecDepth 20000 in
theorem ggX11_plainParts_X11_begins : GoodIn wsX11_plainParts wsX11_begins := goodIn_r _ [6, 7, 8, 14, 15, 16, 17, 18, 19, 20, 21, 22, 23, 24, 25, 26, 27, 28, 29, 30, 31, 32, 33] (by decide +kernel) (by decide +kernel)
set_option maxRecDepth 20000 in
theorem gX11_plainParts_X11_begins : GoodIn wsX11_plainParts (wsV RX11 223 RX11 yX11_begins wsX11_begins) := goodIn_app (goodIn_of _ (by decide +kernel)) ggX11_plainParts_X11_begins
set_option maxRecDepth 20000 in
theorem ggX11_plainParts_X11_of : GoodIn wsX11_plainParts wsX11_of := goodIn_r _ [12, 13, 14, 15, 16, 17, 18, 19, 20, 21, 22, 23, 24, 25, 26, 27, 28, 29, 30, 31, 32, 33] (by decide +kernel) (by decide +kernel)
set_option maxRecDepth 20000 in
theorem gX11_plainParts_X11_of : GoodIn wsX11_plainParts (wsV RX11 51 RX11 yX11_of wsX11_of) := goodIn_app (goodIn_of _ (by decide +kernel)) ggX11_plainParts_X11_of
theorem dX11_plainParts_0 : decode cX11_plainParts 0 = .ok (.aload_n 0, 1) := by decide +kernel
theorem dX11_plainParts_1 : decode cX11_plainParts 1 = .ok (.bipush 13, 2) := by decide +kernel
theorem dX11_plainParts_3 : decode cX11_plainParts 3 = .ok (.invokevirtual 223, 3) := by decide +kernel
theorem dX11_plainParts_6 : decode cX11_plainParts 6 = .ok (.aload_n 0, 1) := by decide +kernel
theorem dX11_plainParts_7 : decode cX11_plainParts 7 = .ok (.iload_n 1, 1) := by decide +kernel
theorem dX11_plainParts_8 : decode cX11_plainParts 8 = .ok (.iconst 1, 1) := by decide +kernel
theorem dX11_plainParts_9 : decode cX11_plainParts 9 = .ok (.invokevirtual 51, 3) := by decide +kernel
theorem dX11_plainParts_12 : decode cX11_plainParts 12 = .ok (.iload_n 1, 1) := by decide +kernel
theorem dX11_plainParts_13 : decode cX11_plainParts 13 = .ok (.isub, 1) := by decide +kernel
theorem dX11_plainParts_14 : decode cX11_plainParts 14 = .ok (.istore_n 3, 1) := by decide +kernel
theorem dX11_plainParts_15 : decode cX11_plainParts 15 = .ok (.aload_n 0, 1) := by decide +kernel
theorem dX11_plainParts_16 : decode cX11_plainParts 16 = .ok (.iload_n 3, 1) := by decide +kernel
theorem dX11_plainParts_17 : decode cX11_plainParts 17 = .ok (.ifCond .ne 7, 3) := by decide +kernel
theorem dX11_plainParts_20 : decode cX11_plainParts 20 = .ok (.iconst 1, 1) := by decide +kernel
theorem dX11_plainParts_21 : decode cX11_plainParts 21 = .ok (.goto 4, 3) := by decide +kernel
theorem dX11_plainParts_24 : decode cX11_plainParts 24 = .ok (.iconst 0, 1) := by decide +kernel
theorem dX11_plainParts_25 : decode cX11_plainParts 25 = .ok (.putfield 247, 3) := by decide +kernel
theorem dX11_plainParts_28 : decode cX11_plainParts 28 = .ok (.aload_n 0, 1) := by decide +kernel
theorem dX11_plainParts_29 : decode cX11_plainParts 29 = .ok (.getfield 247, 3) := by decide +kernel
theorem dX11_plainParts_32 : decode cX11_plainParts 32 = .ok (.ifCond .eq 7, 3) := by decide +kernel
theorem dX11_plainParts_35 : decode cX11_plainParts 35 = .ok (.iconst 0, 1) := by decide +kernel
theorem dX11_plainParts_36 : decode cX11_plainParts 36 = .ok (.goto 6, 3) := by decide +kernel
theorem dX11_plainParts_39 : decode cX11_plainParts 39 = .ok (.iload_n 2, 1) := by decide +kernel
theorem dX11_plainParts_40 : decode cX11_plainParts 40 = .ok (.iload_n 3, 1) := by decide +kernel
theorem dX11_plainParts_41 : decode cX11_plainParts 41 = .ok (.idiv, 1) := by decide +kernel
theorem dX11_plainParts_42 : decode cX11_plainParts 42 = .ok (.ireturn, 1) := by decide +kernel
set_option maxRecDepth 20000 in
theorem ggX11_parts_X11_of : GoodIn wsX11_parts wsX11_of := goodIn_r _ [6, 7, 42, 43, 44, 45, 46, 47, 48, 49, 50, 51, 52, 53, 54, 55, 56, 57, 58, 59, 60, 61] (by decide +kernel) (by decide +kernel)
set_option maxRecDepth 20000 in
theorem gX11_parts_X11_of : GoodIn wsX11_parts (wsV RX11 51 RX11 yX11_of wsX11_of) := goodIn_app (goodIn_of _ (by decide +kernel)) ggX11_parts_X11_of
set_option maxRecDepth 20000 in
theorem ggX11_parts_X11_begins : GoodIn wsX11_parts wsX11_begins := goodIn_r _ [11, 12, 13, 42, 43, 44, 45, 46, 47, 48, 49, 50, 51, 52, 53, 54, 55, 56, 57, 58, 59, 60, 61] (by decide +kernel) (by decide +kernel)
set_option maxRecDepth 20000 in
theorem gX11_parts_X11_begins : GoodIn wsX11_parts (wsV RX11 223 RX11 yX11_begins wsX11_begins) := goodIn_app (goodIn_of _ (by decide +kernel)) ggX11_parts_X11_begins
set_option maxRecDepth 20000 in
theorem ggX11_parts_X11_plainParts : GoodIn wsX11_parts wsX11_plainParts := goodIn_r _ [17, 1, 8, 9, 10, 5, 11, 12, 13, 2, 3, 4, 6, 7, 42, 43, 44, 45, 46, 47, 48, 49, 50, 51, 52, 53, 54, 55, 56, 57, 58, 59, 60, 61] (by decide +kernel) (by decide +kernel)
set_option maxRecDepth 20000 in
theorem gX11_parts_X11_plainParts : GoodIn wsX11_parts (wsV RX11 250 RX11 yX11_plainParts wsX11_plainParts) := goodIn_app (goodIn_of _ (by decide +kernel)) ggX11_parts_X11_plainParts
set_option maxRecDepth 20000 in
theorem ggX11_parts_X11_rattles : GoodIn wsX11_parts wsX11_rattles := goodIn_r _ [21, 2, 3, 4, 5, 6, 7, 22, 23, 24, 25, 8, 9, 10, 11, 12, 13, 26, 27, 28, 29, 30, 31, 32, 33, 34, 35, 36, 37, 38, 39, 40, 41, 42, 43, 44, 45, 46, 47, 48, 49, 50, 51, 52, 53, 54, 55, 56, 57, 58, 59, 60, 61] (by decide +kernel) (by decide +kernel)
set_option maxRecDepth 20000 in
theorem gX11_parts_X11_rattles : GoodIn wsX11_parts (wsV RX11 241 RX11 yX11_rattles wsX11_rattles) := goodIn_app (goodIn_of _ (by decide +kernel)) ggX11_parts_X11_rattles
theorem dX11_parts_0 : decode cX11_parts 0 = .ok (.aload_n 0, 1) := by decide +kernel
theorem dX11_parts_1 : decode cX11_parts 1 = .ok (.iload_n 1, 1) := by decide +kernel
theorem dX11_parts_2 : decode cX11_parts 2 = .ok (.iconst 0, 1) := by decide +kernel
theorem dX11_parts_3 : decode cX11_parts 3 = .ok (.invokevirtual 51, 3) := by decide +kernel
theorem dX11_parts_6 : decode cX11_parts 6 = .ok (.iconst 1, 1) := by decide +kernel
theorem dX11_parts_7 : decode cX11_parts 7 = .ok (.if_icmp .eq 13, 3) := by decide +kernel
theorem dX11_parts_10 : decode cX11_parts 10 = .ok (.aload_n 0, 1) := by decide +kernel
theorem dX11_parts_11 : decode cX11_parts 11 = .ok (.iload_n 1, 1) := by decide +kernel
theorem dX11_parts_12 : decode cX11_parts 12 = .ok (.iconst 0, 1) := by decide +kernel
theorem dX11_parts_13 : decode cX11_parts 13 = .ok (.invokevirtual 51, 3) := by decide +kernel
theorem dX11_parts_16 : decode cX11_parts 16 = .ok (.iconst 4, 1) := by decide +kernel
theorem dX11_parts_17 : decode cX11_parts 17 = .ok (.if_icmp .ne 36, 3) := by decide +kernel
theorem dX11_parts_20 : decode cX11_parts 20 = .ok (.aload_n 0, 1) := by decide +kernel
theorem dX11_parts_21 : decode cX11_parts 21 = .ok (.bipush 21, 2) := by decide +kernel
theorem dX11_parts_23 : decode cX11_parts 23 = .ok (.invokevirtual 223, 3) := by decide +kernel
theorem dX11_parts_26 : decode cX11_parts 26 = .ok (.aload_n 0, 1) := by decide +kernel
theorem dX11_parts_27 : decode cX11_parts 27 = .ok (.iload_n 1, 1) := by decide +kernel
theorem dX11_parts_28 : decode cX11_parts 28 = .ok (.iload_n 2, 1) := by decide +kernel
theorem dX11_parts_29 : decode cX11_parts 29 = .ok (.invokevirtual 250, 3) := by decide +kernel
theorem dX11_parts_32 : decode cX11_parts 32 = .ok (.istore_n 3, 1) := by decide +kernel
theorem dX11_parts_33 : decode cX11_parts 33 = .ok (.aload_n 0, 1) := by decide +kernel
theorem dX11_parts_34 : decode cX11_parts 34 = .ok (.getfield 247, 3) := by decide +kernel
theorem dX11_parts_37 : decode cX11_parts 37 = .ok (.ifCond .eq 7, 3) := by decide +kernel
theorem dX11_parts_40 : decode cX11_parts 40 = .ok (.iconst 0, 1) := by decide +kernel
theorem dX11_parts_41 : decode cX11_parts 41 = .ok (.goto 11, 3) := by decide +kernel
theorem dX11_parts_44 : decode cX11_parts 44 = .ok (.iload_n 3, 1) := by decide +kernel
theorem dX11_parts_45 : decode cX11_parts 45 = .ok (.aload_n 0, 1) := by decide +kernel
theorem dX11_parts_46 : decode cX11_parts 46 = .ok (.iload_n 1, 1) := by decide +kernel
theorem dX11_parts_47 : decode cX11_parts 47 = .ok (.iconst 1, 1) := by decide +kernel
theorem dX11_parts_48 : decode cX11_parts 48 = .ok (.invokevirtual 241, 3) := by decide +kernel
theorem dX11_parts_51 : decode cX11_parts 51 = .ok (.iadd, 1) := by decide +kernel
theorem dX11_parts_52 : decode cX11_parts 52 = .ok (.ireturn, 1) := by decide +kernel
theorem dX11_parts_53 : decode cX11_parts 53 = .ok (.aload_n 0, 1) := by decide +kernel
theorem dX11_parts_54 : decode cX11_parts 54 = .ok (.iload_n 1, 1) := by decide +kernel
theorem dX11_parts_55 : decode cX11_parts 55 = .ok (.iload_n 2, 1) := by decide +kernel
theorem dX11_parts_56 : decode cX11_parts 56 = .ok (.invokevirtual 250, 3) := by decide +kernel
theorem dX11_parts_59 : decode cX11_parts 59 = .ok (.ireturn, 1) := by decide +kernel
set_option maxRecDepth 20000 in
theorem ggX11_voice_X11_isThing : GoodIn wsX11_voice wsX11_isThing := goodIn_r _ [9, 10, 11, 12, 8, 13, 69, 70, 71, 72, 73, 74, 75, 76, 77, 78, 79, 80, 81, 82, 83, 84, 85, 86, 87, 88] (by decide +kernel) (by decide +kernel)
set_option maxRecDepth 20000 in
theorem gX11_voice_X11_isThing : GoodIn wsX11_voice (wsV RX11 85 RX11 yX11_isThing wsX11_isThing) := goodIn_app (goodIn_of _ (by decide +kernel)) ggX11_voice_X11_isThing
set_option maxRecDepth 20000 in
theorem ggX11_voice_X11_in : GoodIn wsX11_voice wsX11_in := goodIn_r _ [13] (by decide +kernel) (by decide +kernel)
set_option maxRecDepth 20000 in
theorem gX11_voice_X11_in : GoodIn wsX11_voice (va_wsS RX11 47 yX11_in wsX11_in) := goodIn_app (goodIn_of _ (by decide +kernel)) ggX11_voice_X11_in
set_option maxRecDepth 20000 in
theorem ggX11_voice_X11_error : GoodIn wsX11_voice wsX11_error := goodIn_r _ [17, 18, 19, 69, 70, 71, 72, 73, 74, 75, 76, 77, 78, 79, 80, 81, 82, 83, 84, 85, 86, 87, 88] (by decide +kernel) (by decide +kernel)
set_option maxRecDepth 20000 in
theorem gX11_voice_X11_error : GoodIn wsX11_voice (wsV RX11 67 RX11 yX11_error wsX11_error) := goodIn_app (goodIn_of _ (by decide +kernel)) ggX11_voice_X11_error
set_option maxRecDepth 20000 in
theorem ggX11_voice_X11_creaks : GoodIn wsX11_voice wsX11_creaks := goodIn_r _ [23, 24, 25, 26, 8, 27, 10, 28, 29, 30, 31, 32, 33, 34, 35, 2, 36, 37, 38, 39, 40, 69, 70, 71, 72, 73, 74, 75, 76, 77, 78, 79, 80, 81, 82, 83, 84, 85, 86, 87, 88] (by decide +kernel) (by decide +kernel)
set_option maxRecDepth 20000 in
theorem gX11_voice_X11_creaks : GoodIn wsX11_voice (wsV RX11 232 RX11 yX11_creaks wsX11_creaks) := goodIn_app (goodIn_of _ (by decide +kernel)) ggX11_voice_X11_creaks
set_option maxRecDepth 20000 in
theorem ggX11_voice_X11_rattles : GoodIn wsX11_voice wsX11_rattles := goodIn_r _ [44, 24, 25, 26, 8, 27, 10, 45, 46, 47, 48, 32, 33, 34, 35, 2, 36, 49, 50, 51, 52, 20, 21, 22, 23, 28, 29, 30, 31, 37, 38, 39, 40, 69, 70, 71, 72, 73, 74, 75, 76, 77, 78, 79, 80, 81, 82, 83, 84, 85, 86, 87, 88] (by decide +kernel) (by decide +kernel)
set_option maxRecDepth 20000 in
theorem gX11_voice_X11_rattles : GoodIn wsX11_voice (wsV RX11 241 RX11 yX11_rattles wsX11_rattles) := goodIn_app (goodIn_of _ (by decide +kernel)) ggX11_voice_X11_rattles
set_option maxRecDepth 20000 in
theorem ggX11_voice_X11_groans : GoodIn wsX11_voice wsX11_groans := goodIn_r _ [56, 24, 25, 26, 8, 27, 10, 32, 33, 34, 35, 2, 36, 57, 58, 59, 60, 41, 42, 43, 44, 45, 46, 47, 48, 49, 50, 51, 52, 20, 21, 22, 23, 28, 29, 30, 31, 37, 38, 39, 40, 69, 70, 71, 72, 73, 74, 75, 76, 77, 78, 79, 80, 81, 82, 83, 84, 85, 86, 87, 88] (by decide +kernel) (by decide +kernel)
set_option maxRecDepth 20000 in
theorem gX11_voice_X11_groans : GoodIn wsX11_voice (wsV RX11 253 RX11 yX11_groans wsX11_groans) := goodIn_app (goodIn_of _ (by decide +kernel)) ggX11_voice_X11_groans
set_option maxRecDepth 20000 in
theorem ggX11_voice_X11_parts : GoodIn wsX11_voice wsX11_parts := goodIn_r _ [64, 3, 24, 25, 26, 8, 27, 10, 32, 33, 34, 35, 2, 36, 65, 66, 67, 68, 41, 42, 43, 44, 45, 46, 47, 48, 49, 50, 51, 52, 20, 21, 22, 23, 28, 29, 30, 31, 37, 38, 39, 40, 69, 70, 71, 72, 73, 74, 75, 76, 77, 78, 79, 80, 81, 82, 83, 84, 85, 86, 87, 88] (by decide +kernel) (by decide +kernel)
set_option maxRecDepth 20000 in
theorem gX11_voice_X11_parts : GoodIn wsX11_voice (wsV RX11 256 RX11 yX11_parts wsX11_parts) := goodIn_app (goodIn_of _ (by decide +kernel)) ggX11_voice_X11_parts
theorem dX11_voice_0 : decode cX11_voice 0 = .ok (.aload_n 0, 1) := by decide +kernel
theorem dX11_voice_1 : decode cX11_voice 1 = .ok (.iload_n 1, 1) := by decide +kernel
theorem dX11_voice_2 : decode cX11_voice 2 = .ok (.invokevirtual 85, 3) := by decide +kernel
theorem dX11_voice_5 : decode cX11_voice 5 = .ok (.ifCond .eq 12, 3) := by decide +kernel
theorem dX11_voice_8 : decode cX11_voice 8 = .ok (.iload_n 2, 1) := by decide +kernel
theorem dX11_voice_9 : decode cX11_voice 9 = .ok (.iconst 0, 1) := by decide +kernel
theorem dX11_voice_10 : decode cX11_voice 10 = .ok (.iconst 3, 1) := by decide +kernel
theorem dX11_voice_11 : decode cX11_voice 11 = .ok (.invokestatic 47, 3) := by decide +kernel
theorem dX11_voice_14 : decode cX11_voice 14 = .ok (.ifCond .ne 10, 3) := by decide +kernel
theorem dX11_voice_17 : decode cX11_voice 17 = .ok (.aload_n 0, 1) := by decide +kernel
theorem dX11_voice_18 : decode cX11_voice 18 = .ok (.ldc 66, 2) := by decide +kernel
theorem dX11_voice_20 : decode cX11_voice 20 = .ok (.invokevirtual 67, 3) := by decide +kernel
theorem dX11_voice_23 : decode cX11_voice 23 = .ok (.ireturn, 1) := by decide +kernel
theorem dX11_voice_24 : decode cX11_voice 24 = .ok (.aload_n 0, 1) := by decide +kernel
theorem dX11_voice_25 : decode cX11_voice 25 = .ok (.iconst 0, 1) := by decide +kernel
theorem dX11_voice_26 : decode cX11_voice 26 = .ok (.putfield 220, 3) := by decide +kernel
theorem dX11_voice_29 : decode cX11_voice 29 = .ok (.aload_n 0, 1) := by decide +kernel
theorem dX11_voice_30 : decode cX11_voice 30 = .ok (.iconst 0, 1) := by decide +kernel
theorem dX11_voice_31 : decode cX11_voice 31 = .ok (.putfield 247, 3) := by decide +kernel
theorem dX11_voice_34 : decode cX11_voice 34 = .ok (.iload_n 2, 1) := by decide +kernel
theorem dX11_voice_35 : decode cX11_voice 35 = .ok (.ifCond .ne 12, 3) := by decide +kernel
theorem dX11_voice_38 : decode cX11_voice 38 = .ok (.aload_n 0, 1) := by decide +kernel
theorem dX11_voice_39 : decode cX11_voice 39 = .ok (.iload_n 1, 1) := by decide +kernel
theorem dX11_voice_40 : decode cX11_voice 40 = .ok (.iload_n 3, 1) := by decide +kernel
theorem dX11_voice_41 : decode cX11_voice 41 = .ok (.invokevirtual 232, 3) := by decide +kernel
theorem dX11_voice_44 : decode cX11_voice 44 = .ok (.goto 37, 3) := by decide +kernel
theorem dX11_voice_47 : decode cX11_voice 47 = .ok (.iload_n 2, 1) := by decide +kernel
theorem dX11_voice_48 : decode cX11_voice 48 = .ok (.iconst 1, 1) := by decide +kernel
theorem dX11_voice_49 : decode cX11_voice 49 = .ok (.if_icmp .ne 12, 3) := by decide +kernel
theorem dX11_voice_52 : decode cX11_voice 52 = .ok (.aload_n 0, 1) := by decide +kernel
theorem dX11_voice_53 : decode cX11_voice 53 = .ok (.iload_n 1, 1) := by decide +kernel
theorem dX11_voice_54 : decode cX11_voice 54 = .ok (.iload_n 3, 1) := by decide +kernel
theorem dX11_voice_55 : decode cX11_voice 55 = .ok (.invokevirtual 241, 3) := by decide +kernel
theorem dX11_voice_58 : decode cX11_voice 58 = .ok (.goto 23, 3) := by decide +kernel
theorem dX11_voice_61 : decode cX11_voice 61 = .ok (.iload_n 2, 1) := by decide +kernel
theorem dX11_voice_62 : decode cX11_voice 62 = .ok (.iconst 2, 1) := by decide +kernel
theorem dX11_voice_63 : decode cX11_voice 63 = .ok (.if_icmp .ne 12, 3) := by decide +kernel
theorem dX11_voice_66 : decode cX11_voice 66 = .ok (.aload_n 0, 1) := by decide +kernel
theorem dX11_voice_67 : decode cX11_voice 67 = .ok (.iload_n 1, 1) := by decide +kernel
theorem dX11_voice_68 : decode cX11_voice 68 = .ok (.iload_n 3, 1) := by decide +kernel
theorem dX11_voice_69 : decode cX11_voice 69 = .ok (.invokevirtual 253, 3) := by decide +kernel
theorem dX11_voice_72 : decode cX11_voice 72 = .ok (.goto 9, 3) := by decide +kernel
theorem dX11_voice_75 : decode cX11_voice 75 = .ok (.aload_n 0, 1) := by decide +kernel
theorem dX11_voice_76 : decode cX11_voice 76 = .ok (.iload_n 1, 1) := by decide +kernel
theorem dX11_voice_77 : decode cX11_voice 77 = .ok (.iload_n 3, 1) := by decide +kernel
theorem dX11_voice_78 : decode cX11_voice 78 = .ok (.invokevirtual 256, 3) := by decide +kernel
theorem dX11_voice_81 : decode cX11_voice 81 = .ok (.istore 4, 2) := by decide +kernel
theorem dX11_voice_83 : decode cX11_voice 83 = .ok (.aload_n 0, 1) := by decide +kernel
theorem dX11_voice_84 : decode cX11_voice 84 = .ok (.getfield 247, 3) := by decide +kernel
theorem dX11_voice_87 : decode cX11_voice 87 = .ok (.ifCond .eq 13, 3) := by decide +kernel
theorem dX11_voice_90 : decode cX11_voice 90 = .ok (.aload_n 0, 1) := by decide +kernel
theorem dX11_voice_91 : decode cX11_voice 91 = .ok (.ldc_w 259, 3) := by decide +kernel
theorem dX11_voice_94 : decode cX11_voice 94 = .ok (.invokevirtual 67, 3) := by decide +kernel
theorem dX11_voice_97 : decode cX11_voice 97 = .ok (.goto 5, 3) := by decide +kernel
theorem dX11_voice_100 : decode cX11_voice 100 = .ok (.iload 4, 2) := by decide +kernel
theorem dX11_voice_102 : decode cX11_voice 102 = .ok (.ireturn, 1) := by decide +kernel
set_option maxRecDepth 20000 in
theorem ggX11_body_X11_in : GoodIn wsX11_body wsX11_in := goodIn_r _ [7] (by decide +kernel) (by decide +kernel)
set_option maxRecDepth 20000 in
theorem gX11_body_X11_in : GoodIn wsX11_body (va_wsS RX11 47 yX11_in wsX11_in) := goodIn_app (goodIn_of _ (by decide +kernel)) ggX11_body_X11_in
set_option maxRecDepth 20000 in
theorem ggX11_body_X11_error : GoodIn wsX11_body wsX11_error := goodIn_r _ [11, 12, 13, 14, 15, 16, 17, 18, 19, 20, 21, 22, 23, 24, 25, 26, 27, 28, 29, 30, 31, 32, 33] (by decide +kernel) (by decide +kernel)
set_option maxRecDepth 20000 in
theorem gX11_body_X11_error : GoodIn wsX11_body (wsV RX11 67 RX11 yX11_error wsX11_error) := goodIn_app (goodIn_of _ (by decide +kernel)) ggX11_body_X11_error
theorem dX11_body_0 : decode cX11_body 0 = .ok (.iload_n 1, 1) := by decide +kernel
theorem dX11_body_1 : decode cX11_body 1 = .ok (.iconst 0, 1) := by decide +kernel
theorem dX11_body_2 : decode cX11_body 2 = .ok (.aload_n 0, 1) := by decide +kernel
theorem dX11_body_3 : decode cX11_body 3 = .ok (.getfield 220, 3) := by decide +kernel
theorem dX11_body_6 : decode cX11_body 6 = .ok (.iconst 1, 1) := by decide +kernel
theorem dX11_body_7 : decode cX11_body 7 = .ok (.isub, 1) := by decide +kernel
theorem dX11_body_8 : decode cX11_body 8 = .ok (.invokestatic 47, 3) := by decide +kernel
theorem dX11_body_11 : decode cX11_body 11 = .ok (.ifCond .eq 12, 3) := by decide +kernel
theorem dX11_body_14 : decode cX11_body 14 = .ok (.aload_n 0, 1) := by decide +kernel
theorem dX11_body_15 : decode cX11_body 15 = .ok (.getfield 43, 3) := by decide +kernel
theorem dX11_body_18 : decode cX11_body 18 = .ok (.iload_n 1, 1) := by decide +kernel
theorem dX11_body_19 : decode cX11_body 19 = .ok (.iaload, 1) := by decide +kernel
theorem dX11_body_20 : decode cX11_body 20 = .ok (.goto 9, 3) := by decide +kernel
theorem dX11_body_23 : decode cX11_body 23 = .ok (.aload_n 0, 1) := by decide +kernel
theorem dX11_body_24 : decode cX11_body 24 = .ok (.ldc 193, 2) := by decide +kernel
theorem dX11_body_26 : decode cX11_body 26 = .ok (.invokevirtual 67, 3) := by decide +kernel
theorem dX11_body_29 : decode cX11_body 29 = .ok (.ireturn, 1) := by decide +kernel
set_option maxRecDepth 20000 in
theorem ggX11_isSheet_X11_in : GoodIn wsX11_isSheet wsX11_in := goodIn_r _ [4] (by decide +kernel) (by decide +kernel)
set_option maxRecDepth 20000 in
theorem gX11_isSheet_X11_in : GoodIn wsX11_isSheet (va_wsS RX11 47 yX11_in wsX11_in) := goodIn_app (goodIn_of _ (by decide +kernel)) ggX11_isSheet_X11_in
theorem dX11_isSheet_0 : decode cX11_isSheet 0 = .ok (.iload_n 0, 1) := by decide +kernel
theorem dX11_isSheet_1 : decode cX11_isSheet 1 = .ok (.iconst 0, 1) := by decide +kernel
theorem dX11_isSheet_2 : decode cX11_isSheet 2 = .ok (.iconst 3, 1) := by decide +kernel
theorem dX11_isSheet_3 : decode cX11_isSheet 3 = .ok (.invokestatic 47, 3) := by decide +kernel
theorem dX11_isSheet_6 : decode cX11_isSheet 6 = .ok (.ireturn, 1) := by decide +kernel
set_option maxRecDepth 20000 in
theorem ggX11_sheet_X11_isSheet : GoodIn wsX11_sheet wsX11_isSheet := goodIn_r _ [9, 10, 11, 8, 12] (by decide +kernel) (by decide +kernel)
set_option maxRecDepth 20000 in
theorem gX11_sheet_X11_isSheet : GoodIn wsX11_sheet (va_wsS RX11 213 yX11_isSheet wsX11_isSheet) := goodIn_app (goodIn_of _ (by decide +kernel)) ggX11_sheet_X11_isSheet
set_option maxRecDepth 20000 in
theorem ggX11_sheet_X11_error : GoodIn wsX11_sheet wsX11_error := goodIn_r _ [16, 17, 18, 19, 20, 21, 22, 23, 24, 25, 26, 27, 28, 29, 30, 31, 32, 33, 34, 35, 36, 37, 38] (by decide +kernel) (by decide +kernel)
set_option maxRecDepth 20000 in
theorem gX11_sheet_X11_error : GoodIn wsX11_sheet (wsV RX11 67 RX11 yX11_error wsX11_error) := goodIn_app (goodIn_of _ (by decide +kernel)) ggX11_sheet_X11_error
theorem dX11_sheet_0 : decode cX11_sheet 0 = .ok (.iload_n 1, 1) := by decide +kernel
theorem dX11_sheet_1 : decode cX11_sheet 1 = .ok (.invokestatic 213, 3) := by decide +kernel
theorem dX11_sheet_4 : decode cX11_sheet 4 = .ok (.ifCond .eq 25, 3) := by decide +kernel
theorem dX11_sheet_7 : decode cX11_sheet 7 = .ok (.iload_n 2, 1) := by decide +kernel
theorem dX11_sheet_8 : decode cX11_sheet 8 = .ok (.ifCond .eq 28, 3) := by decide +kernel
theorem dX11_sheet_11 : decode cX11_sheet 11 = .ok (.iload_n 2, 1) := by decide +kernel
theorem dX11_sheet_12 : decode cX11_sheet 12 = .ok (.bipush 8, 2) := by decide +kernel
theorem dX11_sheet_14 : decode cX11_sheet 14 = .ok (.if_icmp .eq 22, 3) := by decide +kernel
theorem dX11_sheet_17 : decode cX11_sheet 17 = .ok (.iload_n 2, 1) := by decide +kernel
theorem dX11_sheet_18 : decode cX11_sheet 18 = .ok (.bipush 16, 2) := by decide +kernel
theorem dX11_sheet_20 : decode cX11_sheet 20 = .ok (.if_icmp .eq 16, 3) := by decide +kernel
theorem dX11_sheet_23 : decode cX11_sheet 23 = .ok (.iload_n 2, 1) := by decide +kernel
theorem dX11_sheet_24 : decode cX11_sheet 24 = .ok (.bipush 32, 2) := by decide +kernel
theorem dX11_sheet_26 : decode cX11_sheet 26 = .ok (.if_icmp .eq 10, 3) := by decide +kernel
theorem dX11_sheet_29 : decode cX11_sheet 29 = .ok (.aload_n 0, 1) := by decide +kernel
theorem dX11_sheet_30 : decode cX11_sheet 30 = .ok (.ldc 66, 2) := by decide +kernel
theorem dX11_sheet_32 : decode cX11_sheet 32 = .ok (.invokevirtual 67, 3) := by decide +kernel
theorem dX11_sheet_35 : decode cX11_sheet 35 = .ok (.ireturn, 1) := by decide +kernel
theorem dX11_sheet_36 : decode cX11_sheet 36 = .ok (.iload_n 2, 1) := by decide +kernel
theorem dX11_sheet_37 : decode cX11_sheet 37 = .ok (.ifCond .le 14, 3) := by decide +kernel
theorem dX11_sheet_40 : decode cX11_sheet 40 = .ok (.iload_n 3, 1) := by decide +kernel
theorem dX11_sheet_41 : decode cX11_sheet 41 = .ok (.ifCond .ge 10, 3) := by decide +kernel
theorem dX11_sheet_44 : decode cX11_sheet 44 = .ok (.aload_n 0, 1) := by decide +kernel
theorem dX11_sheet_45 : decode cX11_sheet 45 = .ok (.ldc 70, 2) := by decide +kernel
theorem dX11_sheet_47 : decode cX11_sheet 47 = .ok (.invokevirtual 67, 3) := by decide +kernel
theorem dX11_sheet_50 : decode cX11_sheet 50 = .ok (.ireturn, 1) := by decide +kernel
theorem dX11_sheet_51 : decode cX11_sheet 51 = .ok (.iload_n 2, 1) := by decide +kernel
theorem dX11_sheet_52 : decode cX11_sheet 52 = .ok (.ifCond .le 16, 3) := by decide +kernel
theorem dX11_sheet_55 : decode cX11_sheet 55 = .ok (.iload_n 3, 1) := by decide +kernel
theorem dX11_sheet_56 : decode cX11_sheet 56 = .ok (.bipush 24, 2) := by decide +kernel
theorem dX11_sheet_58 : decode cX11_sheet 58 = .ok (.if_icmp .le 10, 3) := by decide +kernel
theorem dX11_sheet_61 : decode cX11_sheet 61 = .ok (.aload_n 0, 1) := by decide +kernel
theorem dX11_sheet_62 : decode cX11_sheet 62 = .ok (.ldc 66, 2) := by decide +kernel
theorem dX11_sheet_64 : decode cX11_sheet 64 = .ok (.invokevirtual 67, 3) := by decide +kernel
theorem dX11_sheet_67 : decode cX11_sheet 67 = .ok (.ireturn, 1) := by decide +kernel
theorem dX11_sheet_68 : decode cX11_sheet 68 = .ok (.aload_n 0, 1) := by decide +kernel
theorem dX11_sheet_69 : decode cX11_sheet 69 = .ok (.getfield 34, 3) := by decide +kernel
theorem dX11_sheet_72 : decode cX11_sheet 72 = .ok (.iload_n 1, 1) := by decide +kernel
theorem dX11_sheet_73 : decode cX11_sheet 73 = .ok (.iload_n 2, 1) := by decide +kernel
theorem dX11_sheet_74 : decode cX11_sheet 74 = .ok (.iastore, 1) := by decide +kernel
theorem dX11_sheet_75 : decode cX11_sheet 75 = .ok (.aload_n 0, 1) := by decide +kernel
theorem dX11_sheet_76 : decode cX11_sheet 76 = .ok (.getfield 37, 3) := by decide +kernel
theorem dX11_sheet_79 : decode cX11_sheet 79 = .ok (.iload_n 1, 1) := by decide +kernel
theorem dX11_sheet_80 : decode cX11_sheet 80 = .ok (.iload_n 2, 1) := by decide +kernel
theorem dX11_sheet_81 : decode cX11_sheet 81 = .ok (.ifCond .ne 7, 3) := by decide +kernel
theorem dX11_sheet_84 : decode cX11_sheet 84 = .ok (.iconst 0, 1) := by decide +kernel
theorem dX11_sheet_85 : decode cX11_sheet 85 = .ok (.goto 4, 3) := by decide +kernel
theorem dX11_sheet_88 : decode cX11_sheet 88 = .ok (.iload_n 3, 1) := by decide +kernel
theorem dX11_sheet_89 : decode cX11_sheet 89 = .ok (.iastore, 1) := by decide +kernel
theorem dX11_sheet_90 : decode cX11_sheet 90 = .ok (.iconst 0, 1) := by decide +kernel
theorem dX11_sheet_91 : decode cX11_sheet 91 = .ok (.istore 4, 2) := by decide +kernel
theorem dX11_sheet_93 : decode cX11_sheet 93 = .ok (.iload 4, 2) := by decide +kernel
theorem dX11_sheet_95 : decode cX11_sheet 95 = .ok (.bipush 24, 2) := by decide +kernel
theorem dX11_sheet_97 : decode cX11_sheet 97 = .ok (.if_icmp .ge 22, 3) := by decide +kernel
theorem dX11_sheet_100 : decode cX11_sheet 100 = .ok (.aload_n 0, 1) := by decide +kernel
theorem dX11_sheet_101 : decode cX11_sheet 101 = .ok (.getfield 40, 3) := by decide +kernel
theorem dX11_sheet_104 : decode cX11_sheet 104 = .ok (.bipush 24, 2) := by decide +kernel
theorem dX11_sheet_106 : decode cX11_sheet 106 = .ok (.iload_n 1, 1) := by decide +kernel
theorem dX11_sheet_107 : decode cX11_sheet 107 = .ok (.imul, 1) := by decide +kernel
theorem dX11_sheet_108 : decode cX11_sheet 108 = .ok (.iload 4, 2) := by decide +kernel
theorem dX11_sheet_110 : decode cX11_sheet 110 = .ok (.iadd, 1) := by decide +kernel
theorem dX11_sheet_111 : decode cX11_sheet 111 = .ok (.iconst 0, 1) := by decide +kernel
theorem dX11_sheet_112 : decode cX11_sheet 112 = .ok (.iastore, 1) := by decide +kernel
theorem dX11_sheet_113 : decode cX11_sheet 113 = .ok (.iinc 4 1, 3) := by decide +kernel
theorem dX11_sheet_116 : decode cX11_sheet 116 = .ok (.goto (-23), 3) := by decide +kernel
theorem dX11_sheet_119 : decode cX11_sheet 119 = .ok (.iconst 1, 1) := by decide +kernel
theorem dX11_sheet_120 : decode cX11_sheet 120 = .ok (.ireturn, 1) := by decide +kernel
set_option maxRecDepth 20000 in
theorem ggX11_notThere_X11_isSheet : GoodIn wsX11_notThere wsX11_isSheet := goodIn_r _ [7, 8, 9, 6, 10] (by decide +kernel) (by decide +kernel)
set_option maxRecDepth 20000 in
theorem gX11_notThere_X11_isSheet : GoodIn wsX11_notThere (va_wsS RX11 213 yX11_isSheet wsX11_isSheet) := goodIn_app (goodIn_of _ (by decide +kernel)) ggX11_notThere_X11_isSheet
theorem dX11_notThere_0 : decode cX11_notThere 0 = .ok (.iload_n 1, 1) := by decide +kernel
theorem dX11_notThere_1 : decode cX11_notThere 1 = .ok (.invokestatic 213, 3) := by decide +kernel
theorem dX11_notThere_4 : decode cX11_notThere 4 = .ok (.ifCond .ne 8, 3) := by decide +kernel
theorem dX11_notThere_7 : decode cX11_notThere 7 = .ok (.ldc 66, 2) := by decide +kernel
theorem dX11_notThere_9 : decode cX11_notThere 9 = .ok (.goto 18, 3) := by decide +kernel
theorem dX11_notThere_12 : decode cX11_notThere 12 = .ok (.aload_n 0, 1) := by decide +kernel
theorem dX11_notThere_13 : decode cX11_notThere 13 = .ok (.getfield 34, 3) := by decide +kernel
theorem dX11_notThere_16 : decode cX11_notThere 16 = .ok (.iload_n 1, 1) := by decide +kernel
theorem dX11_notThere_17 : decode cX11_notThere 17 = .ok (.iaload, 1) := by decide +kernel
theorem dX11_notThere_18 : decode cX11_notThere 18 = .ok (.ifCond .ne 8, 3) := by decide +kernel
theorem dX11_notThere_21 : decode cX11_notThere 21 = .ok (.ldc 193, 2) := by decide +kernel
theorem dX11_notThere_23 : decode cX11_notThere 23 = .ok (.goto 4, 3) := by decide +kernel
theorem dX11_notThere_26 : decode cX11_notThere 26 = .ok (.iconst 0, 1) := by decide +kernel
theorem dX11_notThere_27 : decode cX11_notThere 27 = .ok (.ireturn, 1) := by decide +kernel
set_option maxRecDepth 20000 in
theorem ggX11_put_X11_notThere : GoodIn wsX11_put wsX11_notThere := goodIn_r _ [9, 2, 4, 10, 11, 12, 8, 13, 14, 15, 16, 23, 24, 25, 26, 27, 28, 29, 30, 31, 32, 33, 34, 35, 36, 37, 38, 39, 40, 41, 42] (by decide +kernel) (by decide +kernel)
set_option maxRecDepth 20000 in
theorem gX11_put_X11_notThere : GoodIn wsX11_put (wsV RX11 260 RX11 yX11_notThere wsX11_notThere) := goodIn_app (goodIn_of _ (by decide +kernel)) ggX11_put_X11_notThere
set_option maxRecDepth 20000 in
theorem ggX11_put_X11_in : GoodIn wsX11_put wsX11_in := goodIn_r _ [16] (by decide +kernel) (by decide +kernel)
set_option maxRecDepth 20000 in
theorem gX11_put_X11_in : GoodIn wsX11_put (va_wsS RX11 47 yX11_in wsX11_in) := goodIn_app (goodIn_of _ (by decide +kernel)) ggX11_put_X11_in
set_option maxRecDepth 20000 in
theorem ggX11_put_X11_error : GoodIn wsX11_put wsX11_error := goodIn_r _ [20, 21, 22, 23, 24, 25, 26, 27, 28, 29, 30, 31, 32, 33, 34, 35, 36, 37, 38, 39, 40, 41, 42] (by decide +kernel) (by decide +kernel)
set_option maxRecDepth 20000 in
theorem gX11_put_X11_error : GoodIn wsX11_put (wsV RX11 67 RX11 yX11_error wsX11_error) := goodIn_app (goodIn_of _ (by decide +kernel)) ggX11_put_X11_error
theorem dX11_put_0 : decode cX11_put 0 = .ok (.aload_n 0, 1) := by decide +kernel
theorem dX11_put_1 : decode cX11_put 1 = .ok (.iload_n 1, 1) := by decide +kernel
theorem dX11_put_2 : decode cX11_put 2 = .ok (.invokevirtual 260, 3) := by decide +kernel
theorem dX11_put_5 : decode cX11_put 5 = .ok (.istore 4, 2) := by decide +kernel
theorem dX11_put_7 : decode cX11_put 7 = .ok (.iload 4, 2) := by decide +kernel
theorem dX11_put_9 : decode cX11_put 9 = .ok (.ifCond .ne 24, 3) := by decide +kernel
theorem dX11_put_12 : decode cX11_put 12 = .ok (.iload_n 2, 1) := by decide +kernel
theorem dX11_put_13 : decode cX11_put 13 = .ok (.iconst 0, 1) := by decide +kernel
theorem dX11_put_14 : decode cX11_put 14 = .ok (.aload_n 0, 1) := by decide +kernel
theorem dX11_put_15 : decode cX11_put 15 = .ok (.getfield 37, 3) := by decide +kernel
theorem dX11_put_18 : decode cX11_put 18 = .ok (.iload_n 1, 1) := by decide +kernel
theorem dX11_put_19 : decode cX11_put 19 = .ok (.iaload, 1) := by decide +kernel
theorem dX11_put_20 : decode cX11_put 20 = .ok (.iconst 1, 1) := by decide +kernel
theorem dX11_put_21 : decode cX11_put 21 = .ok (.isub, 1) := by decide +kernel
theorem dX11_put_22 : decode cX11_put 22 = .ok (.invokestatic 47, 3) := by decide +kernel
theorem dX11_put_25 : decode cX11_put 25 = .ok (.ifCond .ne 8, 3) := by decide +kernel
theorem dX11_put_28 : decode cX11_put 28 = .ok (.ldc 66, 2) := by decide +kernel
theorem dX11_put_30 : decode cX11_put 30 = .ok (.goto 5, 3) := by decide +kernel
theorem dX11_put_33 : decode cX11_put 33 = .ok (.iload 4, 2) := by decide +kernel
theorem dX11_put_35 : decode cX11_put 35 = .ok (.istore 4, 2) := by decide +kernel
theorem dX11_put_37 : decode cX11_put 37 = .ok (.iload 4, 2) := by decide +kernel
theorem dX11_put_39 : decode cX11_put 39 = .ok (.ifCond .eq 10, 3) := by decide +kernel
theorem dX11_put_42 : decode cX11_put 42 = .ok (.aload_n 0, 1) := by decide +kernel
theorem dX11_put_43 : decode cX11_put 43 = .ok (.iload 4, 2) := by decide +kernel
theorem dX11_put_45 : decode cX11_put 45 = .ok (.invokevirtual 67, 3) := by decide +kernel
theorem dX11_put_48 : decode cX11_put 48 = .ok (.ireturn, 1) := by decide +kernel
theorem dX11_put_49 : decode cX11_put 49 = .ok (.aload_n 0, 1) := by decide +kernel
theorem dX11_put_50 : decode cX11_put 50 = .ok (.getfield 40, 3) := by decide +kernel
theorem dX11_put_53 : decode cX11_put 53 = .ok (.bipush 24, 2) := by decide +kernel
theorem dX11_put_55 : decode cX11_put 55 = .ok (.iload_n 1, 1) := by decide +kernel
theorem dX11_put_56 : decode cX11_put 56 = .ok (.imul, 1) := by decide +kernel
theorem dX11_put_57 : decode cX11_put 57 = .ok (.iload_n 2, 1) := by decide +kernel
theorem dX11_put_58 : decode cX11_put 58 = .ok (.iadd, 1) := by decide +kernel
theorem dX11_put_59 : decode cX11_put 59 = .ok (.aload_n 0, 1) := by decide +kernel
theorem dX11_put_60 : decode cX11_put 60 = .ok (.getfield 34, 3) := by decide +kernel
theorem dX11_put_63 : decode cX11_put 63 = .ok (.iload_n 1, 1) := by decide +kernel
theorem dX11_put_64 : decode cX11_put 64 = .ok (.iaload, 1) := by decide +kernel
theorem dX11_put_65 : decode cX11_put 65 = .ok (.bipush 8, 2) := by decide +kernel
theorem dX11_put_67 : decode cX11_put 67 = .ok (.if_icmp .ne 8, 3) := by decide +kernel
theorem dX11_put_70 : decode cX11_put 70 = .ok (.iload_n 3, 1) := by decide +kernel
theorem dX11_put_71 : decode cX11_put 71 = .ok (.i2b, 1) := by decide +kernel
theorem dX11_put_72 : decode cX11_put 72 = .ok (.goto 20, 3) := by decide +kernel
theorem dX11_put_75 : decode cX11_put 75 = .ok (.aload_n 0, 1) := by decide +kernel
theorem dX11_put_76 : decode cX11_put 76 = .ok (.getfield 34, 3) := by decide +kernel
theorem dX11_put_79 : decode cX11_put 79 = .ok (.iload_n 1, 1) := by decide +kernel
theorem dX11_put_80 : decode cX11_put 80 = .ok (.iaload, 1) := by decide +kernel
theorem dX11_put_81 : decode cX11_put 81 = .ok (.bipush 16, 2) := by decide +kernel
theorem dX11_put_83 : decode cX11_put 83 = .ok (.if_icmp .ne 8, 3) := by decide +kernel
theorem dX11_put_86 : decode cX11_put 86 = .ok (.iload_n 3, 1) := by decide +kernel
theorem dX11_put_87 : decode cX11_put 87 = .ok (.i2s, 1) := by decide +kernel
theorem dX11_put_88 : decode cX11_put 88 = .ok (.goto 4, 3) := by decide +kernel
theorem dX11_put_91 : decode cX11_put 91 = .ok (.iload_n 3, 1) := by decide +kernel
theorem dX11_put_92 : decode cX11_put 92 = .ok (.iastore, 1) := by decide +kernel
theorem dX11_put_93 : decode cX11_put 93 = .ok (.iconst 1, 1) := by decide +kernel
theorem dX11_put_94 : decode cX11_put 94 = .ok (.ireturn, 1) := by decide +kernel
set_option maxRecDepth 20000 in
theorem ggX11_notMoved_X11_isSheet : GoodIn wsX11_notMoved wsX11_isSheet := goodIn_r _ [9, 10, 11, 8, 12] (by decide +kernel) (by decide +kernel)
set_option maxRecDepth 20000 in
theorem gX11_notMoved_X11_isSheet : GoodIn wsX11_notMoved (va_wsS RX11 213 yX11_isSheet wsX11_isSheet) := goodIn_app (goodIn_of _ (by decide +kernel)) ggX11_notMoved_X11_isSheet
theorem dX11_notMoved_0 : decode cX11_notMoved 0 = .ok (.iload_n 1, 1) := by decide +kernel
theorem dX11_notMoved_1 : decode cX11_notMoved 1 = .ok (.invokestatic 213, 3) := by decide +kernel
theorem dX11_notMoved_4 : decode cX11_notMoved 4 = .ok (.ifCond .eq 10, 3) := by decide +kernel
theorem dX11_notMoved_7 : decode cX11_notMoved 7 = .ok (.iload_n 3, 1) := by decide +kernel
theorem dX11_notMoved_8 : decode cX11_notMoved 8 = .ok (.invokestatic 213, 3) := by decide +kernel
theorem dX11_notMoved_11 : decode cX11_notMoved 11 = .ok (.ifCond .ne 6, 3) := by decide +kernel
theorem dX11_notMoved_14 : decode cX11_notMoved 14 = .ok (.ldc 66, 2) := by decide +kernel
theorem dX11_notMoved_16 : decode cX11_notMoved 16 = .ok (.ireturn, 1) := by decide +kernel
theorem dX11_notMoved_17 : decode cX11_notMoved 17 = .ok (.aload_n 0, 1) := by decide +kernel
theorem dX11_notMoved_18 : decode cX11_notMoved 18 = .ok (.getfield 34, 3) := by decide +kernel
theorem dX11_notMoved_21 : decode cX11_notMoved 21 = .ok (.iload_n 1, 1) := by decide +kernel
theorem dX11_notMoved_22 : decode cX11_notMoved 22 = .ok (.iaload, 1) := by decide +kernel
theorem dX11_notMoved_23 : decode cX11_notMoved 23 = .ok (.ifCond .eq 12, 3) := by decide +kernel
theorem dX11_notMoved_26 : decode cX11_notMoved 26 = .ok (.aload_n 0, 1) := by decide +kernel
theorem dX11_notMoved_27 : decode cX11_notMoved 27 = .ok (.getfield 34, 3) := by decide +kernel
theorem dX11_notMoved_30 : decode cX11_notMoved 30 = .ok (.iload_n 3, 1) := by decide +kernel
theorem dX11_notMoved_31 : decode cX11_notMoved 31 = .ok (.iaload, 1) := by decide +kernel
theorem dX11_notMoved_32 : decode cX11_notMoved 32 = .ok (.ifCond .ne 6, 3) := by decide +kernel
theorem dX11_notMoved_35 : decode cX11_notMoved 35 = .ok (.ldc 193, 2) := by decide +kernel
theorem dX11_notMoved_37 : decode cX11_notMoved 37 = .ok (.ireturn, 1) := by decide +kernel
theorem dX11_notMoved_38 : decode cX11_notMoved 38 = .ok (.aload_n 0, 1) := by decide +kernel
theorem dX11_notMoved_39 : decode cX11_notMoved 39 = .ok (.getfield 34, 3) := by decide +kernel
theorem dX11_notMoved_42 : decode cX11_notMoved 42 = .ok (.iload_n 1, 1) := by decide +kernel
theorem dX11_notMoved_43 : decode cX11_notMoved 43 = .ok (.iaload, 1) := by decide +kernel
theorem dX11_notMoved_44 : decode cX11_notMoved 44 = .ok (.aload_n 0, 1) := by decide +kernel
theorem dX11_notMoved_45 : decode cX11_notMoved 45 = .ok (.getfield 34, 3) := by decide +kernel
theorem dX11_notMoved_48 : decode cX11_notMoved 48 = .ok (.iload_n 3, 1) := by decide +kernel
theorem dX11_notMoved_49 : decode cX11_notMoved 49 = .ok (.iaload, 1) := by decide +kernel
theorem dX11_notMoved_50 : decode cX11_notMoved 50 = .ok (.if_icmp .eq 6, 3) := by decide +kernel
theorem dX11_notMoved_53 : decode cX11_notMoved 53 = .ok (.ldc 88, 2) := by decide +kernel
theorem dX11_notMoved_55 : decode cX11_notMoved 55 = .ok (.ireturn, 1) := by decide +kernel
theorem dX11_notMoved_56 : decode cX11_notMoved 56 = .ok (.iload 5, 2) := by decide +kernel
theorem dX11_notMoved_58 : decode cX11_notMoved 58 = .ok (.ifCond .lt 43, 3) := by decide +kernel
theorem dX11_notMoved_61 : decode cX11_notMoved 61 = .ok (.iload_n 2, 1) := by decide +kernel
theorem dX11_notMoved_62 : decode cX11_notMoved 62 = .ok (.ifCond .lt 39, 3) := by decide +kernel
theorem dX11_notMoved_65 : decode cX11_notMoved 65 = .ok (.iload 4, 2) := by decide +kernel
theorem dX11_notMoved_67 : decode cX11_notMoved 67 = .ok (.ifCond .lt 34, 3) := by decide +kernel
theorem dX11_notMoved_70 : decode cX11_notMoved 70 = .ok (.iload 5, 2) := by decide +kernel
theorem dX11_notMoved_72 : decode cX11_notMoved 72 = .ok (.aload_n 0, 1) := by decide +kernel
theorem dX11_notMoved_73 : decode cX11_notMoved 73 = .ok (.getfield 37, 3) := by decide +kernel
theorem dX11_notMoved_76 : decode cX11_notMoved 76 = .ok (.iload_n 1, 1) := by decide +kernel
theorem dX11_notMoved_77 : decode cX11_notMoved 77 = .ok (.iaload, 1) := by decide +kernel
theorem dX11_notMoved_78 : decode cX11_notMoved 78 = .ok (.iload_n 2, 1) := by decide +kernel
theorem dX11_notMoved_79 : decode cX11_notMoved 79 = .ok (.isub, 1) := by decide +kernel
theorem dX11_notMoved_80 : decode cX11_notMoved 80 = .ok (.if_icmp .gt 21, 3) := by decide +kernel
theorem dX11_notMoved_83 : decode cX11_notMoved 83 = .ok (.iload 5, 2) := by decide +kernel
theorem dX11_notMoved_85 : decode cX11_notMoved 85 = .ok (.aload_n 0, 1) := by decide +kernel
theorem dX11_notMoved_86 : decode cX11_notMoved 86 = .ok (.getfield 37, 3) := by decide +kernel
theorem dX11_notMoved_89 : decode cX11_notMoved 89 = .ok (.iload_n 3, 1) := by decide +kernel
theorem dX11_notMoved_90 : decode cX11_notMoved 90 = .ok (.iaload, 1) := by decide +kernel
theorem dX11_notMoved_91 : decode cX11_notMoved 91 = .ok (.iload 4, 2) := by decide +kernel
theorem dX11_notMoved_93 : decode cX11_notMoved 93 = .ok (.isub, 1) := by decide +kernel
theorem dX11_notMoved_94 : decode cX11_notMoved 94 = .ok (.if_icmp .gt 7, 3) := by decide +kernel
theorem dX11_notMoved_97 : decode cX11_notMoved 97 = .ok (.iconst 1, 1) := by decide +kernel
theorem dX11_notMoved_98 : decode cX11_notMoved 98 = .ok (.goto 4, 3) := by decide +kernel
theorem dX11_notMoved_101 : decode cX11_notMoved 101 = .ok (.iconst 0, 1) := by decide +kernel
theorem dX11_notMoved_102 : decode cX11_notMoved 102 = .ok (.istore 6, 2) := by decide +kernel
theorem dX11_notMoved_104 : decode cX11_notMoved 104 = .ok (.iload 6, 2) := by decide +kernel
theorem dX11_notMoved_106 : decode cX11_notMoved 106 = .ok (.ifCond .eq 7, 3) := by decide +kernel
theorem dX11_notMoved_109 : decode cX11_notMoved 109 = .ok (.iconst 0, 1) := by decide +kernel
theorem dX11_notMoved_110 : decode cX11_notMoved 110 = .ok (.goto 5, 3) := by decide +kernel
theorem dX11_notMoved_113 : decode cX11_notMoved 113 = .ok (.ldc 66, 2) := by decide +kernel
theorem dX11_notMoved_115 : decode cX11_notMoved 115 = .ok (.ireturn, 1) := by decide +kernel
set_option maxRecDepth 20000 in
theorem ggX11_move_X11_notMoved : GoodIn wsX11_move wsX11_notMoved := goodIn_r _ [6, 7, 8, 9, 10, 11, 12, 13, 5, 14, 15, 16, 17, 24, 25, 26, 27, 28, 29, 30, 31, 32, 33, 34, 35, 36, 37, 38, 39, 40, 41, 42, 43] (by decide +kernel) (by decide +kernel)
set_option maxRecDepth 20000 in
theorem gX11_move_X11_notMoved : GoodIn wsX11_move (wsV RX11 263 RX11 yX11_notMoved wsX11_notMoved) := goodIn_app (goodIn_of _ (by decide +kernel)) ggX11_move_X11_notMoved
set_option maxRecDepth 20000 in
theorem ggX11_move_X11_error : GoodIn wsX11_move wsX11_error := goodIn_r _ [21, 22, 23, 24, 25, 26, 27, 28, 29, 30, 31, 32, 33, 34, 35, 36, 37, 38, 39, 40, 41, 42, 43] (by decide +kernel) (by decide +kernel)
set_option maxRecDepth 20000 in
theorem gX11_move_X11_error : GoodIn wsX11_move (wsV RX11 67 RX11 yX11_error wsX11_error) := goodIn_app (goodIn_of _ (by decide +kernel)) ggX11_move_X11_error
theorem dX11_move_0 : decode cX11_move 0 = .ok (.aload_n 0, 1) := by decide +kernel
theorem dX11_move_1 : decode cX11_move 1 = .ok (.iload_n 1, 1) := by decide +kernel
theorem dX11_move_2 : decode cX11_move 2 = .ok (.iload_n 2, 1) := by decide +kernel
theorem dX11_move_3 : decode cX11_move 3 = .ok (.iload_n 3, 1) := by decide +kernel
theorem dX11_move_4 : decode cX11_move 4 = .ok (.iload 4, 2) := by decide +kernel
theorem dX11_move_6 : decode cX11_move 6 = .ok (.iload 5, 2) := by decide +kernel
theorem dX11_move_8 : decode cX11_move 8 = .ok (.invokevirtual 263, 3) := by decide +kernel
theorem dX11_move_11 : decode cX11_move 11 = .ok (.istore 6, 2) := by decide +kernel
theorem dX11_move_13 : decode cX11_move 13 = .ok (.iload 6, 2) := by decide +kernel
theorem dX11_move_15 : decode cX11_move 15 = .ok (.ifCond .eq 10, 3) := by decide +kernel
theorem dX11_move_18 : decode cX11_move 18 = .ok (.aload_n 0, 1) := by decide +kernel
theorem dX11_move_19 : decode cX11_move 19 = .ok (.iload 6, 2) := by decide +kernel
theorem dX11_move_21 : decode cX11_move 21 = .ok (.invokevirtual 67, 3) := by decide +kernel
theorem dX11_move_24 : decode cX11_move 24 = .ok (.ireturn, 1) := by decide +kernel
theorem dX11_move_25 : decode cX11_move 25 = .ok (.iconst 0, 1) := by decide +kernel
theorem dX11_move_26 : decode cX11_move 26 = .ok (.istore 7, 2) := by decide +kernel
theorem dX11_move_28 : decode cX11_move 28 = .ok (.iload 7, 2) := by decide +kernel
theorem dX11_move_30 : decode cX11_move 30 = .ok (.iload 5, 2) := by decide +kernel
theorem dX11_move_32 : decode cX11_move 32 = .ok (.if_icmp .ge 58, 3) := by decide +kernel
theorem dX11_move_35 : decode cX11_move 35 = .ok (.iload_n 2, 1) := by decide +kernel
theorem dX11_move_36 : decode cX11_move 36 = .ok (.iload 4, 2) := by decide +kernel
theorem dX11_move_38 : decode cX11_move 38 = .ok (.if_icmp .ge 13, 3) := by decide +kernel
theorem dX11_move_41 : decode cX11_move 41 = .ok (.iload 5, 2) := by decide +kernel
theorem dX11_move_43 : decode cX11_move 43 = .ok (.iconst 1, 1) := by decide +kernel
theorem dX11_move_44 : decode cX11_move 44 = .ok (.isub, 1) := by decide +kernel
theorem dX11_move_45 : decode cX11_move 45 = .ok (.iload 7, 2) := by decide +kernel
theorem dX11_move_47 : decode cX11_move 47 = .ok (.isub, 1) := by decide +kernel
theorem dX11_move_48 : decode cX11_move 48 = .ok (.goto 5, 3) := by decide +kernel
theorem dX11_move_51 : decode cX11_move 51 = .ok (.iload 7, 2) := by decide +kernel
theorem dX11_move_53 : decode cX11_move 53 = .ok (.istore 8, 2) := by decide +kernel
theorem dX11_move_55 : decode cX11_move 55 = .ok (.aload_n 0, 1) := by decide +kernel
theorem dX11_move_56 : decode cX11_move 56 = .ok (.getfield 40, 3) := by decide +kernel
theorem dX11_move_59 : decode cX11_move 59 = .ok (.bipush 24, 2) := by decide +kernel
theorem dX11_move_61 : decode cX11_move 61 = .ok (.iload_n 3, 1) := by decide +kernel
theorem dX11_move_62 : decode cX11_move 62 = .ok (.imul, 1) := by decide +kernel
theorem dX11_move_63 : decode cX11_move 63 = .ok (.iload 4, 2) := by decide +kernel
theorem dX11_move_65 : decode cX11_move 65 = .ok (.iadd, 1) := by decide +kernel
theorem dX11_move_66 : decode cX11_move 66 = .ok (.iload 8, 2) := by decide +kernel
theorem dX11_move_68 : decode cX11_move 68 = .ok (.iadd, 1) := by decide +kernel
theorem dX11_move_69 : decode cX11_move 69 = .ok (.aload_n 0, 1) := by decide +kernel
theorem dX11_move_70 : decode cX11_move 70 = .ok (.getfield 40, 3) := by decide +kernel
theorem dX11_move_73 : decode cX11_move 73 = .ok (.bipush 24, 2) := by decide +kernel
theorem dX11_move_75 : decode cX11_move 75 = .ok (.iload_n 1, 1) := by decide +kernel
theorem dX11_move_76 : decode cX11_move 76 = .ok (.imul, 1) := by decide +kernel
theorem dX11_move_77 : decode cX11_move 77 = .ok (.iload_n 2, 1) := by decide +kernel
theorem dX11_move_78 : decode cX11_move 78 = .ok (.iadd, 1) := by decide +kernel
theorem dX11_move_79 : decode cX11_move 79 = .ok (.iload 8, 2) := by decide +kernel
theorem dX11_move_81 : decode cX11_move 81 = .ok (.iadd, 1) := by decide +kernel
theorem dX11_move_82 : decode cX11_move 82 = .ok (.iaload, 1) := by decide +kernel
theorem dX11_move_83 : decode cX11_move 83 = .ok (.iastore, 1) := by decide +kernel
theorem dX11_move_84 : decode cX11_move 84 = .ok (.iinc 7 1, 3) := by decide +kernel
theorem dX11_move_87 : decode cX11_move 87 = .ok (.goto (-59), 3) := by decide +kernel
theorem dX11_move_90 : decode cX11_move 90 = .ok (.iload 5, 2) := by decide +kernel
theorem dX11_move_92 : decode cX11_move 92 = .ok (.ireturn, 1) := by decide +kernel
set_option maxRecDepth 20000 in
theorem ggX11_walls_X11_notThere : GoodIn wsX11_walls wsX11_notThere := goodIn_r _ [8, 9, 10, 11, 12, 13, 7, 14, 15, 16, 17, 32, 33, 34, 35, 36, 37, 38, 39, 40, 41, 42, 43, 44, 45, 46, 47, 48, 49, 50, 51] (by decide +kernel) (by decide +kernel)
set_option maxRecDepth 20000 in
theorem gX11_walls_X11_notThere : GoodIn wsX11_walls (wsV RX11 260 RX11 yX11_notThere wsX11_notThere) := goodIn_app (goodIn_of _ (by decide +kernel)) ggX11_walls_X11_notThere
set_option maxRecDepth 20000 in
theorem ggX11_walls_X11_error : GoodIn wsX11_walls wsX11_error := goodIn_r _ [21, 22, 23, 32, 33, 34, 35, 36, 37, 38, 39, 40, 41, 42, 43, 44, 45, 46, 47, 48, 49, 50, 51] (by decide +kernel) (by decide +kernel)
set_option maxRecDepth 20000 in
theorem gX11_walls_X11_error : GoodIn wsX11_walls (wsV RX11 67 RX11 yX11_error wsX11_error) := goodIn_app (goodIn_of _ (by decide +kernel)) ggX11_walls_X11_error
set_option maxRecDepth 20000 in
theorem ggX11_walls_X11_inCell : GoodIn wsX11_walls wsX11_inCell := goodIn_r _ [27, 3, 28, 29, 30, 7, 31, 32, 33, 34, 35, 36, 37, 38, 39, 40, 41, 42, 43, 44, 45, 46, 47, 48, 49, 50, 51] (by decide +kernel) (by decide +kernel)
set_option maxRecDepth 20000 in
theorem gX11_walls_X11_inCell : GoodIn wsX11_walls (wsV RX11 59 RX11 yX11_inCell wsX11_inCell) := goodIn_app (goodIn_of _ (by decide +kernel)) ggX11_walls_X11_inCell
set_option maxRecDepth 20000 in
theorem ggX11_walls_X11_in : GoodIn wsX11_walls wsX11_in := goodIn_r _ [17] (by decide +kernel) (by decide +kernel)
set_option maxRecDepth 20000 in
theorem gX11_walls_X11_in : GoodIn wsX11_walls (va_wsS RX11 47 yX11_in wsX11_in) := goodIn_app (goodIn_of _ (by decide +kernel)) ggX11_walls_X11_in
theorem dX11_walls_0 : decode cX11_walls 0 = .ok (.aload_n 0, 1) := by decide +kernel
theorem dX11_walls_1 : decode cX11_walls 1 = .ok (.iload_n 1, 1) := by decide +kernel
theorem dX11_walls_2 : decode cX11_walls 2 = .ok (.invokevirtual 260, 3) := by decide +kernel
theorem dX11_walls_5 : decode cX11_walls 5 = .ok (.istore_n 2, 1) := by decide +kernel
theorem dX11_walls_6 : decode cX11_walls 6 = .ok (.iload_n 2, 1) := by decide +kernel
theorem dX11_walls_7 : decode cX11_walls 7 = .ok (.ifCond .eq 9, 3) := by decide +kernel
theorem dX11_walls_10 : decode cX11_walls 10 = .ok (.aload_n 0, 1) := by decide +kernel
theorem dX11_walls_11 : decode cX11_walls 11 = .ok (.iload_n 2, 1) := by decide +kernel
theorem dX11_walls_12 : decode cX11_walls 12 = .ok (.invokevirtual 67, 3) := by decide +kernel
theorem dX11_walls_15 : decode cX11_walls 15 = .ok (.ireturn, 1) := by decide +kernel
theorem dX11_walls_16 : decode cX11_walls 16 = .ok (.iconst 0, 1) := by decide +kernel
theorem dX11_walls_17 : decode cX11_walls 17 = .ok (.istore_n 3, 1) := by decide +kernel
theorem dX11_walls_18 : decode cX11_walls 18 = .ok (.iload_n 3, 1) := by decide +kernel
theorem dX11_walls_19 : decode cX11_walls 19 = .ok (.aload_n 0, 1) := by decide +kernel
theorem dX11_walls_20 : decode cX11_walls 20 = .ok (.getfield 37, 3) := by decide +kernel
theorem dX11_walls_23 : decode cX11_walls 23 = .ok (.iload_n 1, 1) := by decide +kernel
theorem dX11_walls_24 : decode cX11_walls 24 = .ok (.iaload, 1) := by decide +kernel
theorem dX11_walls_25 : decode cX11_walls 25 = .ok (.if_icmp .ge 59, 3) := by decide +kernel
theorem dX11_walls_28 : decode cX11_walls 28 = .ok (.aload_n 0, 1) := by decide +kernel
theorem dX11_walls_29 : decode cX11_walls 29 = .ok (.getfield 40, 3) := by decide +kernel
theorem dX11_walls_32 : decode cX11_walls 32 = .ok (.bipush 24, 2) := by decide +kernel
theorem dX11_walls_34 : decode cX11_walls 34 = .ok (.iload_n 1, 1) := by decide +kernel
theorem dX11_walls_35 : decode cX11_walls 35 = .ok (.imul, 1) := by decide +kernel
theorem dX11_walls_36 : decode cX11_walls 36 = .ok (.iload_n 3, 1) := by decide +kernel
theorem dX11_walls_37 : decode cX11_walls 37 = .ok (.iadd, 1) := by decide +kernel
theorem dX11_walls_38 : decode cX11_walls 38 = .ok (.iaload, 1) := by decide +kernel
theorem dX11_walls_39 : decode cX11_walls 39 = .ok (.iconst 0, 1) := by decide +kernel
theorem dX11_walls_40 : decode cX11_walls 40 = .ok (.aload_n 0, 1) := by decide +kernel
theorem dX11_walls_41 : decode cX11_walls 41 = .ok (.iload_n 3, 1) := by decide +kernel
theorem dX11_walls_42 : decode cX11_walls 42 = .ok (.invokevirtual 59, 3) := by decide +kernel
theorem dX11_walls_45 : decode cX11_walls 45 = .ok (.ifCond .ge 7, 3) := by decide +kernel
theorem dX11_walls_48 : decode cX11_walls 48 = .ok (.iconst 1, 1) := by decide +kernel
theorem dX11_walls_49 : decode cX11_walls 49 = .ok (.goto 4, 3) := by decide +kernel
theorem dX11_walls_52 : decode cX11_walls 52 = .ok (.iconst 0, 1) := by decide +kernel
theorem dX11_walls_53 : decode cX11_walls 53 = .ok (.invokestatic 47, 3) := by decide +kernel
theorem dX11_walls_56 : decode cX11_walls 56 = .ok (.ifCond .eq 28, 3) := by decide +kernel
theorem dX11_walls_59 : decode cX11_walls 59 = .ok (.aload_n 0, 1) := by decide +kernel
theorem dX11_walls_60 : decode cX11_walls 60 = .ok (.getfield 9, 3) := by decide +kernel
theorem dX11_walls_63 : decode cX11_walls 63 = .ok (.iconst 5, 1) := by decide +kernel
theorem dX11_walls_64 : decode cX11_walls 64 = .ok (.iload_n 3, 1) := by decide +kernel
theorem dX11_walls_65 : decode cX11_walls 65 = .ok (.iadd, 1) := by decide +kernel
theorem dX11_walls_66 : decode cX11_walls 66 = .ok (.aload_n 0, 1) := by decide +kernel
theorem dX11_walls_67 : decode cX11_walls 67 = .ok (.getfield 40, 3) := by decide +kernel
theorem dX11_walls_70 : decode cX11_walls 70 = .ok (.bipush 24, 2) := by decide +kernel
theorem dX11_walls_72 : decode cX11_walls 72 = .ok (.iload_n 1, 1) := by decide +kernel
theorem dX11_walls_73 : decode cX11_walls 73 = .ok (.imul, 1) := by decide +kernel
theorem dX11_walls_74 : decode cX11_walls 74 = .ok (.iload_n 3, 1) := by decide +kernel
theorem dX11_walls_75 : decode cX11_walls 75 = .ok (.iadd, 1) := by decide +kernel
theorem dX11_walls_76 : decode cX11_walls 76 = .ok (.iaload, 1) := by decide +kernel
theorem dX11_walls_77 : decode cX11_walls 77 = .ok (.iastore, 1) := by decide +kernel
theorem dX11_walls_78 : decode cX11_walls 78 = .ok (.iinc 3 1, 3) := by decide +kernel
theorem dX11_walls_81 : decode cX11_walls 81 = .ok (.goto (-63), 3) := by decide +kernel
theorem dX11_walls_84 : decode cX11_walls 84 = .ok (.iload_n 3, 1) := by decide +kernel
theorem dX11_walls_85 : decode cX11_walls 85 = .ok (.ireturn, 1) := by decide +kernel
set_option maxRecDepth 20000 in
theorem ggX11_judge_X11_notThere : GoodIn wsX11_judge wsX11_notThere := goodIn_r _ [8, 9, 10, 11, 12, 13, 7, 14, 15, 16, 17, 41, 42, 43, 44, 45, 46, 47, 48, 49, 50, 51, 52, 53, 54, 55, 56, 57, 58, 59, 60] (by decide +kernel) (by decide +kernel)
set_option maxRecDepth 20000 in
theorem gX11_judge_X11_notThere : GoodIn wsX11_judge (wsV RX11 260 RX11 yX11_notThere wsX11_notThere) := goodIn_app (goodIn_of _ (by decide +kernel)) ggX11_judge_X11_notThere
set_option maxRecDepth 20000 in
theorem ggX11_judge_X11_error : GoodIn wsX11_judge wsX11_error := goodIn_r _ [21, 22, 23, 41, 42, 43, 44, 45, 46, 47, 48, 49, 50, 51, 52, 53, 54, 55, 56, 57, 58, 59, 60] (by decide +kernel) (by decide +kernel)
set_option maxRecDepth 20000 in
theorem gX11_judge_X11_error : GoodIn wsX11_judge (wsV RX11 67 RX11 yX11_error wsX11_error) := goodIn_app (goodIn_of _ (by decide +kernel)) ggX11_judge_X11_error
set_option maxRecDepth 20000 in
theorem ggX11_judge_X11_pullOf : GoodIn wsX11_judge wsX11_pullOf := goodIn_r _ [27, 3, 28, 29, 30, 7, 31, 32, 33, 34, 35, 36, 37, 38, 39, 40, 41, 42, 43, 44, 45, 46, 47, 48, 49, 50, 51, 52, 53, 54, 55, 56, 57, 58, 59, 60] (by decide +kernel) (by decide +kernel)
set_option maxRecDepth 20000 in
theorem gX11_judge_X11_pullOf : GoodIn wsX11_judge (wsV RX11 167 RX11 yX11_pullOf wsX11_pullOf) := goodIn_app (goodIn_of _ (by decide +kernel)) ggX11_judge_X11_pullOf
theorem dX11_judge_0 : decode cX11_judge 0 = .ok (.aload_n 0, 1) := by decide +kernel
theorem dX11_judge_1 : decode cX11_judge 1 = .ok (.iload_n 1, 1) := by decide +kernel
theorem dX11_judge_2 : decode cX11_judge 2 = .ok (.invokevirtual 260, 3) := by decide +kernel
theorem dX11_judge_5 : decode cX11_judge 5 = .ok (.istore_n 2, 1) := by decide +kernel
theorem dX11_judge_6 : decode cX11_judge 6 = .ok (.iload_n 2, 1) := by decide +kernel
theorem dX11_judge_7 : decode cX11_judge 7 = .ok (.ifCond .eq 9, 3) := by decide +kernel
theorem dX11_judge_10 : decode cX11_judge 10 = .ok (.aload_n 0, 1) := by decide +kernel
theorem dX11_judge_11 : decode cX11_judge 11 = .ok (.iload_n 2, 1) := by decide +kernel
theorem dX11_judge_12 : decode cX11_judge 12 = .ok (.invokevirtual 67, 3) := by decide +kernel
theorem dX11_judge_15 : decode cX11_judge 15 = .ok (.ireturn, 1) := by decide +kernel
theorem dX11_judge_16 : decode cX11_judge 16 = .ok (.iconst 0, 1) := by decide +kernel
theorem dX11_judge_17 : decode cX11_judge 17 = .ok (.istore_n 3, 1) := by decide +kernel
theorem dX11_judge_18 : decode cX11_judge 18 = .ok (.iload_n 3, 1) := by decide +kernel
theorem dX11_judge_19 : decode cX11_judge 19 = .ok (.aload_n 0, 1) := by decide +kernel
theorem dX11_judge_20 : decode cX11_judge 20 = .ok (.getfield 37, 3) := by decide +kernel
theorem dX11_judge_23 : decode cX11_judge 23 = .ok (.iload_n 1, 1) := by decide +kernel
theorem dX11_judge_24 : decode cX11_judge 24 = .ok (.iaload, 1) := by decide +kernel
theorem dX11_judge_25 : decode cX11_judge 25 = .ok (.if_icmp .ge 35, 3) := by decide +kernel
theorem dX11_judge_28 : decode cX11_judge 28 = .ok (.aload_n 0, 1) := by decide +kernel
theorem dX11_judge_29 : decode cX11_judge 29 = .ok (.getfield 40, 3) := by decide +kernel
theorem dX11_judge_32 : decode cX11_judge 32 = .ok (.bipush 24, 2) := by decide +kernel
theorem dX11_judge_34 : decode cX11_judge 34 = .ok (.iload_n 1, 1) := by decide +kernel
theorem dX11_judge_35 : decode cX11_judge 35 = .ok (.imul, 1) := by decide +kernel
theorem dX11_judge_36 : decode cX11_judge 36 = .ok (.iload_n 3, 1) := by decide +kernel
theorem dX11_judge_37 : decode cX11_judge 37 = .ok (.iadd, 1) := by decide +kernel
theorem dX11_judge_38 : decode cX11_judge 38 = .ok (.iaload, 1) := by decide +kernel
theorem dX11_judge_39 : decode cX11_judge 39 = .ok (.aload_n 0, 1) := by decide +kernel
theorem dX11_judge_40 : decode cX11_judge 40 = .ok (.aload_n 0, 1) := by decide +kernel
theorem dX11_judge_41 : decode cX11_judge 41 = .ok (.getfield 9, 3) := by decide +kernel
theorem dX11_judge_44 : decode cX11_judge 44 = .ok (.iconst 0, 1) := by decide +kernel
theorem dX11_judge_45 : decode cX11_judge 45 = .ok (.iaload, 1) := by decide +kernel
theorem dX11_judge_46 : decode cX11_judge 46 = .ok (.iload_n 3, 1) := by decide +kernel
theorem dX11_judge_47 : decode cX11_judge 47 = .ok (.iadd, 1) := by decide +kernel
theorem dX11_judge_48 : decode cX11_judge 48 = .ok (.invokevirtual 167, 3) := by decide +kernel
theorem dX11_judge_51 : decode cX11_judge 51 = .ok (.if_icmp .ne 9, 3) := by decide +kernel
theorem dX11_judge_54 : decode cX11_judge 54 = .ok (.iinc 3 1, 3) := by decide +kernel
theorem dX11_judge_57 : decode cX11_judge 57 = .ok (.goto (-39), 3) := by decide +kernel
theorem dX11_judge_60 : decode cX11_judge 60 = .ok (.iload_n 3, 1) := by decide +kernel
theorem dX11_judge_61 : decode cX11_judge 61 = .ok (.ireturn, 1) := by decide +kernel
set_option maxRecDepth 20000 in
theorem ggX11_image_X11_copyAll : GoodIn wsX11_image wsX11_copyAll := goodIn_r _ [7] (by decide +kernel) (by decide +kernel)
set_option maxRecDepth 20000 in
theorem gX11_image_X11_copyAll : GoodIn wsX11_image (va_wsS RX11 183 yX11_copyAll wsX11_copyAll) := goodIn_app (goodIn_of _ (by decide +kernel)) ggX11_image_X11_copyAll
theorem dX11_image_0 : decode cX11_image 0 = .ok (.aload_n 0, 1) := by decide +kernel
theorem dX11_image_1 : decode cX11_image 1 = .ok (.getfield 9, 3) := by decide +kernel
theorem dX11_image_4 : decode cX11_image 4 = .ok (.aload_n 0, 1) := by decide +kernel
theorem dX11_image_5 : decode cX11_image 5 = .ok (.getfield 13, 3) := by decide +kernel
theorem dX11_image_8 : decode cX11_image 8 = .ok (.invokestatic 183, 3) := by decide +kernel
theorem dX11_image_11 : decode cX11_image 11 = .ok (.aload_n 0, 1) := by decide +kernel
theorem dX11_image_12 : decode cX11_image 12 = .ok (.dup, 1) := by decide +kernel
theorem dX11_image_13 : decode cX11_image 13 = .ok (.getfield 267, 3) := by decide +kernel
theorem dX11_image_16 : decode cX11_image 16 = .ok (.iconst 1, 1) := by decide +kernel
theorem dX11_image_17 : decode cX11_image 17 = .ok (.iadd, 1) := by decide +kernel
theorem dX11_image_18 : decode cX11_image 18 = .ok (.putfield 267, 3) := by decide +kernel
theorem dX11_image_21 : decode cX11_image 21 = .ok (.aload_n 0, 1) := by decide +kernel
theorem dX11_image_22 : decode cX11_image 22 = .ok (.getfield 267, 3) := by decide +kernel
theorem dX11_image_25 : decode cX11_image 25 = .ok (.ireturn, 1) := by decide +kernel
set_option maxRecDepth 20000 in
theorem ggX11_restore_X11_error : GoodIn wsX11_restore wsX11_error := goodIn_r _ [9, 10, 11, 15, 16, 17, 18, 19, 20, 21, 22, 23, 24, 25, 26, 27, 28, 29, 30, 31, 32, 33, 34] (by decide +kernel) (by decide +kernel)
set_option maxRecDepth 20000 in
theorem gX11_restore_X11_error : GoodIn wsX11_restore (wsV RX11 67 RX11 yX11_error wsX11_error) := goodIn_app (goodIn_of _ (by decide +kernel)) ggX11_restore_X11_error
set_option maxRecDepth 20000 in
theorem ggX11_restore_X11_copyAll : GoodIn wsX11_restore wsX11_copyAll := goodIn_r _ [14] (by decide +kernel) (by decide +kernel)
set_option maxRecDepth 20000 in
theorem gX11_restore_X11_copyAll : GoodIn wsX11_restore (va_wsS RX11 183 yX11_copyAll wsX11_copyAll) := goodIn_app (goodIn_of _ (by decide +kernel)) ggX11_restore_X11_copyAll
theorem dX11_restore_0 : decode cX11_restore 0 = .ok (.aload_n 0, 1) := by decide +kernel
theorem dX11_restore_1 : decode cX11_restore 1 = .ok (.getfield 267, 3) := by decide +kernel
theorem dX11_restore_4 : decode cX11_restore 4 = .ok (.ifCond .ne 10, 3) := by decide +kernel
theorem dX11_restore_7 : decode cX11_restore 7 = .ok (.aload_n 0, 1) := by decide +kernel
theorem dX11_restore_8 : decode cX11_restore 8 = .ok (.ldc 193, 2) := by decide +kernel
theorem dX11_restore_10 : decode cX11_restore 10 = .ok (.invokevirtual 67, 3) := by decide +kernel
theorem dX11_restore_13 : decode cX11_restore 13 = .ok (.ireturn, 1) := by decide +kernel
theorem dX11_restore_14 : decode cX11_restore 14 = .ok (.aload_n 0, 1) := by decide +kernel
theorem dX11_restore_15 : decode cX11_restore 15 = .ok (.getfield 13, 3) := by decide +kernel
theorem dX11_restore_18 : decode cX11_restore 18 = .ok (.aload_n 0, 1) := by decide +kernel
theorem dX11_restore_19 : decode cX11_restore 19 = .ok (.getfield 9, 3) := by decide +kernel
theorem dX11_restore_22 : decode cX11_restore 22 = .ok (.invokestatic 183, 3) := by decide +kernel
theorem dX11_restore_25 : decode cX11_restore 25 = .ok (.aload_n 0, 1) := by decide +kernel
theorem dX11_restore_26 : decode cX11_restore 26 = .ok (.getfield 9, 3) := by decide +kernel
theorem dX11_restore_29 : decode cX11_restore 29 = .ok (.iconst 0, 1) := by decide +kernel
theorem dX11_restore_30 : decode cX11_restore 30 = .ok (.iaload, 1) := by decide +kernel
theorem dX11_restore_31 : decode cX11_restore 31 = .ok (.ireturn, 1) := by decide +kernel
set_option maxRecDepth 20000 in
theorem ggX11_tell_X11_error : GoodIn wsX11_tell wsX11_error := goodIn_r _ [7, 8, 9, 10, 11, 12, 13, 14, 15, 16, 17, 18, 19, 20, 21, 22, 23, 24, 25, 26, 27, 28, 29] (by decide +kernel) (by decide +kernel)
set_option maxRecDepth 20000 in
theorem gX11_tell_X11_error : GoodIn wsX11_tell (wsV RX11 67 RX11 yX11_error wsX11_error) := goodIn_app (goodIn_of _ (by decide +kernel)) ggX11_tell_X11_error
theorem dX11_tell_0 : decode cX11_tell 0 = .ok (.aload_n 0, 1) := by decide +kernel
theorem dX11_tell_1 : decode cX11_tell 1 = .ok (.getfield 9, 3) := by decide +kernel
theorem dX11_tell_4 : decode cX11_tell 4 = .ok (.iconst 4, 1) := by decide +kernel
theorem dX11_tell_5 : decode cX11_tell 5 = .ok (.iaload, 1) := by decide +kernel
theorem dX11_tell_6 : decode cX11_tell 6 = .ok (.bipush 24, 2) := by decide +kernel
theorem dX11_tell_8 : decode cX11_tell 8 = .ok (.if_icmp .ne 10, 3) := by decide +kernel
theorem dX11_tell_11 : decode cX11_tell 11 = .ok (.aload_n 0, 1) := by decide +kernel
theorem dX11_tell_12 : decode cX11_tell 12 = .ok (.ldc 77, 2) := by decide +kernel
theorem dX11_tell_14 : decode cX11_tell 14 = .ok (.invokevirtual 67, 3) := by decide +kernel
theorem dX11_tell_17 : decode cX11_tell 17 = .ok (.ireturn, 1) := by decide +kernel
theorem dX11_tell_18 : decode cX11_tell 18 = .ok (.aload_n 0, 1) := by decide +kernel
theorem dX11_tell_19 : decode cX11_tell 19 = .ok (.getfield 9, 3) := by decide +kernel
theorem dX11_tell_22 : decode cX11_tell 22 = .ok (.sipush 131, 3) := by decide +kernel
theorem dX11_tell_25 : decode cX11_tell 25 = .ok (.aload_n 0, 1) := by decide +kernel
theorem dX11_tell_26 : decode cX11_tell 26 = .ok (.getfield 9, 3) := by decide +kernel
theorem dX11_tell_29 : decode cX11_tell 29 = .ok (.iconst 4, 1) := by decide +kernel
theorem dX11_tell_30 : decode cX11_tell 30 = .ok (.iaload, 1) := by decide +kernel
theorem dX11_tell_31 : decode cX11_tell 31 = .ok (.iadd, 1) := by decide +kernel
theorem dX11_tell_32 : decode cX11_tell 32 = .ok (.iload_n 1, 1) := by decide +kernel
theorem dX11_tell_33 : decode cX11_tell 33 = .ok (.iastore, 1) := by decide +kernel
theorem dX11_tell_34 : decode cX11_tell 34 = .ok (.aload_n 0, 1) := by decide +kernel
theorem dX11_tell_35 : decode cX11_tell 35 = .ok (.getfield 9, 3) := by decide +kernel
theorem dX11_tell_38 : decode cX11_tell 38 = .ok (.iconst 4, 1) := by decide +kernel
theorem dX11_tell_39 : decode cX11_tell 39 = .ok (.dup2, 1) := by decide +kernel
theorem dX11_tell_40 : decode cX11_tell 40 = .ok (.iaload, 1) := by decide +kernel
theorem dX11_tell_41 : decode cX11_tell 41 = .ok (.iconst 1, 1) := by decide +kernel
theorem dX11_tell_42 : decode cX11_tell 42 = .ok (.iadd, 1) := by decide +kernel
theorem dX11_tell_43 : decode cX11_tell 43 = .ok (.iastore, 1) := by decide +kernel
theorem dX11_tell_44 : decode cX11_tell 44 = .ok (.aload_n 0, 1) := by decide +kernel
theorem dX11_tell_45 : decode cX11_tell 45 = .ok (.getfield 9, 3) := by decide +kernel
theorem dX11_tell_48 : decode cX11_tell 48 = .ok (.iconst 4, 1) := by decide +kernel
theorem dX11_tell_49 : decode cX11_tell 49 = .ok (.iaload, 1) := by decide +kernel
theorem dX11_tell_50 : decode cX11_tell 50 = .ok (.ireturn, 1) := by decide +kernel
set_option maxRecDepth 20000 in
theorem ggX11_check_X11_isThing : GoodIn wsX11_check wsX11_isThing := goodIn_r _ [6, 1, 7, 8, 5, 9, 14, 15, 16, 17, 18, 19, 20, 21, 22, 23, 24, 25, 26, 27, 28, 29, 30, 31, 32, 33] (by decide +kernel) (by decide +kernel)
set_option maxRecDepth 20000 in
theorem gX11_check_X11_isThing : GoodIn wsX11_check (wsV RX11 85 RX11 yX11_isThing wsX11_isThing) := goodIn_app (goodIn_of _ (by decide +kernel)) ggX11_check_X11_isThing
set_option maxRecDepth 20000 in
theorem ggX11_check_X11_of : GoodIn wsX11_check wsX11_of := goodIn_r _ [13, 1, 14, 15, 16, 17, 18, 19, 20, 21, 22, 23, 24, 25, 26, 27, 28, 29, 30, 31, 32, 33] (by decide +kernel) (by decide +kernel)
set_option maxRecDepth 20000 in
theorem gX11_check_X11_of : GoodIn wsX11_check (wsV RX11 51 RX11 yX11_of wsX11_of) := goodIn_app (goodIn_of _ (by decide +kernel)) ggX11_check_X11_of
theorem dX11_check_0 : decode cX11_check 0 = .ok (.aload_n 0, 1) := by decide +kernel
theorem dX11_check_1 : decode cX11_check 1 = .ok (.getfield 9, 3) := by decide +kernel
theorem dX11_check_4 : decode cX11_check 4 = .ok (.iconst 4, 1) := by decide +kernel
theorem dX11_check_5 : decode cX11_check 5 = .ok (.iaload, 1) := by decide +kernel
theorem dX11_check_6 : decode cX11_check 6 = .ok (.istore_n 1, 1) := by decide +kernel
theorem dX11_check_7 : decode cX11_check 7 = .ok (.aload_n 0, 1) := by decide +kernel
theorem dX11_check_8 : decode cX11_check 8 = .ok (.getfield 9, 3) := by decide +kernel
theorem dX11_check_11 : decode cX11_check 11 = .ok (.iconst 4, 1) := by decide +kernel
theorem dX11_check_12 : decode cX11_check 12 = .ok (.iconst 0, 1) := by decide +kernel
theorem dX11_check_13 : decode cX11_check 13 = .ok (.iastore, 1) := by decide +kernel
theorem dX11_check_14 : decode cX11_check 14 = .ok (.iconst 0, 1) := by decide +kernel
theorem dX11_check_15 : decode cX11_check 15 = .ok (.istore_n 2, 1) := by decide +kernel
theorem dX11_check_16 : decode cX11_check 16 = .ok (.iload_n 2, 1) := by decide +kernel
theorem dX11_check_17 : decode cX11_check 17 = .ok (.iload_n 1, 1) := by decide +kernel
theorem dX11_check_18 : decode cX11_check 18 = .ok (.if_icmp .ge 40, 3) := by decide +kernel
theorem dX11_check_21 : decode cX11_check 21 = .ok (.aload_n 0, 1) := by decide +kernel
theorem dX11_check_22 : decode cX11_check 22 = .ok (.iload_n 2, 1) := by decide +kernel
theorem dX11_check_23 : decode cX11_check 23 = .ok (.invokevirtual 85, 3) := by decide +kernel
theorem dX11_check_26 : decode cX11_check 26 = .ok (.ifCond .eq 22, 3) := by decide +kernel
theorem dX11_check_29 : decode cX11_check 29 = .ok (.aload_n 0, 1) := by decide +kernel
theorem dX11_check_30 : decode cX11_check 30 = .ok (.getfield 9, 3) := by decide +kernel
theorem dX11_check_33 : decode cX11_check 33 = .ok (.sipush 131, 3) := by decide +kernel
theorem dX11_check_36 : decode cX11_check 36 = .ok (.iload_n 2, 1) := by decide +kernel
theorem dX11_check_37 : decode cX11_check 37 = .ok (.iadd, 1) := by decide +kernel
theorem dX11_check_38 : decode cX11_check 38 = .ok (.iaload, 1) := by decide +kernel
theorem dX11_check_39 : decode cX11_check 39 = .ok (.aload_n 0, 1) := by decide +kernel
theorem dX11_check_40 : decode cX11_check 40 = .ok (.iload_n 2, 1) := by decide +kernel
theorem dX11_check_41 : decode cX11_check 41 = .ok (.iconst 2, 1) := by decide +kernel
theorem dX11_check_42 : decode cX11_check 42 = .ok (.invokevirtual 51, 3) := by decide +kernel
theorem dX11_check_45 : decode cX11_check 45 = .ok (.if_icmp .eq 7, 3) := by decide +kernel
theorem dX11_check_48 : decode cX11_check 48 = .ok (.iconst 1, 1) := by decide +kernel
theorem dX11_check_49 : decode cX11_check 49 = .ok (.iload_n 2, 1) := by decide +kernel
theorem dX11_check_50 : decode cX11_check 50 = .ok (.iadd, 1) := by decide +kernel
theorem dX11_check_51 : decode cX11_check 51 = .ok (.ireturn, 1) := by decide +kernel
theorem dX11_check_52 : decode cX11_check 52 = .ok (.iinc 2 1, 3) := by decide +kernel
theorem dX11_check_55 : decode cX11_check 55 = .ok (.goto (-39), 3) := by decide +kernel
theorem dX11_check_58 : decode cX11_check 58 = .ok (.iconst 0, 1) := by decide +kernel
theorem dX11_check_59 : decode cX11_check 59 = .ok (.ireturn, 1) := by decide +kernel
set_option maxRecDepth 20000 in
theorem ggX11_count_X11_broken : GoodIn wsX11_count wsX11_broken := goodIn_r _ [8, 1, 9, 10, 11, 7, 12, 36, 37, 38, 39, 40, 41, 42, 43, 44, 45, 46, 47, 48, 49, 50, 51, 52, 53, 54, 55] (by decide +kernel) (by decide +kernel)
set_option maxRecDepth 20000 in
theorem gX11_count_X11_broken : GoodIn wsX11_count (wsV RX11 176 RX11 yX11_broken wsX11_broken) := goodIn_app (goodIn_of _ (by decide +kernel)) ggX11_count_X11_broken
set_option maxRecDepth 20000 in
theorem ggX11_count_X11_pullOf : GoodIn wsX11_count wsX11_pullOf := goodIn_r _ [16, 1, 17, 18, 19, 7, 20, 21, 22, 23, 24, 25, 26, 27, 28, 29, 36, 37, 38, 39, 40, 41, 42, 43, 44, 45, 46, 47, 48, 49, 50, 51, 52, 53, 54, 55] (by decide +kernel) (by decide +kernel)
set_option maxRecDepth 20000 in
theorem gX11_count_X11_pullOf : GoodIn wsX11_count (wsV RX11 167 RX11 yX11_pullOf wsX11_pullOf) := goodIn_app (goodIn_of _ (by decide +kernel)) ggX11_count_X11_pullOf
set_option maxRecDepth 20000 in
theorem ggX11_count_X11_error : GoodIn wsX11_count wsX11_error := goodIn_r _ [33, 34, 35, 36, 37, 38, 39, 40, 41, 42, 43, 44, 45, 46, 47, 48, 49, 50, 51, 52, 53, 54, 55] (by decide +kernel) (by decide +kernel)
set_option maxRecDepth 20000 in
theorem gX11_count_X11_error : GoodIn wsX11_count (wsV RX11 67 RX11 yX11_error wsX11_error) := goodIn_app (goodIn_of _ (by decide +kernel)) ggX11_count_X11_error
theorem dX11_count_0 : decode cX11_count 0 = .ok (.iconst 0, 1) := by decide +kernel
theorem dX11_count_1 : decode cX11_count 1 = .ok (.istore_n 2, 1) := by decide +kernel
theorem dX11_count_2 : decode cX11_count 2 = .ok (.iload_n 1, 1) := by decide +kernel
theorem dX11_count_3 : decode cX11_count 3 = .ok (.tableswitch 132 0 8 #[49, 56, 63, 68, 95, 106, 113, 120, 125], 49) := by decide +kernel
theorem dX11_count_52 : decode cX11_count 52 = .ok (.aload_n 0, 1) := by decide +kernel
theorem dX11_count_53 : decode cX11_count 53 = .ok (.getfield 9, 3) := by decide +kernel
theorem dX11_count_56 : decode cX11_count 56 = .ok (.iconst 2, 1) := by decide +kernel
theorem dX11_count_57 : decode cX11_count 57 = .ok (.iaload, 1) := by decide +kernel
theorem dX11_count_58 : decode cX11_count 58 = .ok (.ireturn, 1) := by decide +kernel
theorem dX11_count_59 : decode cX11_count 59 = .ok (.aload_n 0, 1) := by decide +kernel
theorem dX11_count_60 : decode cX11_count 60 = .ok (.getfield 9, 3) := by decide +kernel
theorem dX11_count_63 : decode cX11_count 63 = .ok (.iconst 0, 1) := by decide +kernel
theorem dX11_count_64 : decode cX11_count 64 = .ok (.iaload, 1) := by decide +kernel
theorem dX11_count_65 : decode cX11_count 65 = .ok (.ireturn, 1) := by decide +kernel
theorem dX11_count_66 : decode cX11_count 66 = .ok (.aload_n 0, 1) := by decide +kernel
theorem dX11_count_67 : decode cX11_count 67 = .ok (.invokevirtual 176, 3) := by decide +kernel
theorem dX11_count_70 : decode cX11_count 70 = .ok (.ireturn, 1) := by decide +kernel
theorem dX11_count_71 : decode cX11_count 71 = .ok (.iconst 0, 1) := by decide +kernel
theorem dX11_count_72 : decode cX11_count 72 = .ok (.istore_n 3, 1) := by decide +kernel
theorem dX11_count_73 : decode cX11_count 73 = .ok (.iload_n 3, 1) := by decide +kernel
theorem dX11_count_74 : decode cX11_count 74 = .ok (.bipush 36, 2) := by decide +kernel
theorem dX11_count_76 : decode cX11_count 76 = .ok (.if_icmp .ge 20, 3) := by decide +kernel
theorem dX11_count_79 : decode cX11_count 79 = .ok (.iload_n 2, 1) := by decide +kernel
theorem dX11_count_80 : decode cX11_count 80 = .ok (.aload_n 0, 1) := by decide +kernel
theorem dX11_count_81 : decode cX11_count 81 = .ok (.getfield 9, 3) := by decide +kernel
theorem dX11_count_84 : decode cX11_count 84 = .ok (.iconst 5, 1) := by decide +kernel
theorem dX11_count_85 : decode cX11_count 85 = .ok (.iload_n 3, 1) := by decide +kernel
theorem dX11_count_86 : decode cX11_count 86 = .ok (.iadd, 1) := by decide +kernel
theorem dX11_count_87 : decode cX11_count 87 = .ok (.iaload, 1) := by decide +kernel
theorem dX11_count_88 : decode cX11_count 88 = .ok (.iadd, 1) := by decide +kernel
theorem dX11_count_89 : decode cX11_count 89 = .ok (.istore_n 2, 1) := by decide +kernel
theorem dX11_count_90 : decode cX11_count 90 = .ok (.iinc 3 1, 3) := by decide +kernel
theorem dX11_count_93 : decode cX11_count 93 = .ok (.goto (-20), 3) := by decide +kernel
theorem dX11_count_96 : decode cX11_count 96 = .ok (.iload_n 2, 1) := by decide +kernel
theorem dX11_count_97 : decode cX11_count 97 = .ok (.ireturn, 1) := by decide +kernel
theorem dX11_count_98 : decode cX11_count 98 = .ok (.aload_n 0, 1) := by decide +kernel
theorem dX11_count_99 : decode cX11_count 99 = .ok (.aload_n 0, 1) := by decide +kernel
theorem dX11_count_100 : decode cX11_count 100 = .ok (.getfield 9, 3) := by decide +kernel
theorem dX11_count_103 : decode cX11_count 103 = .ok (.iconst 0, 1) := by decide +kernel
theorem dX11_count_104 : decode cX11_count 104 = .ok (.iaload, 1) := by decide +kernel
theorem dX11_count_105 : decode cX11_count 105 = .ok (.invokevirtual 167, 3) := by decide +kernel
theorem dX11_count_108 : decode cX11_count 108 = .ok (.ireturn, 1) := by decide +kernel
theorem dX11_count_109 : decode cX11_count 109 = .ok (.aload_n 0, 1) := by decide +kernel
theorem dX11_count_110 : decode cX11_count 110 = .ok (.getfield 9, 3) := by decide +kernel
theorem dX11_count_113 : decode cX11_count 113 = .ok (.iconst 3, 1) := by decide +kernel
theorem dX11_count_114 : decode cX11_count 114 = .ok (.iaload, 1) := by decide +kernel
theorem dX11_count_115 : decode cX11_count 115 = .ok (.ireturn, 1) := by decide +kernel
theorem dX11_count_116 : decode cX11_count 116 = .ok (.aload_n 0, 1) := by decide +kernel
theorem dX11_count_117 : decode cX11_count 117 = .ok (.getfield 9, 3) := by decide +kernel
theorem dX11_count_120 : decode cX11_count 120 = .ok (.iconst 4, 1) := by decide +kernel
theorem dX11_count_121 : decode cX11_count 121 = .ok (.iaload, 1) := by decide +kernel
theorem dX11_count_122 : decode cX11_count 122 = .ok (.ireturn, 1) := by decide +kernel
theorem dX11_count_123 : decode cX11_count 123 = .ok (.aload_n 0, 1) := by decide +kernel
theorem dX11_count_124 : decode cX11_count 124 = .ok (.getfield 220, 3) := by decide +kernel
theorem dX11_count_127 : decode cX11_count 127 = .ok (.ireturn, 1) := by decide +kernel
theorem dX11_count_128 : decode cX11_count 128 = .ok (.aload_n 0, 1) := by decide +kernel
theorem dX11_count_129 : decode cX11_count 129 = .ok (.getfield 9, 3) := by decide +kernel
theorem dX11_count_132 : decode cX11_count 132 = .ok (.iconst 1, 1) := by decide +kernel
theorem dX11_count_133 : decode cX11_count 133 = .ok (.iaload, 1) := by decide +kernel
theorem dX11_count_134 : decode cX11_count 134 = .ok (.ireturn, 1) := by decide +kernel
theorem dX11_count_135 : decode cX11_count 135 = .ok (.aload_n 0, 1) := by decide +kernel
theorem dX11_count_136 : decode cX11_count 136 = .ok (.ldc 66, 2) := by decide +kernel
theorem dX11_count_138 : decode cX11_count 138 = .ok (.invokevirtual 67, 3) := by decide +kernel
theorem dX11_count_141 : decode cX11_count 141 = .ok (.ireturn, 1) := by decide +kernel
set_option maxRecDepth 20000 in
theorem ggX11_told_X11_in : GoodIn wsX11_told wsX11_in := goodIn_r _ [6] (by decide +kernel) (by decide +kernel)
set_option maxRecDepth 20000 in
theorem gX11_told_X11_in : GoodIn wsX11_told (va_wsS RX11 47 yX11_in wsX11_in) := goodIn_app (goodIn_of _ (by decide +kernel)) ggX11_told_X11_in
set_option maxRecDepth 20000 in
theorem ggX11_told_X11_error : GoodIn wsX11_told wsX11_error := goodIn_r _ [10, 1, 11, 12, 13, 14, 15, 16, 17, 18, 19, 20, 21, 22, 23, 24, 25, 26, 27, 28, 29, 30, 31] (by decide +kernel) (by decide +kernel)
set_option maxRecDepth 20000 in
theorem gX11_told_X11_error : GoodIn wsX11_told (wsV RX11 67 RX11 yX11_error wsX11_error) := goodIn_app (goodIn_of _ (by decide +kernel)) ggX11_told_X11_error
theorem dX11_told_0 : decode cX11_told 0 = .ok (.iload_n 1, 1) := by decide +kernel
theorem dX11_told_1 : decode cX11_told 1 = .ok (.iconst 1, 1) := by decide +kernel
theorem dX11_told_2 : decode cX11_told 2 = .ok (.bipush 6, 2) := by decide +kernel
theorem dX11_told_4 : decode cX11_told 4 = .ok (.invokestatic 47, 3) := by decide +kernel
theorem dX11_told_7 : decode cX11_told 7 = .ok (.ifCond .eq 12, 3) := by decide +kernel
theorem dX11_told_10 : decode cX11_told 10 = .ok (.aload_n 0, 1) := by decide +kernel
theorem dX11_told_11 : decode cX11_told 11 = .ok (.getfield 19, 3) := by decide +kernel
theorem dX11_told_14 : decode cX11_told 14 = .ok (.iload_n 1, 1) := by decide +kernel
theorem dX11_told_15 : decode cX11_told 15 = .ok (.iaload, 1) := by decide +kernel
theorem dX11_told_16 : decode cX11_told 16 = .ok (.goto 9, 3) := by decide +kernel
theorem dX11_told_19 : decode cX11_told 19 = .ok (.aload_n 0, 1) := by decide +kernel
theorem dX11_told_20 : decode cX11_told 20 = .ok (.ldc 66, 2) := by decide +kernel
theorem dX11_told_22 : decode cX11_told 22 = .ok (.invokevirtual 67, 3) := by decide +kernel
theorem dX11_told_25 : decode cX11_told 25 = .ok (.ireturn, 1) := by decide +kernel
theorem dJ6_bitCount_0f7a4_0 : decode cJ6_bitCount_0f7a4 0 = .ok (.iload_n 0, 1) := by decide +kernel
theorem dJ6_bitCount_0f7a4_1 : decode cJ6_bitCount_0f7a4 1 = .ok (.iload_n 0, 1) := by decide +kernel
theorem dJ6_bitCount_0f7a4_2 : decode cJ6_bitCount_0f7a4 2 = .ok (.iconst 1, 1) := by decide +kernel
theorem dJ6_bitCount_0f7a4_3 : decode cJ6_bitCount_0f7a4 3 = .ok (.iushr, 1) := by decide +kernel
theorem dJ6_bitCount_0f7a4_4 : decode cJ6_bitCount_0f7a4 4 = .ok (.ldc_w 265, 3) := by decide +kernel
theorem dJ6_bitCount_0f7a4_7 : decode cJ6_bitCount_0f7a4 7 = .ok (.iand, 1) := by decide +kernel
theorem dJ6_bitCount_0f7a4_8 : decode cJ6_bitCount_0f7a4 8 = .ok (.isub, 1) := by decide +kernel
theorem dJ6_bitCount_0f7a4_9 : decode cJ6_bitCount_0f7a4 9 = .ok (.istore_n 0, 1) := by decide +kernel
theorem dJ6_bitCount_0f7a4_10 : decode cJ6_bitCount_0f7a4 10 = .ok (.iload_n 0, 1) := by decide +kernel
theorem dJ6_bitCount_0f7a4_11 : decode cJ6_bitCount_0f7a4 11 = .ok (.ldc_w 266, 3) := by decide +kernel
theorem dJ6_bitCount_0f7a4_14 : decode cJ6_bitCount_0f7a4 14 = .ok (.iand, 1) := by decide +kernel
theorem dJ6_bitCount_0f7a4_15 : decode cJ6_bitCount_0f7a4 15 = .ok (.iload_n 0, 1) := by decide +kernel
theorem dJ6_bitCount_0f7a4_16 : decode cJ6_bitCount_0f7a4 16 = .ok (.iconst 2, 1) := by decide +kernel
theorem dJ6_bitCount_0f7a4_17 : decode cJ6_bitCount_0f7a4 17 = .ok (.iushr, 1) := by decide +kernel
theorem dJ6_bitCount_0f7a4_18 : decode cJ6_bitCount_0f7a4 18 = .ok (.ldc_w 266, 3) := by decide +kernel
theorem dJ6_bitCount_0f7a4_21 : decode cJ6_bitCount_0f7a4 21 = .ok (.iand, 1) := by decide +kernel
theorem dJ6_bitCount_0f7a4_22 : decode cJ6_bitCount_0f7a4 22 = .ok (.iadd, 1) := by decide +kernel
theorem dJ6_bitCount_0f7a4_23 : decode cJ6_bitCount_0f7a4 23 = .ok (.istore_n 0, 1) := by decide +kernel
theorem dJ6_bitCount_0f7a4_24 : decode cJ6_bitCount_0f7a4 24 = .ok (.iload_n 0, 1) := by decide +kernel
theorem dJ6_bitCount_0f7a4_25 : decode cJ6_bitCount_0f7a4 25 = .ok (.iload_n 0, 1) := by decide +kernel
theorem dJ6_bitCount_0f7a4_26 : decode cJ6_bitCount_0f7a4 26 = .ok (.iconst 4, 1) := by decide +kernel
theorem dJ6_bitCount_0f7a4_27 : decode cJ6_bitCount_0f7a4 27 = .ok (.iushr, 1) := by decide +kernel
theorem dJ6_bitCount_0f7a4_28 : decode cJ6_bitCount_0f7a4 28 = .ok (.iadd, 1) := by decide +kernel
theorem dJ6_bitCount_0f7a4_29 : decode cJ6_bitCount_0f7a4 29 = .ok (.ldc_w 267, 3) := by decide +kernel
theorem dJ6_bitCount_0f7a4_32 : decode cJ6_bitCount_0f7a4 32 = .ok (.iand, 1) := by decide +kernel
theorem dJ6_bitCount_0f7a4_33 : decode cJ6_bitCount_0f7a4 33 = .ok (.istore_n 0, 1) := by decide +kernel
theorem dJ6_bitCount_0f7a4_34 : decode cJ6_bitCount_0f7a4 34 = .ok (.iload_n 0, 1) := by decide +kernel
theorem dJ6_bitCount_0f7a4_35 : decode cJ6_bitCount_0f7a4 35 = .ok (.iload_n 0, 1) := by decide +kernel
theorem dJ6_bitCount_0f7a4_36 : decode cJ6_bitCount_0f7a4 36 = .ok (.bipush 8, 2) := by decide +kernel
theorem dJ6_bitCount_0f7a4_38 : decode cJ6_bitCount_0f7a4 38 = .ok (.iushr, 1) := by decide +kernel
theorem dJ6_bitCount_0f7a4_39 : decode cJ6_bitCount_0f7a4 39 = .ok (.iadd, 1) := by decide +kernel
theorem dJ6_bitCount_0f7a4_40 : decode cJ6_bitCount_0f7a4 40 = .ok (.istore_n 0, 1) := by decide +kernel
theorem dJ6_bitCount_0f7a4_41 : decode cJ6_bitCount_0f7a4 41 = .ok (.iload_n 0, 1) := by decide +kernel
theorem dJ6_bitCount_0f7a4_42 : decode cJ6_bitCount_0f7a4 42 = .ok (.iload_n 0, 1) := by decide +kernel
theorem dJ6_bitCount_0f7a4_43 : decode cJ6_bitCount_0f7a4 43 = .ok (.bipush 16, 2) := by decide +kernel
theorem dJ6_bitCount_0f7a4_45 : decode cJ6_bitCount_0f7a4 45 = .ok (.iushr, 1) := by decide +kernel
theorem dJ6_bitCount_0f7a4_46 : decode cJ6_bitCount_0f7a4 46 = .ok (.iadd, 1) := by decide +kernel
theorem dJ6_bitCount_0f7a4_47 : decode cJ6_bitCount_0f7a4 47 = .ok (.istore_n 0, 1) := by decide +kernel
theorem dJ6_bitCount_0f7a4_48 : decode cJ6_bitCount_0f7a4 48 = .ok (.iload_n 0, 1) := by decide +kernel
theorem dJ6_bitCount_0f7a4_49 : decode cJ6_bitCount_0f7a4 49 = .ok (.bipush 63, 2) := by decide +kernel
theorem dJ6_bitCount_0f7a4_51 : decode cJ6_bitCount_0f7a4 51 = .ok (.iand, 1) := by decide +kernel
theorem dJ6_bitCount_0f7a4_52 : decode cJ6_bitCount_0f7a4 52 = .ok (.ireturn, 1) := by decide +kernel
theorem dJ13_bitCount_95d88_0 : decode cJ13_bitCount_95d88 0 = .ok (.lload_n 0, 1) := by decide +kernel
theorem dJ13_bitCount_95d88_1 : decode cJ13_bitCount_95d88 1 = .ok (.lload_n 0, 1) := by decide +kernel
theorem dJ13_bitCount_95d88_2 : decode cJ13_bitCount_95d88 2 = .ok (.iconst 1, 1) := by decide +kernel
theorem dJ13_bitCount_95d88_3 : decode cJ13_bitCount_95d88 3 = .ok (.lushr, 1) := by decide +kernel
theorem dJ13_bitCount_95d88_4 : decode cJ13_bitCount_95d88 4 = .ok (.ldc2_w 314, 3) := by decide +kernel
theorem dJ13_bitCount_95d88_7 : decode cJ13_bitCount_95d88 7 = .ok (.land, 1) := by decide +kernel
theorem dJ13_bitCount_95d88_8 : decode cJ13_bitCount_95d88 8 = .ok (.lsub, 1) := by decide +kernel
theorem dJ13_bitCount_95d88_9 : decode cJ13_bitCount_95d88 9 = .ok (.lstore_n 0, 1) := by decide +kernel
theorem dJ13_bitCount_95d88_10 : decode cJ13_bitCount_95d88 10 = .ok (.lload_n 0, 1) := by decide +kernel
theorem dJ13_bitCount_95d88_11 : decode cJ13_bitCount_95d88 11 = .ok (.ldc2_w 316, 3) := by decide +kernel
theorem dJ13_bitCount_95d88_14 : decode cJ13_bitCount_95d88 14 = .ok (.land, 1) := by decide +kernel
theorem dJ13_bitCount_95d88_15 : decode cJ13_bitCount_95d88 15 = .ok (.lload_n 0, 1) := by decide +kernel
theorem dJ13_bitCount_95d88_16 : decode cJ13_bitCount_95d88 16 = .ok (.iconst 2, 1) := by decide +kernel
theorem dJ13_bitCount_95d88_17 : decode cJ13_bitCount_95d88 17 = .ok (.lushr, 1) := by decide +kernel
theorem dJ13_bitCount_95d88_18 : decode cJ13_bitCount_95d88 18 = .ok (.ldc2_w 316, 3) := by decide +kernel
theorem dJ13_bitCount_95d88_21 : decode cJ13_bitCount_95d88 21 = .ok (.land, 1) := by decide +kernel
theorem dJ13_bitCount_95d88_22 : decode cJ13_bitCount_95d88 22 = .ok (.ladd, 1) := by decide +kernel
theorem dJ13_bitCount_95d88_23 : decode cJ13_bitCount_95d88 23 = .ok (.lstore_n 0, 1) := by decide +kernel
theorem dJ13_bitCount_95d88_24 : decode cJ13_bitCount_95d88 24 = .ok (.lload_n 0, 1) := by decide +kernel
theorem dJ13_bitCount_95d88_25 : decode cJ13_bitCount_95d88 25 = .ok (.lload_n 0, 1) := by decide +kernel
theorem dJ13_bitCount_95d88_26 : decode cJ13_bitCount_95d88 26 = .ok (.iconst 4, 1) := by decide +kernel
theorem dJ13_bitCount_95d88_27 : decode cJ13_bitCount_95d88 27 = .ok (.lushr, 1) := by decide +kernel
theorem dJ13_bitCount_95d88_28 : decode cJ13_bitCount_95d88 28 = .ok (.ladd, 1) := by decide +kernel
theorem dJ13_bitCount_95d88_29 : decode cJ13_bitCount_95d88 29 = .ok (.ldc2_w 318, 3) := by decide +kernel
theorem dJ13_bitCount_95d88_32 : decode cJ13_bitCount_95d88 32 = .ok (.land, 1) := by decide +kernel
theorem dJ13_bitCount_95d88_33 : decode cJ13_bitCount_95d88 33 = .ok (.lstore_n 0, 1) := by decide +kernel
theorem dJ13_bitCount_95d88_34 : decode cJ13_bitCount_95d88 34 = .ok (.lload_n 0, 1) := by decide +kernel
theorem dJ13_bitCount_95d88_35 : decode cJ13_bitCount_95d88 35 = .ok (.lload_n 0, 1) := by decide +kernel
theorem dJ13_bitCount_95d88_36 : decode cJ13_bitCount_95d88 36 = .ok (.bipush 8, 2) := by decide +kernel
theorem dJ13_bitCount_95d88_38 : decode cJ13_bitCount_95d88 38 = .ok (.lushr, 1) := by decide +kernel
theorem dJ13_bitCount_95d88_39 : decode cJ13_bitCount_95d88 39 = .ok (.ladd, 1) := by decide +kernel
theorem dJ13_bitCount_95d88_40 : decode cJ13_bitCount_95d88 40 = .ok (.lstore_n 0, 1) := by decide +kernel
theorem dJ13_bitCount_95d88_41 : decode cJ13_bitCount_95d88 41 = .ok (.lload_n 0, 1) := by decide +kernel
theorem dJ13_bitCount_95d88_42 : decode cJ13_bitCount_95d88 42 = .ok (.lload_n 0, 1) := by decide +kernel
theorem dJ13_bitCount_95d88_43 : decode cJ13_bitCount_95d88 43 = .ok (.bipush 16, 2) := by decide +kernel
theorem dJ13_bitCount_95d88_45 : decode cJ13_bitCount_95d88 45 = .ok (.lushr, 1) := by decide +kernel
theorem dJ13_bitCount_95d88_46 : decode cJ13_bitCount_95d88 46 = .ok (.ladd, 1) := by decide +kernel
theorem dJ13_bitCount_95d88_47 : decode cJ13_bitCount_95d88 47 = .ok (.lstore_n 0, 1) := by decide +kernel
theorem dJ13_bitCount_95d88_48 : decode cJ13_bitCount_95d88 48 = .ok (.lload_n 0, 1) := by decide +kernel
theorem dJ13_bitCount_95d88_49 : decode cJ13_bitCount_95d88 49 = .ok (.lload_n 0, 1) := by decide +kernel
theorem dJ13_bitCount_95d88_50 : decode cJ13_bitCount_95d88 50 = .ok (.bipush 32, 2) := by decide +kernel
theorem dJ13_bitCount_95d88_52 : decode cJ13_bitCount_95d88 52 = .ok (.lushr, 1) := by decide +kernel
theorem dJ13_bitCount_95d88_53 : decode cJ13_bitCount_95d88 53 = .ok (.ladd, 1) := by decide +kernel
theorem dJ13_bitCount_95d88_54 : decode cJ13_bitCount_95d88 54 = .ok (.lstore_n 0, 1) := by decide +kernel
theorem dJ13_bitCount_95d88_55 : decode cJ13_bitCount_95d88 55 = .ok (.lload_n 0, 1) := by decide +kernel
theorem dJ13_bitCount_95d88_56 : decode cJ13_bitCount_95d88 56 = .ok (.l2i, 1) := by decide +kernel
theorem dJ13_bitCount_95d88_57 : decode cJ13_bitCount_95d88 57 = .ok (.bipush 127, 2) := by decide +kernel
theorem dJ13_bitCount_95d88_59 : decode cJ13_bitCount_95d88 59 = .ok (.iand, 1) := by decide +kernel
theorem dJ13_bitCount_95d88_60 : decode cJ13_bitCount_95d88 60 = .ok (.ireturn, 1) := by decide +kernel
theorem dJ9_floorMod_7cf53_0 : decode cJ9_floorMod_7cf53 0 = .ok (.iload_n 0, 1) := by decide +kernel
theorem dJ9_floorMod_7cf53_1 : decode cJ9_floorMod_7cf53 1 = .ok (.iload_n 1, 1) := by decide +kernel
theorem dJ9_floorMod_7cf53_2 : decode cJ9_floorMod_7cf53 2 = .ok (.irem, 1) := by decide +kernel
theorem dJ9_floorMod_7cf53_3 : decode cJ9_floorMod_7cf53 3 = .ok (.istore_n 2, 1) := by decide +kernel
theorem dJ9_floorMod_7cf53_4 : decode cJ9_floorMod_7cf53 4 = .ok (.iload_n 0, 1) := by decide +kernel
theorem dJ9_floorMod_7cf53_5 : decode cJ9_floorMod_7cf53 5 = .ok (.iload_n 1, 1) := by decide +kernel
theorem dJ9_floorMod_7cf53_6 : decode cJ9_floorMod_7cf53 6 = .ok (.ixor, 1) := by decide +kernel
theorem dJ9_floorMod_7cf53_7 : decode cJ9_floorMod_7cf53 7 = .ok (.ifCond .ge 11, 3) := by decide +kernel
theorem dJ9_floorMod_7cf53_10 : decode cJ9_floorMod_7cf53 10 = .ok (.iload_n 2, 1) := by decide +kernel
theorem dJ9_floorMod_7cf53_11 : decode cJ9_floorMod_7cf53 11 = .ok (.ifCond .eq 7, 3) := by decide +kernel
theorem dJ9_floorMod_7cf53_14 : decode cJ9_floorMod_7cf53 14 = .ok (.iload_n 2, 1) := by decide +kernel
theorem dJ9_floorMod_7cf53_15 : decode cJ9_floorMod_7cf53 15 = .ok (.iload_n 1, 1) := by decide +kernel
theorem dJ9_floorMod_7cf53_16 : decode cJ9_floorMod_7cf53 16 = .ok (.iadd, 1) := by decide +kernel
theorem dJ9_floorMod_7cf53_17 : decode cJ9_floorMod_7cf53 17 = .ok (.ireturn, 1) := by decide +kernel
theorem dJ9_floorMod_7cf53_18 : decode cJ9_floorMod_7cf53 18 = .ok (.iload_n 2, 1) := by decide +kernel
theorem dJ9_floorMod_7cf53_19 : decode cJ9_floorMod_7cf53 19 = .ok (.ireturn, 1) := by decide +kernel
theorem dJ9_max_7cf53_0 : decode cJ9_max_7cf53 0 = .ok (.iload_n 0, 1) := by decide +kernel
theorem dJ9_max_7cf53_1 : decode cJ9_max_7cf53 1 = .ok (.iload_n 1, 1) := by decide +kernel
theorem dJ9_max_7cf53_2 : decode cJ9_max_7cf53 2 = .ok (.if_icmp .lt 7, 3) := by decide +kernel
theorem dJ9_max_7cf53_5 : decode cJ9_max_7cf53 5 = .ok (.iload_n 0, 1) := by decide +kernel
theorem dJ9_max_7cf53_6 : decode cJ9_max_7cf53 6 = .ok (.goto 4, 3) := by decide +kernel
theorem dJ9_max_7cf53_9 : decode cJ9_max_7cf53 9 = .ok (.iload_n 1, 1) := by decide +kernel
theorem dJ9_max_7cf53_10 : decode cJ9_max_7cf53 10 = .ok (.ireturn, 1) := by decide +kernel
theorem dJ9_min_7cf53_0 : decode cJ9_min_7cf53 0 = .ok (.iload_n 0, 1) := by decide +kernel
theorem dJ9_min_7cf53_1 : decode cJ9_min_7cf53 1 = .ok (.iload_n 1, 1) := by decide +kernel
theorem dJ9_min_7cf53_2 : decode cJ9_min_7cf53 2 = .ok (.if_icmp .gt 7, 3) := by decide +kernel
theorem dJ9_min_7cf53_5 : decode cJ9_min_7cf53 5 = .ok (.iload_n 0, 1) := by decide +kernel
theorem dJ9_min_7cf53_6 : decode cJ9_min_7cf53 6 = .ok (.goto 4, 3) := by decide +kernel
theorem dJ9_min_7cf53_9 : decode cJ9_min_7cf53 9 = .ok (.iload_n 1, 1) := by decide +kernel
theorem dJ9_min_7cf53_10 : decode cJ9_min_7cf53 10 = .ok (.ireturn, 1) := by decide +kernel
set_option maxRecDepth 20000 in
theorem ggL_law_X10_init : GoodIn wsL_law wsX10_init := goodIn_r _ [9, 10, 11, 12, 13, 14, 15, 16, 17, 18, 19, 20, 21, 22, 23, 24, 25, 26, 27, 28, 29, 30, 31, 32, 33, 34, 35, 36, 37, 38, 39, 40, 41, 42, 43, 44, 45, 46, 47, 48, 49, 50, 51, 52, 53, 54, 55, 56, 57, 58, 59, 60, 61, 62, 63, 64, 65, 66, 67, 68, 69, 70, 71, 72, 73, 74, 75, 76, 77, 78, 79, 80, 81, 82, 83, 84, 85, 86, 87, 88, 89, 90, 91, 92, 93, 94, 95, 96, 97, 98, 99, 100, 101, 102, 103, 104, 105, 106, 107, 108, 109, 110, 111, 112, 113, 114, 115, 1145, 1146, 1147, 1148, 1149, 1150, 1151, 1152, 1153, 1154, 1116, 1117, 1118, 1119, 1120, 1121, 1122, 1123, 1124, 1155, 1156, 1157, 1158, 1159, 1160, 1161, 1162, 1163, 1164, 1165, 1166, 1167, 1168, 1169, 1170, 1171, 1172, 1173, 1174, 1175, 1176, 1177, 1178, 1179, 1180, 1181, 1182, 1183, 1184, 1185, 1186, 1187] (by decide +kernel) (by decide +kernel)
set_option maxRecDepth 20000 in
theorem gL_law_X10_init : GoodIn wsL_law (wsX10_init) := ggL_law_X10_init
set_option maxRecDepth 20000 in
theorem ggL_law_X11_init : GoodIn wsL_law wsX11_init := goodIn_r _ [118, 119, 11, 12, 38, 120, 121, 122, 123, 124, 125, 126, 127, 128, 129, 130, 131, 1125, 1126, 1127, 1128, 1129, 1130, 1131, 1132, 1133, 1134, 1135, 1136, 1137, 1138, 1139, 1140, 1141, 1142, 1143, 1144] (by decide +kernel) (by decide +kernel)
set_option maxRecDepth 20000 in
theorem gL_law_X11_init : GoodIn wsL_law (wsX11_init) := ggL_law_X11_init
set_option maxRecDepth 20000 in
theorem ggL_law_X10_wall : GoodIn wsL_law wsX10_wall := goodIn_r _ [135, 16, 136, 137, 138, 139, 140, 141, 142, 143, 2, 144, 39, 145, 146, 147, 148, 46, 149, 69, 66, 150, 151, 152, 15, 153, 50, 154, 155, 156, 157, 158, 159, 160, 161, 1116, 1117, 1118, 1119, 1120, 1121, 1122, 1123, 1124, 1145, 1146, 1147, 1148, 1149, 1150, 1151, 1152, 1153, 1154, 1178, 1179, 1180, 1181, 1182, 1183, 1184] (by decide +kernel) (by decide +kernel)
set_option maxRecDepth 20000 in
theorem gL_law_X10_wall : GoodIn wsL_law (wsV RL 13 RX10 yX10_wall wsX10_wall) := goodIn_app (goodIn_of _ (by decide +kernel)) ggL_law_X10_wall
set_option maxRecDepth 20000 in
theorem ggL_law_X11_wall : GoodIn wsL_law wsX11_wall := goodIn_r _ [165, 166, 167, 168, 169, 5, 170, 171, 172, 173, 174, 175, 176, 177, 123, 178, 179, 180, 181, 182, 120, 183, 184, 185, 186, 187, 188, 189, 190, 1125, 1126, 1127, 1128, 1129, 1130, 1131, 1132, 1133, 1134, 1135, 1136, 1137, 1138, 1139, 1140, 1141, 1142, 1143, 1144] (by decide +kernel) (by decide +kernel)
set_option maxRecDepth 20000 in
theorem gL_law_X11_wall : GoodIn wsL_law (wsV RL 17 RX11 yX11_wall wsX11_wall) := goodIn_app (goodIn_of _ (by decide +kernel)) ggL_law_X11_wall
set_option maxRecDepth 20000 in
theorem ggL_law_X10_cellIs : GoodIn wsL_law wsX10_cellIs := goodIn_r _ [194, 16, 136, 137, 138, 139, 140, 141, 142, 143, 2, 144, 39, 145, 150, 151, 152, 15, 153, 50, 154, 155, 156, 146, 147, 148, 46, 149, 69, 66, 1116, 1117, 1118, 1119, 1120, 1121, 1122, 1123, 1124, 1145, 1146, 1147, 1148, 1149, 1150, 1151, 1152, 1153, 1154, 1178, 1179, 1180, 1181, 1182, 1183, 1184] (by decide +kernel) (by decide +kernel)
set_option maxRecDepth 20000 in
theorem gL_law_X10_cellIs : GoodIn wsL_law (wsV RL 18 RX10 yX10_cellIs wsX10_cellIs) := goodIn_app (goodIn_of _ (by decide +kernel)) ggL_law_X10_cellIs
set_option maxRecDepth 20000 in
theorem ggL_law_X11_cellIs : GoodIn wsL_law wsX11_cellIs := goodIn_r _ [198, 166, 120, 168, 169, 5, 170, 171, 172, 173, 174, 175, 176, 177, 123, 178, 179, 180, 181, 182, 183, 184, 185, 186, 1125, 1126, 1127, 1128, 1129, 1130, 1131, 1132, 1133, 1134, 1135, 1136, 1137, 1138, 1139, 1140, 1141, 1142, 1143, 1144] (by decide +kernel) (by decide +kernel)
set_option maxRecDepth 20000 in
theorem gL_law_X11_cellIs : GoodIn wsL_law (wsV RL 21 RX11 yX11_cellIs wsX11_cellIs) := goodIn_app (goodIn_of _ (by decide +kernel)) ggL_law_X11_cellIs
set_option maxRecDepth 20000 in
theorem ggL_law_X10_thing : GoodIn wsL_law wsX10_thing := goodIn_r _ [202, 16, 136, 203, 204, 205, 206, 137, 138, 139, 140, 141, 142, 143, 2, 144, 39, 145, 207, 208, 209, 46, 210, 69, 150, 151, 152, 15, 153, 50, 154, 155, 156, 146, 147, 148, 149, 66, 211, 212, 213, 214, 67, 68, 70, 215, 216, 217, 218, 219, 64, 65, 220, 221, 222, 223, 1116, 1117, 1118, 1119, 1120, 1121, 1122, 1123, 1124, 1145, 1146, 1147, 1148, 1149, 1150, 1151, 1152, 1153, 1154, 1178, 1179, 1180, 1181, 1182, 1183, 1184] (by decide +kernel) (by decide +kernel)
set_option maxRecDepth 20000 in
theorem gL_law_X10_thing : GoodIn wsL_law (wsV RL 22 RX10 yX10_thing wsX10_thing) := goodIn_app (goodIn_of _ (by decide +kernel)) ggL_law_X10_thing
set_option maxRecDepth 20000 in
theorem ggL_law_X11_thing : GoodIn wsL_law wsX11_thing := goodIn_r _ [227, 166, 120, 228, 167, 229, 230, 5, 231, 171, 172, 173, 168, 169, 170, 174, 175, 176, 177, 123, 178, 232, 233, 234, 235, 236, 237, 238, 239, 179, 180, 181, 182, 183, 184, 185, 186, 240, 241, 242, 243, 1125, 1126, 1127, 1128, 1129, 1130, 1131, 1132, 1133, 1134, 1135, 1136, 1137, 1138, 1139, 1140, 1141, 1142, 1143, 1144] (by decide +kernel) (by decide +kernel)
set_option maxRecDepth 20000 in
theorem gL_law_X11_thing : GoodIn wsL_law (wsV RL 25 RX11 yX11_thing wsX11_thing) := goodIn_app (goodIn_of _ (by decide +kernel)) ggL_law_X11_thing
set_option maxRecDepth 20000 in
theorem ggL_law_X10_thingIs : GoodIn wsL_law wsX10_thingIs := goodIn_r _ [247, 16, 136, 248, 221, 222, 46, 223, 69, 141, 142, 143, 2, 144, 39, 145, 249, 250, 251, 252, 64, 65, 66, 67, 68, 220, 1116, 1117, 1118, 1119, 1120, 1121, 1122, 1123, 1124, 1145, 1146, 1147, 1148, 1149, 1150, 1151, 1152, 1153, 1154, 1178, 1179, 1180, 1181, 1182, 1183, 1184] (by decide +kernel) (by decide +kernel)
set_option maxRecDepth 20000 in
theorem gL_law_X10_thingIs : GoodIn wsL_law (wsV RL 26 RX10 yX10_thingIs wsX10_thingIs) := goodIn_app (goodIn_of _ (by decide +kernel)) ggL_law_X10_thingIs
set_option maxRecDepth 20000 in
theorem ggL_law_X11_thingIs : GoodIn wsL_law wsX11_thingIs := goodIn_r _ [256, 166, 257, 258, 259, 5, 260, 120, 171, 172, 173, 183, 184, 185, 186, 174, 175, 176, 177, 123, 178, 1125, 1126, 1127, 1128, 1129, 1130, 1131, 1132, 1133, 1134, 1135, 1136, 1137, 1138, 1139, 1140, 1141, 1142, 1143, 1144] (by decide +kernel) (by decide +kernel)
set_option maxRecDepth 20000 in
theorem gL_law_X11_thingIs : GoodIn wsL_law (wsV RL 29 RX11 yX11_thingIs wsX11_thingIs) := goodIn_app (goodIn_of _ (by decide +kernel)) ggL_law_X11_thingIs
set_option maxRecDepth 20000 in
theorem ggL_law_X10_become : GoodIn wsL_law wsX10_become := goodIn_r _ [264, 16, 136, 265, 248, 221, 222, 46, 223, 69, 203, 204, 205, 206, 141, 142, 143, 2, 144, 39, 145, 266, 217, 218, 219, 64, 65, 220, 1116, 1117, 1118, 1119, 1120, 1121, 1122, 1123, 1124, 1145, 1146, 1147, 1148, 1149, 1150, 1151, 1152, 1153, 1154, 1178, 1179, 1180, 1181, 1182, 1183, 1184] (by decide +kernel) (by decide +kernel)
set_option maxRecDepth 20000 in
theorem gL_law_X10_become : GoodIn wsL_law (wsV RL 30 RX10 yX10_become wsX10_become) := goodIn_app (goodIn_of _ (by decide +kernel)) ggL_law_X10_become
set_option maxRecDepth 20000 in
theorem ggL_law_X11_become : GoodIn wsL_law wsX11_become := goodIn_r _ [270, 166, 257, 258, 259, 5, 260, 120, 171, 172, 173, 229, 230, 231, 174, 175, 176, 177, 123, 178, 240, 241, 242, 243, 187, 188, 189, 190, 1125, 1126, 1127, 1128, 1129, 1130, 1131, 1132, 1133, 1134, 1135, 1136, 1137, 1138, 1139, 1140, 1141, 1142, 1143, 1144] (by decide +kernel) (by decide +kernel)
set_option maxRecDepth 20000 in
theorem gL_law_X11_become : GoodIn wsL_law (wsV RL 33 RX11 yX11_become wsX11_become) := goodIn_app (goodIn_of _ (by decide +kernel)) ggL_law_X11_become
set_option maxRecDepth 20000 in
theorem ggL_law_X10_as : GoodIn wsL_law wsX10_as := goodIn_r _ [274, 16, 136, 265, 275, 248, 221, 222, 46, 223, 69, 276, 277, 205, 278, 141, 142, 143, 2, 144, 39, 145, 279, 280, 281, 282, 283, 284, 285, 286, 1116, 1117, 1118, 1119, 1120, 1121, 1122, 1123, 1124, 1145, 1146, 1147, 1148, 1149, 1150, 1151, 1152, 1153, 1154, 1178, 1179, 1180, 1181, 1182, 1183, 1184] (by decide +kernel) (by decide +kernel)
set_option maxRecDepth 20000 in
theorem gL_law_X10_as : GoodIn wsL_law (wsV RL 34 RX10 yX10_as wsX10_as) := goodIn_app (goodIn_of _ (by decide +kernel)) ggL_law_X10_as
set_option maxRecDepth 20000 in
theorem ggL_law_X11_as : GoodIn wsL_law wsX11_as := goodIn_r _ [290, 166, 291, 257, 258, 259, 5, 260, 120, 171, 172, 173, 174, 175, 176, 177, 123, 178, 183, 184, 185, 186, 1125, 1126, 1127, 1128, 1129, 1130, 1131, 1132, 1133, 1134, 1135, 1136, 1137, 1138, 1139, 1140, 1141, 1142, 1143, 1144] (by decide +kernel) (by decide +kernel)
set_option maxRecDepth 20000 in
theorem gL_law_X11_as : GoodIn wsL_law (wsV RL 37 RX11 yX11_as wsX11_as) := goodIn_app (goodIn_of _ (by decide +kernel)) ggL_law_X11_as
set_option maxRecDepth 20000 in
theorem ggL_law_X10_carry : GoodIn wsL_law wsX10_carry := goodIn_r _ [295, 16, 136, 296, 248, 221, 222, 46, 223, 69, 137, 138, 139, 140, 141, 142, 143, 2, 144, 39, 145, 146, 147, 148, 149, 66, 150, 151, 152, 15, 153, 50, 154, 155, 156, 297, 298, 299, 300, 70, 301, 220, 1116, 1117, 1118, 1119, 1120, 1121, 1122, 1123, 1124, 1145, 1146, 1147, 1148, 1149, 1150, 1151, 1152, 1153, 1154, 1178, 1179, 1180, 1181, 1182, 1183, 1184] (by decide +kernel) (by decide +kernel)
set_option maxRecDepth 20000 in
theorem gL_law_X10_carry : GoodIn wsL_law (wsV RL 38 RX10 yX10_carry wsX10_carry) := goodIn_app (goodIn_of _ (by decide +kernel)) ggL_law_X10_carry
set_option maxRecDepth 20000 in
theorem ggL_law_X11_carry : GoodIn wsL_law wsX11_carry := goodIn_r _ [305, 166, 167, 257, 258, 259, 5, 260, 120, 171, 172, 173, 168, 169, 170, 174, 175, 176, 177, 123, 178, 183, 184, 185, 186, 232, 233, 234, 235, 236, 237, 238, 239, 179, 180, 181, 182, 187, 188, 189, 190, 1125, 1126, 1127, 1128, 1129, 1130, 1131, 1132, 1133, 1134, 1135, 1136, 1137, 1138, 1139, 1140, 1141, 1142, 1143, 1144] (by decide +kernel) (by decide +kernel)
set_option maxRecDepth 20000 in
theorem gL_law_X11_carry : GoodIn wsL_law (wsV RL 41 RX11 yX11_carry wsX11_carry) := goodIn_app (goodIn_of _ (by decide +kernel)) ggL_law_X11_carry
set_option maxRecDepth 20000 in
theorem ggL_law_X10_clock : GoodIn wsL_law wsX10_clock := goodIn_r _ [309, 16, 310, 141, 142, 143, 2, 144, 39, 145, 1116, 1117, 1118, 1119, 1120, 1121, 1122, 1123, 1124, 1145, 1146, 1147, 1148, 1149, 1150, 1151, 1152, 1153, 1154] (by decide +kernel) (by decide +kernel)
set_option maxRecDepth 20000 in
theorem gL_law_X10_clock : GoodIn wsL_law (wsV RL 42 RX10 yX10_clock wsX10_clock) := goodIn_app (goodIn_of _ (by decide +kernel)) ggL_law_X10_clock
set_option maxRecDepth 20000 in
theorem ggL_law_X11_clock : GoodIn wsL_law wsX11_clock := goodIn_r _ [314, 166, 171, 172, 5, 173, 187, 188, 189, 190, 120, 174, 175, 176, 177, 123, 178, 1125, 1126, 1127, 1128, 1129, 1130, 1131, 1132, 1133, 1134, 1135, 1136, 1137, 1138, 1139, 1140, 1141, 1142, 1143, 1144] (by decide +kernel) (by decide +kernel)
set_option maxRecDepth 20000 in
theorem gL_law_X11_clock : GoodIn wsL_law (wsV RL 46 RX11 yX11_clock wsX11_clock) := goodIn_app (goodIn_of _ (by decide +kernel)) ggL_law_X11_clock
set_option maxRecDepth 20000 in
theorem ggL_law_X10_feed : GoodIn wsL_law wsX10_feed := goodIn_r _ [318, 16, 319, 141, 142, 143, 2, 144, 39, 145, 320, 321, 322, 15, 323, 53, 324, 325, 326, 327, 49, 1116, 1117, 1118, 1119, 1120, 1121, 1122, 1123, 1124, 1145, 1146, 1147, 1148, 1149, 1150, 1151, 1152, 1153, 1154] (by decide +kernel) (by decide +kernel)
set_option maxRecDepth 20000 in
theorem gL_law_X10_feed : GoodIn wsL_law (wsV RL 49 RX10 yX10_feed wsX10_feed) := goodIn_app (goodIn_of _ (by decide +kernel)) ggL_law_X10_feed
set_option maxRecDepth 20000 in
theorem ggL_law_X11_feed : GoodIn wsL_law wsX11_feed := goodIn_r _ [331, 166, 120, 228, 332, 171, 172, 5, 173, 174, 175, 176, 177, 123, 178, 1125, 1126, 1127, 1128, 1129, 1130, 1131, 1132, 1133, 1134, 1135, 1136, 1137, 1138, 1139, 1140, 1141, 1142, 1143, 1144] (by decide +kernel) (by decide +kernel)
set_option maxRecDepth 20000 in
theorem gL_law_X11_feed : GoodIn wsL_law (wsV RL 53 RX11 yX11_feed wsX11_feed) := goodIn_app (goodIn_of _ (by decide +kernel)) ggL_law_X11_feed
set_option maxRecDepth 20000 in
theorem ggL_law_X10_text : GoodIn wsL_law wsX10_text := goodIn_r _ [336, 21, 16, 337, 319, 338, 339, 340, 341, 342, 2, 343, 141, 142, 143, 144, 39, 145, 344, 345, 346, 20, 347, 83, 348, 349, 350, 351, 84, 86, 85, 81, 82, 352, 353, 354, 355, 356, 357, 358, 359, 360, 361, 362, 363, 364, 365, 366, 367, 368, 369, 80, 370, 371, 372, 373, 374, 375, 376, 377, 378, 379, 380, 381, 382, 383, 384, 385, 386, 387, 388, 389, 390, 391, 392, 393, 394, 395, 396, 15, 397, 58, 59, 398, 399, 400, 57, 401, 402, 76, 74, 1116, 1117, 1118, 1119, 1120, 1121, 1122, 1123, 1124, 1145, 1146, 1147, 1148, 1149, 1150, 1151, 1152, 1153, 1154, 1155, 1156, 1157, 1158, 1159, 1160, 1161, 1185, 1186, 1187] (by decide +kernel) (by decide +kernel)
set_option maxRecDepth 20000 in
theorem gL_law_X10_text : GoodIn wsL_law (wsV RL 54 RX10 yX10_text wsX10_text) := goodIn_app (goodIn_of _ (by decide +kernel)) ggL_law_X10_text
set_option maxRecDepth 20000 in
theorem ggL_law_X11_text : GoodIn wsL_law wsX11_text := goodIn_r _ [406, 166, 407, 408, 409, 410, 411, 120, 124, 125, 171, 172, 5, 173, 174, 175, 176, 177, 123, 178, 412, 413, 414, 415, 416, 417, 418, 419, 420, 421, 422, 423, 424, 425, 426, 427, 428, 429, 430, 431, 432, 433, 434, 435, 436, 437, 438, 439, 440, 441, 442, 443, 444, 445, 446, 447, 448, 449, 450, 451, 452, 453, 454, 455, 1125, 1126, 1127, 1128, 1129, 1130, 1131, 1132, 1133, 1134, 1135, 1136, 1137, 1138, 1139, 1140, 1141, 1142, 1143, 1144] (by decide +kernel) (by decide +kernel)
set_option maxRecDepth 20000 in
theorem gL_law_X11_text : GoodIn wsL_law (wsV RL 57 RX11 yX11_text wsX11_text) := goodIn_app (goodIn_of _ (by decide +kernel)) ggL_law_X11_text
set_option maxRecDepth 20000 in
theorem ggL_law_X10_untell : GoodIn wsL_law wsX10_untell := goodIn_r _ [459, 16, 341, 342, 2, 343, 141, 142, 143, 144, 39, 145, 394, 395, 396, 15, 397, 58, 59, 460, 461, 462, 57, 463, 76, 464, 465, 466, 467, 1116, 1117, 1118, 1119, 1120, 1121, 1122, 1123, 1124, 1145, 1146, 1147, 1148, 1149, 1150, 1151, 1152, 1153, 1154, 1185, 1186, 1187] (by decide +kernel) (by decide +kernel)
set_option maxRecDepth 20000 in
theorem gL_law_X10_untell : GoodIn wsL_law (wsV RL 58 RX10 yX10_untell wsX10_untell) := goodIn_app (goodIn_of _ (by decide +kernel)) ggL_law_X10_untell
set_option maxRecDepth 20000 in
theorem ggL_law_X11_untell : GoodIn wsL_law wsX11_untell := goodIn_r _ [471, 166, 171, 172, 5, 173, 174, 175, 176, 177, 123, 178, 187, 188, 189, 190, 120, 1125, 1126, 1127, 1128, 1129, 1130, 1131, 1132, 1133, 1134, 1135, 1136, 1137, 1138, 1139, 1140, 1141, 1142, 1143, 1144] (by decide +kernel) (by decide +kernel)
set_option maxRecDepth 20000 in
theorem gL_law_X11_untell : GoodIn wsL_law (wsV RL 61 RX11 yX11_untell wsX11_untell) := goodIn_app (goodIn_of _ (by decide +kernel)) ggL_law_X11_untell
set_option maxRecDepth 20000 in
theorem ggL_law_X10_law : GoodIn wsL_law wsX10_law := goodIn_r _ [475, 16, 341, 342, 2, 343, 141, 142, 143, 144, 39, 145, 476, 477, 478, 15, 479, 58, 480, 461, 462, 57, 463, 76, 481, 482, 483, 484, 74, 75, 485, 486, 487, 488, 489, 490, 491, 492, 493, 494, 495, 496, 497, 498, 59, 1116, 1117, 1118, 1119, 1120, 1121, 1122, 1123, 1124, 1145, 1146, 1147, 1148, 1149, 1150, 1151, 1152, 1153, 1154, 1185, 1186, 1187] (by decide +kernel) (by decide +kernel)
set_option maxRecDepth 20000 in
theorem gL_law_X10_law : GoodIn wsL_law (wsV RL 62 RX10 yX10_law wsX10_law) := goodIn_app (goodIn_of _ (by decide +kernel)) ggL_law_X10_law
set_option maxRecDepth 20000 in
theorem ggL_law_X11_law : GoodIn wsL_law wsX11_law := goodIn_r _ [502, 166, 171, 172, 5, 173, 503, 504, 505, 506, 126, 120, 507, 508, 509, 510, 127, 511, 512, 513, 174, 175, 176, 177, 123, 178, 1125, 1126, 1127, 1128, 1129, 1130, 1131, 1132, 1133, 1134, 1135, 1136, 1137, 1138, 1139, 1140, 1141, 1142, 1143, 1144] (by decide +kernel) (by decide +kernel)
set_option maxRecDepth 20000 in
theorem gL_law_X11_law : GoodIn wsL_law (wsV RL 66 RX11 yX11_law wsX11_law) := goodIn_app (goodIn_of _ (by decide +kernel)) ggL_law_X11_law
set_option maxRecDepth 20000 in
theorem ggL_law_X10_hours : GoodIn wsL_law wsX10_hours := goodIn_r _ [517, 16, 310, 136, 141, 142, 143, 2, 144, 39, 145, 518, 519, 520, 15, 521, 47, 522, 523, 477, 478, 479, 58, 480, 461, 462, 57, 463, 76, 481, 482, 483, 484, 74, 75, 485, 486, 487, 488, 489, 490, 491, 492, 493, 494, 524, 525, 526, 527, 528, 50, 529, 530, 531, 51, 532, 533, 534, 46, 535, 64, 65, 536, 537, 350, 538, 220, 221, 222, 223, 69, 539, 540, 541, 542, 543, 544, 545, 546, 70, 66, 301, 547, 548, 139, 549, 550, 155, 156, 551, 552, 553, 554, 555, 556, 557, 558, 496, 497, 498, 59, 559, 560, 561, 562, 67, 1116, 1117, 1118, 1119, 1120, 1121, 1122, 1123, 1124, 1145, 1146, 1147, 1148, 1149, 1150, 1151, 1152, 1153, 1154, 1178, 1179, 1180, 1181, 1182, 1183, 1184, 1185, 1186, 1187] (by decide +kernel) (by decide +kernel)
set_option maxRecDepth 20000 in
theorem gL_law_X10_hours : GoodIn wsL_law (wsV RL 67 RX10 yX10_hours wsX10_hours) := goodIn_app (goodIn_of _ (by decide +kernel)) ggL_law_X10_hours
set_option maxRecDepth 20000 in
theorem ggL_law_X11_hours : GoodIn wsL_law wsX11_hours := goodIn_r _ [566, 166, 120, 167, 171, 172, 5, 173, 174, 175, 176, 177, 123, 178, 567, 568, 569, 570, 571, 572, 573, 574, 503, 504, 505, 506, 126, 507, 508, 509, 510, 127, 511, 512, 513, 575, 576, 577, 578, 579, 580, 581, 582, 183, 184, 185, 186, 583, 584, 585, 586, 587, 588, 589, 590, 591, 592, 593, 232, 233, 234, 235, 236, 237, 238, 239, 179, 180, 181, 182, 240, 241, 242, 243, 594, 595, 596, 597, 1125, 1126, 1127, 1128, 1129, 1130, 1131, 1132, 1133, 1134, 1135, 1136, 1137, 1138, 1139, 1140, 1141, 1142, 1143, 1144] (by decide +kernel) (by decide +kernel)
set_option maxRecDepth 20000 in
theorem gL_law_X11_hours : GoodIn wsL_law (wsV RL 70 RX11 yX11_hours wsX11_hours) := goodIn_app (goodIn_of _ (by decide +kernel)) ggL_law_X11_hours
set_option maxRecDepth 20000 in
theorem ggL_law_X10_shakes : GoodIn wsL_law wsX10_shakes := goodIn_r _ [601, 16, 310, 136, 141, 142, 143, 2, 144, 39, 145, 602, 603, 604, 15, 605, 52, 606, 524, 525, 526, 527, 47, 522, 528, 50, 529, 530, 531, 51, 532, 533, 534, 46, 535, 64, 65, 536, 537, 350, 538, 220, 221, 222, 223, 69, 539, 540, 541, 542, 543, 544, 545, 546, 70, 66, 301, 547, 548, 139, 549, 550, 155, 156, 551, 552, 553, 554, 555, 556, 557, 558, 496, 497, 498, 59, 480, 461, 462, 57, 463, 76, 481, 482, 483, 484, 74, 75, 485, 486, 487, 488, 489, 490, 559, 560, 561, 562, 67, 1116, 1117, 1118, 1119, 1120, 1121, 1122, 1123, 1124, 1145, 1146, 1147, 1148, 1149, 1150, 1151, 1152, 1153, 1154, 1178, 1179, 1180, 1181, 1182, 1183, 1184, 1185, 1186, 1187] (by decide +kernel) (by decide +kernel)
set_option maxRecDepth 20000 in
theorem gL_law_X10_shakes : GoodIn wsL_law (wsV RL 71 RX10 yX10_shakes wsX10_shakes) := goodIn_app (goodIn_of _ (by decide +kernel)) ggL_law_X10_shakes
set_option maxRecDepth 20000 in
theorem ggL_law_X11_shakes : GoodIn wsL_law wsX11_shakes := goodIn_r _ [610, 166, 120, 167, 171, 172, 5, 173, 174, 175, 176, 177, 123, 178, 611, 612, 613, 614, 615, 575, 576, 577, 578, 579, 580, 581, 582, 183, 184, 185, 186, 583, 584, 585, 586, 587, 588, 589, 590, 591, 592, 593, 232, 233, 234, 235, 236, 237, 238, 239, 179, 180, 181, 182, 240, 241, 242, 243, 503, 504, 505, 506, 126, 507, 508, 509, 510, 127, 511, 512, 513, 594, 595, 596, 597, 1125, 1126, 1127, 1128, 1129, 1130, 1131, 1132, 1133, 1134, 1135, 1136, 1137, 1138, 1139, 1140, 1141, 1142, 1143, 1144] (by decide +kernel) (by decide +kernel)
set_option maxRecDepth 20000 in
theorem gL_law_X11_shakes : GoodIn wsL_law (wsV RL 74 RX11 yX11_shakes wsX11_shakes) := goodIn_app (goodIn_of _ (by decide +kernel)) ggL_law_X11_shakes
set_option maxRecDepth 20000 in
theorem ggL_law_X10_seed : GoodIn wsL_law wsX10_seed := goodIn_r _ [619, 16, 620, 1116, 1117, 1118, 1119, 1120, 1121, 1122, 1123, 1124, 1145, 1146, 1147, 1148, 1149, 1150, 1151, 1152, 1153, 1154] (by decide +kernel) (by decide +kernel)
set_option maxRecDepth 20000 in
theorem gL_law_X10_seed : GoodIn wsL_law (wsV RL 75 RX10 yX10_seed wsX10_seed) := goodIn_app (goodIn_of _ (by decide +kernel)) ggL_law_X10_seed
set_option maxRecDepth 20000 in
theorem ggL_law_X11_seed : GoodIn wsL_law wsX11_seed := goodIn_r _ [624, 187, 188, 189, 5, 190, 120, 1125, 1126, 1127, 1128, 1129, 1130, 1131, 1132, 1133, 1134, 1135, 1136, 1137, 1138, 1139, 1140, 1141, 1142, 1143, 1144] (by decide +kernel) (by decide +kernel)
set_option maxRecDepth 20000 in
theorem gL_law_X11_seed : GoodIn wsL_law (wsV RL 78 RX11 yX11_seed wsX11_seed) := goodIn_app (goodIn_of _ (by decide +kernel)) ggL_law_X11_seed
set_option maxRecDepth 20000 in
theorem ggL_law_X10_pull : GoodIn wsL_law wsX10_pull := goodIn_r _ [628, 16, 141, 142, 143, 2, 144, 39, 145, 518, 519, 520, 15, 521, 47, 522, 523, 477, 478, 479, 58, 480, 461, 462, 57, 463, 76, 481, 482, 483, 484, 74, 75, 485, 486, 487, 488, 489, 490, 491, 492, 493, 494, 1116, 1117, 1118, 1119, 1120, 1121, 1122, 1123, 1124, 1145, 1146, 1147, 1148, 1149, 1150, 1151, 1152, 1153, 1154, 1178, 1179, 1180, 1181, 1182, 1183, 1184, 1185, 1186, 1187] (by decide +kernel) (by decide +kernel)
set_option maxRecDepth 20000 in
theorem gL_law_X10_pull : GoodIn wsL_law (wsV RL 79 RX10 yX10_pull wsX10_pull) := goodIn_app (goodIn_of _ (by decide +kernel)) ggL_law_X10_pull
set_option maxRecDepth 20000 in
theorem ggL_law_X11_pull : GoodIn wsL_law wsX11_pull := goodIn_r _ [632, 166, 171, 172, 5, 173, 571, 572, 573, 574, 120, 503, 504, 505, 506, 126, 507, 508, 509, 510, 127, 511, 512, 513, 174, 175, 176, 177, 123, 178, 1125, 1126, 1127, 1128, 1129, 1130, 1131, 1132, 1133, 1134, 1135, 1136, 1137, 1138, 1139, 1140, 1141, 1142, 1143, 1144] (by decide +kernel) (by decide +kernel)
set_option maxRecDepth 20000 in
theorem gL_law_X11_pull : GoodIn wsL_law (wsV RL 82 RX11 yX11_pull wsX11_pull) := goodIn_app (goodIn_of _ (by decide +kernel)) ggL_law_X11_pull
set_option maxRecDepth 20000 in
theorem ggL_law_X10_then : GoodIn wsL_law wsX10_then := goodIn_r _ [636, 16, 136, 25, 310, 248, 221, 222, 46, 223, 69, 141, 142, 143, 2, 144, 39, 145, 637, 638, 639, 24, 640, 92, 641, 519, 520, 15, 521, 47, 522, 523, 477, 478, 479, 58, 480, 461, 462, 57, 463, 76, 481, 482, 483, 484, 74, 75, 485, 486, 487, 488, 489, 490, 491, 492, 493, 494, 642, 643, 644, 645, 91, 646, 647, 648, 649, 650, 651, 70, 64, 65, 66, 67, 68, 652, 653, 654, 655, 656, 657, 658, 659, 537, 350, 538, 660, 661, 662, 663, 664, 533, 534, 535, 536, 220, 539, 540, 541, 542, 543, 544, 545, 546, 301, 547, 548, 139, 549, 550, 155, 156, 551, 552, 553, 554, 555, 556, 557, 665, 1116, 1117, 1118, 1119, 1120, 1121, 1122, 1123, 1124, 1145, 1146, 1147, 1148, 1149, 1150, 1151, 1152, 1153, 1154, 1178, 1179, 1180, 1181, 1182, 1183, 1184, 1162, 1163, 1164, 1165, 1166, 1185, 1186, 1187] (by decide +kernel) (by decide +kernel)
set_option maxRecDepth 20000 in
theorem gL_law_X10_then : GoodIn wsL_law (wsV RL 83 RX10 yX10_then wsX10_then) := goodIn_app (goodIn_of _ (by decide +kernel)) ggL_law_X10_then
set_option maxRecDepth 20000 in
theorem ggL_law_X11_then : GoodIn wsL_law wsX11_then := goodIn_r _ [669, 166, 257, 258, 259, 5, 260, 120, 171, 172, 173, 174, 175, 176, 177, 123, 178, 670, 671, 672, 673, 122, 674, 675, 676, 567, 568, 569, 570, 571, 572, 573, 574, 503, 504, 505, 506, 126, 507, 508, 509, 510, 127, 511, 512, 513, 575, 576, 577, 578, 579, 580, 581, 582, 183, 184, 185, 186, 583, 584, 585, 586, 587, 588, 589, 590, 591, 592, 593, 232, 233, 234, 235, 236, 237, 238, 239, 179, 180, 181, 182, 240, 241, 242, 243, 677, 678, 679, 680, 1125, 1126, 1127, 1128, 1129, 1130, 1131, 1132, 1133, 1134, 1135, 1136, 1137, 1138, 1139, 1140, 1141, 1142, 1143, 1144] (by decide +kernel) (by decide +kernel)
set_option maxRecDepth 20000 in
theorem gL_law_X11_then : GoodIn wsL_law (wsV RL 86 RX11 yX11_then wsX11_then) := goodIn_app (goodIn_of _ (by decide +kernel)) ggL_law_X11_then
set_option maxRecDepth 20000 in
theorem ggL_law_X10_when : GoodIn wsL_law wsX10_when := goodIn_r _ [684, 16, 136, 25, 310, 248, 221, 222, 46, 223, 69, 137, 138, 139, 140, 141, 142, 143, 2, 144, 39, 145, 637, 638, 639, 24, 640, 92, 641, 519, 520, 15, 521, 47, 522, 523, 477, 478, 479, 58, 480, 461, 462, 57, 463, 76, 481, 482, 483, 484, 74, 75, 485, 486, 487, 488, 489, 490, 491, 492, 493, 494, 685, 686, 687, 688, 91, 646, 648, 649, 650, 651, 70, 64, 65, 66, 67, 68, 689, 147, 148, 149, 652, 653, 654, 655, 656, 657, 658, 659, 537, 350, 538, 660, 661, 662, 663, 664, 533, 534, 535, 536, 220, 539, 540, 541, 542, 543, 544, 545, 546, 301, 547, 548, 549, 550, 155, 156, 551, 552, 553, 554, 555, 556, 557, 1116, 1117, 1118, 1119, 1120, 1121, 1122, 1123, 1124, 1145, 1146, 1147, 1148, 1149, 1150, 1151, 1152, 1153, 1154, 1178, 1179, 1180, 1181, 1182, 1183, 1184, 1162, 1163, 1164, 1165, 1166, 1185, 1186, 1187] (by decide +kernel) (by decide +kernel)
set_option maxRecDepth 20000 in
theorem gL_law_X10_when : GoodIn wsL_law (wsV RL 87 RX10 yX10_when wsX10_when) := goodIn_app (goodIn_of _ (by decide +kernel)) ggL_law_X10_when
set_option maxRecDepth 20000 in
theorem ggL_law_X11_when : GoodIn wsL_law wsX11_when := goodIn_r _ [693, 166, 694, 257, 258, 259, 5, 260, 120, 171, 172, 173, 168, 169, 170, 174, 175, 176, 177, 123, 178, 670, 671, 672, 673, 122, 674, 675, 676, 183, 184, 185, 186, 567, 568, 569, 570, 571, 572, 573, 574, 503, 504, 505, 506, 126, 507, 508, 509, 510, 127, 511, 512, 513, 575, 576, 577, 578, 579, 580, 581, 582, 583, 584, 585, 586, 587, 588, 589, 590, 591, 592, 593, 232, 233, 234, 235, 236, 237, 238, 239, 179, 180, 181, 182, 240, 241, 242, 243, 677, 678, 679, 680, 1125, 1126, 1127, 1128, 1129, 1130, 1131, 1132, 1133, 1134, 1135, 1136, 1137, 1138, 1139, 1140, 1141, 1142, 1143, 1144] (by decide +kernel) (by decide +kernel)
set_option maxRecDepth 20000 in
theorem gL_law_X11_when : GoodIn wsL_law (wsV RL 90 RX11 yX11_when wsX11_when) := goodIn_app (goodIn_of _ (by decide +kernel)) ggL_law_X11_when
set_option maxRecDepth 20000 in
theorem ggL_law_X10_farthest : GoodIn wsL_law wsX10_farthest := goodIn_r _ [698, 25, 16, 310, 699, 700, 701, 141, 142, 143, 2, 144, 39, 145, 637, 638, 639, 24, 640, 92, 641, 519, 520, 15, 521, 47, 522, 523, 477, 478, 479, 58, 480, 461, 462, 57, 463, 76, 481, 482, 483, 484, 74, 75, 485, 486, 487, 488, 489, 490, 491, 492, 493, 494, 702, 703, 704, 705, 91, 646, 93, 94, 95, 648, 649, 650, 46, 651, 69, 70, 64, 65, 66, 67, 68, 652, 653, 654, 655, 656, 657, 658, 659, 537, 350, 538, 660, 661, 662, 663, 664, 533, 534, 535, 536, 220, 221, 222, 223, 539, 540, 541, 542, 543, 544, 545, 546, 301, 547, 548, 139, 549, 550, 155, 156, 551, 552, 553, 554, 555, 556, 557, 706, 707, 708, 709, 1116, 1117, 1118, 1119, 1120, 1121, 1122, 1123, 1124, 1145, 1146, 1147, 1148, 1149, 1150, 1151, 1152, 1153, 1154, 1162, 1163, 1164, 1165, 1166, 1178, 1179, 1180, 1181, 1182, 1183, 1184, 1185, 1186, 1187] (by decide +kernel) (by decide +kernel)
set_option maxRecDepth 20000 in
theorem gL_law_X10_farthest : GoodIn wsL_law (wsV RL 91 RX10 yX10_farthest wsX10_farthest) := goodIn_app (goodIn_of _ (by decide +kernel)) ggL_law_X10_farthest
set_option maxRecDepth 20000 in
theorem ggL_law_X11_farthest : GoodIn wsL_law wsX11_farthest := goodIn_r _ [713, 166, 120, 171, 172, 5, 173, 174, 175, 176, 177, 123, 178, 670, 671, 672, 673, 122, 674, 675, 676, 567, 568, 569, 570, 571, 572, 573, 574, 503, 504, 505, 506, 126, 507, 508, 509, 510, 127, 511, 512, 513, 575, 576, 577, 578, 579, 580, 581, 582, 183, 184, 185, 186, 583, 584, 585, 586, 587, 588, 589, 590, 591, 592, 593, 232, 233, 234, 235, 236, 237, 238, 239, 179, 180, 181, 182, 240, 241, 242, 243, 677, 678, 679, 680, 1125, 1126, 1127, 1128, 1129, 1130, 1131, 1132, 1133, 1134, 1135, 1136, 1137, 1138, 1139, 1140, 1141, 1142, 1143, 1144] (by decide +kernel) (by decide +kernel)
set_option maxRecDepth 20000 in
theorem gL_law_X11_farthest : GoodIn wsL_law (wsV RL 94 RX11 yX11_farthest wsX11_farthest) := goodIn_app (goodIn_of _ (by decide +kernel)) ggL_law_X11_farthest
set_option maxRecDepth 20000 in
theorem ggL_law_X10_screws : GoodIn wsL_law wsX10_screws := goodIn_r _ [717, 25, 16, 310, 136, 718, 141, 142, 143, 2, 144, 39, 145, 637, 638, 639, 24, 640, 92, 641, 519, 520, 15, 521, 47, 522, 523, 477, 478, 479, 58, 480, 461, 462, 57, 463, 76, 481, 482, 483, 484, 74, 75, 485, 486, 487, 488, 489, 490, 491, 492, 493, 494, 719, 720, 721, 722, 723, 724, 725, 726, 727, 728, 729, 91, 646, 648, 649, 650, 46, 651, 69, 70, 64, 65, 66, 67, 68, 652, 653, 654, 655, 656, 657, 658, 659, 537, 350, 538, 660, 661, 662, 663, 664, 533, 534, 535, 536, 220, 221, 222, 223, 539, 540, 541, 542, 543, 544, 545, 546, 301, 547, 548, 139, 549, 550, 155, 156, 551, 552, 553, 554, 555, 556, 557, 1116, 1117, 1118, 1119, 1120, 1121, 1122, 1123, 1124, 1145, 1146, 1147, 1148, 1149, 1150, 1151, 1152, 1153, 1154, 1178, 1179, 1180, 1181, 1182, 1183, 1184, 1162, 1163, 1164, 1165, 1166, 1185, 1186, 1187] (by decide +kernel) (by decide +kernel)
set_option maxRecDepth 20000 in
theorem gL_law_X10_screws : GoodIn wsL_law (wsV RL 95 RX10 yX10_screws wsX10_screws) := goodIn_app (goodIn_of _ (by decide +kernel)) ggL_law_X10_screws
set_option maxRecDepth 20000 in
theorem ggL_law_X11_screws : GoodIn wsL_law wsX11_screws := goodIn_r _ [733, 166, 120, 171, 172, 5, 173, 174, 175, 176, 177, 123, 178, 670, 671, 672, 673, 122, 674, 675, 676, 734, 735, 736, 737, 738, 739, 740, 571, 572, 573, 574, 503, 504, 505, 506, 126, 507, 508, 509, 510, 127, 511, 512, 513, 575, 576, 577, 578, 579, 580, 581, 582, 183, 184, 185, 186, 583, 584, 585, 586, 587, 588, 589, 590, 591, 592, 593, 232, 233, 234, 235, 236, 237, 238, 239, 179, 180, 181, 182, 240, 241, 242, 243, 677, 678, 679, 680, 1125, 1126, 1127, 1128, 1129, 1130, 1131, 1132, 1133, 1134, 1135, 1136, 1137, 1138, 1139, 1140, 1141, 1142, 1143, 1144] (by decide +kernel) (by decide +kernel)
set_option maxRecDepth 20000 in
theorem gL_law_X11_screws : GoodIn wsL_law (wsV RL 99 RX11 yX11_screws wsX11_screws) := goodIn_app (goodIn_of _ (by decide +kernel)) ggL_law_X11_screws
set_option maxRecDepth 20000 in
theorem ggL_law_X10_lands : GoodIn wsL_law wsX10_lands := goodIn_r _ [744, 16, 745, 137, 138, 139, 140, 746, 747, 748, 141, 142, 143, 2, 144, 39, 145, 150, 151, 152, 15, 153, 50, 154, 155, 156, 749, 750, 751, 752, 548, 549, 753, 1116, 1117, 1118, 1119, 1120, 1121, 1122, 1123, 1124, 1145, 1146, 1147, 1148, 1149, 1150, 1151, 1152, 1153, 1154] (by decide +kernel) (by decide +kernel)
set_option maxRecDepth 20000 in
theorem gL_law_X10_lands : GoodIn wsL_law (wsV RL 100 RX10 yX10_lands wsX10_lands) := goodIn_app (goodIn_of _ (by decide +kernel)) ggL_law_X10_lands
set_option maxRecDepth 20000 in
theorem ggL_law_X11_lands : GoodIn wsL_law wsX11_lands := goodIn_r _ [757, 166, 171, 172, 5, 173, 758, 759, 760, 761, 167, 168, 169, 170, 236, 237, 238, 239, 120, 174, 175, 176, 177, 123, 178, 762, 763, 764, 765, 591, 592, 593, 1125, 1126, 1127, 1128, 1129, 1130, 1131, 1132, 1133, 1134, 1135, 1136, 1137, 1138, 1139, 1140, 1141, 1142, 1143, 1144] (by decide +kernel) (by decide +kernel)
set_option maxRecDepth 20000 in
theorem gL_law_X11_lands : GoodIn wsL_law (wsV RL 103 RX11 yX11_lands wsX11_lands) := goodIn_app (goodIn_of _ (by decide +kernel)) ggL_law_X11_lands
set_option maxRecDepth 20000 in
theorem ggL_law_X10_sources : GoodIn wsL_law wsX10_sources := goodIn_r _ [769, 16, 29, 745, 137, 138, 139, 140, 746, 747, 748, 141, 142, 143, 2, 144, 39, 145, 150, 151, 152, 15, 153, 50, 154, 155, 156, 770, 771, 772, 28, 773, 100, 99, 774, 750, 751, 752, 548, 549, 753, 775, 776, 777, 778, 779, 780, 781, 782, 783, 1116, 1117, 1118, 1119, 1120, 1121, 1122, 1123, 1124, 1145, 1146, 1147, 1148, 1149, 1150, 1151, 1152, 1153, 1154, 1167, 1168] (by decide +kernel) (by decide +kernel)
set_option maxRecDepth 20000 in
theorem gL_law_X10_sources : GoodIn wsL_law (wsV RL 104 RX10 yX10_sources wsX10_sources) := goodIn_app (goodIn_of _ (by decide +kernel)) ggL_law_X10_sources
set_option maxRecDepth 20000 in
theorem ggL_law_X11_sources : GoodIn wsL_law wsX11_sources := goodIn_r _ [787, 166, 171, 172, 5, 173, 758, 759, 760, 761, 167, 168, 169, 170, 236, 237, 238, 239, 120, 174, 175, 176, 177, 123, 178, 762, 763, 764, 765, 591, 592, 593, 1125, 1126, 1127, 1128, 1129, 1130, 1131, 1132, 1133, 1134, 1135, 1136, 1137, 1138, 1139, 1140, 1141, 1142, 1143, 1144] (by decide +kernel) (by decide +kernel)
set_option maxRecDepth 20000 in
theorem gL_law_X11_sources : GoodIn wsL_law (wsV RL 108 RX11 yX11_sources wsX11_sources) := goodIn_app (goodIn_of _ (by decide +kernel)) ggL_law_X11_sources
set_option maxRecDepth 20000 in
theorem ggL_law_X10_rooms : GoodIn wsL_law wsX10_rooms := goodIn_r _ [791, 16, 25, 310, 29, 745, 137, 138, 139, 140, 141, 142, 143, 2, 144, 39, 145, 150, 151, 152, 15, 153, 50, 154, 155, 156, 637, 638, 639, 24, 640, 92, 641, 519, 520, 521, 47, 522, 523, 477, 478, 479, 58, 480, 461, 462, 57, 463, 76, 481, 482, 483, 484, 74, 75, 485, 486, 487, 488, 489, 490, 491, 492, 493, 494, 770, 771, 772, 28, 773, 100, 99, 774, 750, 751, 752, 548, 549, 753, 792, 661, 662, 663, 793, 794, 795, 796, 779, 780, 781, 782, 783, 1116, 1117, 1118, 1119, 1120, 1121, 1122, 1123, 1124, 1145, 1146, 1147, 1148, 1149, 1150, 1151, 1152, 1153, 1154, 1162, 1163, 1164, 1165, 1166, 1178, 1179, 1180, 1181, 1182, 1183, 1184, 1185, 1186, 1187, 1167, 1168] (by decide +kernel) (by decide +kernel)
set_option maxRecDepth 20000 in
theorem gL_law_X10_rooms : GoodIn wsL_law (wsV RL 109 RX10 yX10_rooms wsX10_rooms) := goodIn_app (goodIn_of _ (by decide +kernel)) ggL_law_X10_rooms
set_option maxRecDepth 20000 in
theorem ggL_law_X11_rooms : GoodIn wsL_law wsX11_rooms := goodIn_r _ [800, 166, 120, 171, 172, 5, 173, 758, 759, 760, 761, 167, 168, 169, 170, 236, 237, 238, 239, 174, 175, 176, 177, 123, 178, 571, 572, 573, 574, 503, 504, 505, 506, 126, 507, 508, 509, 510, 127, 511, 512, 513, 801, 802, 803, 804, 762, 763, 764, 765, 591, 592, 593, 1125, 1126, 1127, 1128, 1129, 1130, 1131, 1132, 1133, 1134, 1135, 1136, 1137, 1138, 1139, 1140, 1141, 1142, 1143, 1144] (by decide +kernel) (by decide +kernel)
set_option maxRecDepth 20000 in
theorem gL_law_X11_rooms : GoodIn wsL_law (wsV RL 112 RX11 yX11_rooms wsX11_rooms) := goodIn_app (goodIn_of _ (by decide +kernel)) ggL_law_X11_rooms
set_option maxRecDepth 20000 in
theorem ggL_law_X10_soonest : GoodIn wsL_law wsX10_soonest := goodIn_r _ [808, 16, 25, 310, 29, 745, 137, 138, 139, 140, 141, 142, 143, 2, 144, 39, 145, 150, 151, 152, 15, 153, 50, 154, 155, 156, 637, 638, 639, 24, 640, 92, 641, 519, 520, 521, 47, 522, 523, 477, 478, 479, 58, 480, 461, 462, 57, 463, 76, 481, 482, 483, 484, 74, 75, 485, 486, 487, 488, 489, 490, 491, 492, 493, 494, 770, 771, 772, 28, 773, 100, 99, 774, 750, 751, 752, 548, 549, 753, 809, 792, 661, 662, 663, 793, 794, 795, 796, 779, 780, 781, 782, 783, 1116, 1117, 1118, 1119, 1120, 1121, 1122, 1123, 1124, 1145, 1146, 1147, 1148, 1149, 1150, 1151, 1152, 1153, 1154, 1162, 1163, 1164, 1165, 1166, 1178, 1179, 1180, 1181, 1182, 1183, 1184, 1185, 1186, 1187, 1167, 1168] (by decide +kernel) (by decide +kernel)
set_option maxRecDepth 20000 in
theorem gL_law_X10_soonest : GoodIn wsL_law (wsV RL 113 RX10 yX10_soonest wsX10_soonest) := goodIn_app (goodIn_of _ (by decide +kernel)) ggL_law_X10_soonest
set_option maxRecDepth 20000 in
theorem ggL_law_X11_soonest : GoodIn wsL_law wsX11_soonest := goodIn_r _ [813, 166, 694, 168, 169, 5, 170, 171, 172, 173, 758, 759, 760, 761, 167, 236, 237, 238, 239, 120, 174, 175, 176, 177, 123, 178, 814, 815, 816, 817, 571, 572, 573, 574, 503, 504, 505, 506, 126, 507, 508, 509, 510, 127, 511, 512, 513, 801, 802, 803, 804, 762, 763, 764, 765, 591, 592, 593, 1125, 1126, 1127, 1128, 1129, 1130, 1131, 1132, 1133, 1134, 1135, 1136, 1137, 1138, 1139, 1140, 1141, 1142, 1143, 1144] (by decide +kernel) (by decide +kernel)
set_option maxRecDepth 20000 in
theorem gL_law_X11_soonest : GoodIn wsL_law (wsV RL 116 RX11 yX11_soonest wsX11_soonest) := goodIn_app (goodIn_of _ (by decide +kernel)) ggL_law_X11_soonest
set_option maxRecDepth 20000 in
theorem ggL_law_X10_shut : GoodIn wsL_law wsX10_shut := goodIn_r _ [821, 16, 25, 310, 29, 745, 822, 823, 137, 138, 139, 140, 141, 142, 143, 2, 144, 39, 145, 150, 151, 152, 15, 153, 50, 154, 155, 156, 637, 638, 639, 24, 640, 92, 641, 519, 520, 521, 47, 522, 523, 477, 478, 479, 58, 480, 461, 462, 57, 463, 76, 481, 482, 483, 484, 74, 75, 485, 486, 487, 488, 489, 490, 491, 492, 493, 494, 770, 771, 772, 28, 773, 100, 99, 774, 750, 751, 752, 548, 549, 753, 792, 661, 662, 663, 775, 776, 777, 778, 779, 780, 781, 782, 783, 1116, 1117, 1118, 1119, 1120, 1121, 1122, 1123, 1124, 1145, 1146, 1147, 1148, 1149, 1150, 1151, 1152, 1153, 1154, 1162, 1163, 1164, 1165, 1166, 1178, 1179, 1180, 1181, 1182, 1183, 1184, 1185, 1186, 1187, 1167, 1168] (by decide +kernel) (by decide +kernel)
set_option maxRecDepth 20000 in
theorem gL_law_X10_shut : GoodIn wsL_law (wsV RL 117 RX10 yX10_shut wsX10_shut) := goodIn_app (goodIn_of _ (by decide +kernel)) ggL_law_X10_shut
set_option maxRecDepth 20000 in
theorem ggL_law_X11_shut : GoodIn wsL_law wsX11_shut := goodIn_r _ [827, 758, 759, 760, 5, 761, 166, 167, 168, 169, 170, 171, 172, 173, 236, 237, 238, 239, 120, 174, 175, 176, 177, 123, 178, 814, 815, 816, 817, 571, 572, 573, 574, 503, 504, 505, 506, 126, 507, 508, 509, 510, 127, 511, 512, 513, 801, 802, 803, 804, 762, 763, 764, 765, 591, 592, 593, 1125, 1126, 1127, 1128, 1129, 1130, 1131, 1132, 1133, 1134, 1135, 1136, 1137, 1138, 1139, 1140, 1141, 1142, 1143, 1144] (by decide +kernel) (by decide +kernel)
set_option maxRecDepth 20000 in
theorem gL_law_X11_shut : GoodIn wsL_law (wsV RL 121 RX11 yX11_shut wsX11_shut) := goodIn_app (goodIn_of _ (by decide +kernel)) ggL_law_X11_shut
set_option maxRecDepth 20000 in
theorem ggL_law_X10_fits : GoodIn wsL_law wsX10_fits := goodIn_r _ [831, 37, 832, 16, 25, 29, 745, 833, 834, 36, 835, 141, 142, 143, 2, 144, 39, 145, 836, 837, 838, 839, 113, 840, 841, 842, 843, 844, 115, 845, 846, 847, 848, 114, 137, 138, 139, 140, 150, 151, 152, 15, 153, 50, 154, 155, 156, 637, 638, 639, 24, 640, 92, 641, 519, 520, 521, 47, 522, 523, 477, 478, 479, 58, 480, 461, 462, 57, 463, 76, 481, 482, 483, 484, 74, 75, 485, 486, 487, 488, 489, 490, 491, 492, 493, 494, 770, 771, 772, 28, 773, 100, 99, 774, 750, 751, 752, 548, 549, 753, 849, 850, 851, 852, 792, 661, 662, 663, 853, 781, 782, 783, 1116, 1117, 1118, 1119, 1120, 1121, 1122, 1123, 1124, 1175, 1176, 1177, 1145, 1146, 1147, 1148, 1149, 1150, 1151, 1152, 1153, 1154, 1162, 1163, 1164, 1165, 1166, 1178, 1179, 1180, 1181, 1182, 1183, 1184, 1185, 1186, 1187, 1167, 1168] (by decide +kernel) (by decide +kernel)
set_option maxRecDepth 20000 in
theorem gL_law_X10_fits : GoodIn wsL_law (wsV RL 122 RX10 yX10_fits wsX10_fits) := goodIn_app (goodIn_of _ (by decide +kernel)) ggL_law_X10_fits
set_option maxRecDepth 20000 in
theorem ggL_law_X11_fits : GoodIn wsL_law wsX11_fits := goodIn_r _ [857, 166, 129, 694, 130, 858, 859, 5, 860, 171, 172, 173, 174, 175, 176, 177, 123, 178, 758, 759, 760, 761, 167, 168, 169, 170, 236, 237, 238, 239, 120, 861, 862, 863, 864, 571, 572, 573, 574, 503, 504, 505, 506, 126, 507, 508, 509, 510, 127, 511, 512, 513, 762, 763, 764, 765, 591, 592, 593, 1125, 1126, 1127, 1128, 1129, 1130, 1131, 1132, 1133, 1134, 1135, 1136, 1137, 1138, 1139, 1140, 1141, 1142, 1143, 1144] (by decide +kernel) (by decide +kernel)
set_option maxRecDepth 20000 in
theorem gL_law_X11_fits : GoodIn wsL_law (wsV RL 125 RX11 yX11_fits wsX11_fits) := goodIn_app (goodIn_of _ (by decide +kernel)) ggL_law_X11_fits
set_option maxRecDepth 20000 in
theorem ggL_law_X10_voice : GoodIn wsL_law wsX10_voice := goodIn_r _ [868, 16, 136, 33, 265, 275, 869, 248, 221, 222, 46, 223, 69, 141, 142, 143, 2, 144, 39, 145, 870, 871, 872, 32, 873, 107, 108, 109, 104, 105, 874, 875, 876, 877, 878, 879, 880, 881, 882, 283, 205, 284, 285, 286, 277, 278, 883, 884, 885, 886, 106, 887, 888, 889, 890, 891, 892, 893, 894, 1116, 1117, 1118, 1119, 1120, 1121, 1122, 1123, 1124, 1145, 1146, 1147, 1148, 1149, 1150, 1151, 1152, 1153, 1154, 1178, 1179, 1180, 1181, 1182, 1183, 1184, 1169, 1170, 1171, 1172, 1173, 1174] (by decide +kernel) (by decide +kernel)
set_option maxRecDepth 20000 in
theorem gL_law_X10_voice : GoodIn wsL_law (wsV RL 126 RX10 yX10_voice wsX10_voice) := goodIn_app (goodIn_of _ (by decide +kernel)) ggL_law_X10_voice
set_option maxRecDepth 20000 in
theorem ggL_law_X11_voice : GoodIn wsL_law wsX11_voice := goodIn_r _ [898, 166, 899, 900, 901, 257, 258, 259, 5, 260, 120, 171, 172, 173, 174, 175, 176, 177, 123, 178, 902, 903, 904, 905, 183, 184, 185, 186, 906, 907, 908, 909, 910, 911, 912, 913, 131, 914, 915, 916, 917, 918, 919, 920, 921, 922, 923, 924, 925, 926, 927, 928, 929, 930, 931, 932, 933, 934, 935, 936, 937, 938, 939, 940, 941, 942, 943, 944, 945, 1125, 1126, 1127, 1128, 1129, 1130, 1131, 1132, 1133, 1134, 1135, 1136, 1137, 1138, 1139, 1140, 1141, 1142, 1143, 1144] (by decide +kernel) (by decide +kernel)
set_option maxRecDepth 20000 in
theorem gL_law_X11_voice : GoodIn wsL_law (wsV RL 129 RX11 yX11_voice wsX11_voice) := goodIn_app (goodIn_of _ (by decide +kernel)) ggL_law_X11_voice
set_option maxRecDepth 20000 in
theorem ggL_law_X10_body : GoodIn wsL_law wsX10_body := goodIn_r _ [949, 33, 950, 141, 142, 143, 2, 144, 39, 145, 951, 952, 953, 32, 954, 105, 106, 1116, 1117, 1118, 1119, 1120, 1121, 1122, 1123, 1124, 1169, 1170, 1171, 1172, 1173, 1174] (by decide +kernel) (by decide +kernel)
set_option maxRecDepth 20000 in
theorem gL_law_X10_body : GoodIn wsL_law (wsV RL 130 RX10 yX10_body wsX10_body) := goodIn_app (goodIn_of _ (by decide +kernel)) ggL_law_X10_body
set_option maxRecDepth 20000 in
theorem ggL_law_X11_body : GoodIn wsL_law wsX11_body := goodIn_r _ [958, 899, 131, 694, 171, 172, 5, 173, 174, 175, 176, 177, 123, 178, 1125, 1126, 1127, 1128, 1129, 1130, 1131, 1132, 1133, 1134, 1135, 1136, 1137, 1138, 1139, 1140, 1141, 1142, 1143, 1144] (by decide +kernel) (by decide +kernel)
set_option maxRecDepth 20000 in
theorem gL_law_X11_body : GoodIn wsL_law (wsV RL 133 RX11 yX11_body wsX11_body) := goodIn_app (goodIn_of _ (by decide +kernel)) ggL_law_X11_body
set_option maxRecDepth 20000 in
theorem ggL_law_X10_sheet : GoodIn wsL_law wsX10_sheet := goodIn_r _ [962, 37, 833, 834, 36, 835, 963, 964, 965, 141, 142, 143, 2, 144, 39, 145, 966, 967, 968, 969, 113, 114, 840, 970, 971, 972, 973, 115, 1116, 1117, 1118, 1119, 1120, 1121, 1122, 1123, 1124, 1175, 1176, 1177] (by decide +kernel) (by decide +kernel)
set_option maxRecDepth 20000 in
theorem gL_law_X10_sheet : GoodIn wsL_law (wsV RL 134 RX10 yX10_sheet wsX10_sheet) := goodIn_app (goodIn_of _ (by decide +kernel)) ggL_law_X10_sheet
set_option maxRecDepth 20000 in
theorem ggL_law_X11_sheet : GoodIn wsL_law wsX11_sheet := goodIn_r _ [977, 166, 167, 128, 129, 130, 858, 859, 5, 860, 171, 172, 173, 174, 175, 176, 177, 123, 178, 1125, 1126, 1127, 1128, 1129, 1130, 1131, 1132, 1133, 1134, 1135, 1136, 1137, 1138, 1139, 1140, 1141, 1142, 1143, 1144] (by decide +kernel) (by decide +kernel)
set_option maxRecDepth 20000 in
theorem gL_law_X11_sheet : GoodIn wsL_law (wsV RL 137 RX11 yX11_sheet wsX11_sheet) := goodIn_app (goodIn_of _ (by decide +kernel)) ggL_law_X11_sheet
set_option maxRecDepth 20000 in
theorem ggL_law_X10_put : GoodIn wsL_law wsX10_put := goodIn_r _ [981, 37, 832, 833, 834, 36, 835, 141, 142, 143, 2, 144, 39, 145, 836, 837, 838, 839, 113, 840, 982, 983, 984, 985, 115, 845, 846, 847, 848, 114, 986, 987, 988, 1116, 1117, 1118, 1119, 1120, 1121, 1122, 1123, 1124, 1175, 1176, 1177] (by decide +kernel) (by decide +kernel)
set_option maxRecDepth 20000 in
theorem gL_law_X10_put : GoodIn wsL_law (wsV RL 138 RX10 yX10_put wsX10_put) := goodIn_app (goodIn_of _ (by decide +kernel)) ggL_law_X10_put
set_option maxRecDepth 20000 in
theorem ggL_law_X11_put : GoodIn wsL_law wsX11_put := goodIn_r _ [992, 129, 166, 130, 128, 993, 994, 995, 5, 996, 694, 858, 859, 860, 171, 172, 173, 174, 175, 176, 177, 123, 178, 1125, 1126, 1127, 1128, 1129, 1130, 1131, 1132, 1133, 1134, 1135, 1136, 1137, 1138, 1139, 1140, 1141, 1142, 1143, 1144] (by decide +kernel) (by decide +kernel)
set_option maxRecDepth 20000 in
theorem gL_law_X11_put : GoodIn wsL_law (wsV RL 141 RX11 yX11_put wsX11_put) := goodIn_app (goodIn_of _ (by decide +kernel)) ggL_law_X11_put
set_option maxRecDepth 20000 in
theorem ggL_law_X10_move : GoodIn wsL_law wsX10_move := goodIn_r _ [1000, 37, 1001, 833, 834, 36, 835, 141, 142, 143, 2, 144, 39, 145, 836, 837, 838, 839, 113, 840, 1002, 1003, 1004, 1005, 114, 1006, 1007, 1008, 1009, 115, 1010, 1011, 1012, 1013, 1014, 1116, 1117, 1118, 1119, 1120, 1121, 1122, 1123, 1124, 1175, 1176, 1177] (by decide +kernel) (by decide +kernel)
set_option maxRecDepth 20000 in
theorem gL_law_X10_move : GoodIn wsL_law (wsV RL 142 RX10 yX10_move wsX10_move) := goodIn_app (goodIn_of _ (by decide +kernel)) ggL_law_X10_move
set_option maxRecDepth 20000 in
theorem ggL_law_X11_move : GoodIn wsL_law wsX11_move := goodIn_r _ [1018, 130, 1019, 1020, 1021, 5, 1022, 166, 128, 694, 291, 129, 858, 859, 860, 171, 172, 173, 174, 175, 176, 177, 123, 178, 1125, 1126, 1127, 1128, 1129, 1130, 1131, 1132, 1133, 1134, 1135, 1136, 1137, 1138, 1139, 1140, 1141, 1142, 1143, 1144] (by decide +kernel) (by decide +kernel)
set_option maxRecDepth 20000 in
theorem gL_law_X11_move : GoodIn wsL_law (wsV RL 146 RX11 yX11_move wsX11_move) := goodIn_app (goodIn_of _ (by decide +kernel)) ggL_law_X11_move
set_option maxRecDepth 20000 in
theorem ggL_law_X10_walls : GoodIn wsL_law wsX10_walls := goodIn_r _ [1026, 37, 832, 16, 136, 833, 834, 36, 835, 141, 142, 143, 2, 144, 39, 145, 836, 837, 838, 839, 113, 840, 841, 842, 843, 844, 115, 845, 846, 847, 848, 114, 137, 138, 139, 140, 146, 147, 148, 46, 149, 69, 66, 157, 158, 159, 15, 160, 50, 161, 1116, 1117, 1118, 1119, 1120, 1121, 1122, 1123, 1124, 1175, 1176, 1177, 1145, 1146, 1147, 1148, 1149, 1150, 1151, 1152, 1153, 1154, 1178, 1179, 1180, 1181, 1182, 1183, 1184] (by decide +kernel) (by decide +kernel)
set_option maxRecDepth 20000 in
theorem gL_law_X10_walls : GoodIn wsL_law (wsV RL 147 RX10 yX10_walls wsX10_walls) := goodIn_app (goodIn_of _ (by decide +kernel)) ggL_law_X10_walls
set_option maxRecDepth 20000 in
theorem ggL_law_X11_walls : GoodIn wsL_law wsX11_walls := goodIn_r _ [1030, 129, 130, 120, 993, 994, 995, 5, 996, 166, 128, 694, 858, 859, 860, 171, 172, 173, 174, 175, 176, 177, 123, 178, 179, 180, 181, 182, 183, 184, 185, 186, 1125, 1126, 1127, 1128, 1129, 1130, 1131, 1132, 1133, 1134, 1135, 1136, 1137, 1138, 1139, 1140, 1141, 1142, 1143, 1144] (by decide +kernel) (by decide +kernel)
set_option maxRecDepth 20000 in
theorem gL_law_X11_walls : GoodIn wsL_law (wsV RL 150 RX11 yX11_walls wsX11_walls) := goodIn_app (goodIn_of _ (by decide +kernel)) ggL_law_X11_walls
set_option maxRecDepth 20000 in
theorem ggL_law_X10_judge : GoodIn wsL_law wsX10_judge := goodIn_r _ [1034, 37, 832, 16, 310, 833, 834, 36, 835, 141, 142, 143, 2, 144, 39, 145, 836, 837, 838, 839, 113, 840, 841, 842, 843, 844, 115, 845, 846, 847, 848, 114, 518, 519, 520, 15, 521, 47, 522, 523, 477, 478, 479, 58, 480, 461, 462, 57, 463, 76, 481, 482, 483, 484, 74, 75, 485, 486, 487, 488, 489, 490, 491, 492, 493, 494, 1116, 1117, 1118, 1119, 1120, 1121, 1122, 1123, 1124, 1175, 1176, 1177, 1145, 1146, 1147, 1148, 1149, 1150, 1151, 1152, 1153, 1154, 1178, 1179, 1180, 1181, 1182, 1183, 1184, 1185, 1186, 1187] (by decide +kernel) (by decide +kernel)
set_option maxRecDepth 20000 in
theorem gL_law_X10_judge : GoodIn wsL_law (wsV RL 151 RX10 yX10_judge wsX10_judge) := goodIn_app (goodIn_of _ (by decide +kernel)) ggL_law_X10_judge
set_option maxRecDepth 20000 in
theorem ggL_law_X11_judge : GoodIn wsL_law wsX11_judge := goodIn_r _ [1038, 129, 130, 120, 993, 994, 995, 5, 996, 166, 128, 694, 858, 859, 860, 171, 172, 173, 174, 175, 176, 177, 123, 178, 571, 572, 573, 574, 503, 504, 505, 506, 126, 507, 508, 509, 510, 127, 511, 512, 513, 1125, 1126, 1127, 1128, 1129, 1130, 1131, 1132, 1133, 1134, 1135, 1136, 1137, 1138, 1139, 1140, 1141, 1142, 1143, 1144] (by decide +kernel) (by decide +kernel)
set_option maxRecDepth 20000 in
theorem gL_law_X11_judge : GoodIn wsL_law (wsV RL 154 RX11 yX11_judge wsX11_judge) := goodIn_app (goodIn_of _ (by decide +kernel)) ggL_law_X11_judge
set_option maxRecDepth 20000 in
theorem ggL_law_X10_image : GoodIn wsL_law wsX10_image := goodIn_r _ [1042, 17, 16, 40, 1043, 1044, 1045, 15, 1046, 47, 50, 51, 52, 58, 59, 53, 49, 54, 60, 1047, 649, 650, 46, 651, 69, 70, 64, 65, 66, 67, 68, 1048, 1049, 1050, 57, 1051, 74, 76, 1052, 399, 400, 401, 402, 349, 350, 351, 1116, 1117, 1118, 1119, 1120, 1121, 1122, 1123, 1124, 1145, 1146, 1147, 1148, 1149, 1150, 1151, 1152, 1153, 1154, 1178, 1179, 1180, 1181, 1182, 1183, 1184, 1185, 1186, 1187] (by decide +kernel) (by decide +kernel)
set_option maxRecDepth 20000 in
theorem gL_law_X10_image : GoodIn wsL_law (wsV RL 155 RX10 yX10_image wsX10_image) := goodIn_app (goodIn_of _ (by decide +kernel)) ggL_law_X10_image
set_option maxRecDepth 20000 in
theorem ggL_law_X11_image : GoodIn wsL_law wsX11_image := goodIn_r _ [1056, 120, 121, 1057, 674, 675, 5, 676, 1125, 1126, 1127, 1128, 1129, 1130, 1131, 1132, 1133, 1134, 1135, 1136, 1137, 1138, 1139, 1140, 1141, 1142, 1143, 1144] (by decide +kernel) (by decide +kernel)
set_option maxRecDepth 20000 in
theorem gL_law_X11_image : GoodIn wsL_law (wsV RL 159 RX11 yX11_image wsX11_image) := goodIn_app (goodIn_of _ (by decide +kernel)) ggL_law_X11_image
set_option maxRecDepth 20000 in
theorem ggL_law_X10_restore : GoodIn wsL_law wsX10_restore := goodIn_r _ [1061, 40, 16, 17, 310, 141, 142, 143, 2, 144, 39, 145, 1043, 1044, 1045, 15, 1046, 47, 50, 51, 52, 58, 59, 53, 49, 54, 60, 1047, 649, 650, 46, 651, 69, 70, 64, 65, 66, 67, 68, 1048, 1049, 1050, 57, 1051, 74, 76, 1052, 399, 400, 401, 402, 349, 350, 351, 1116, 1117, 1118, 1119, 1120, 1121, 1122, 1123, 1124, 1145, 1146, 1147, 1148, 1149, 1150, 1151, 1152, 1153, 1154, 1178, 1179, 1180, 1181, 1182, 1183, 1184, 1185, 1186, 1187] (by decide +kernel) (by decide +kernel)
set_option maxRecDepth 20000 in
theorem gL_law_X10_restore : GoodIn wsL_law (wsV RL 160 RX10 yX10_restore wsX10_restore) := goodIn_app (goodIn_of _ (by decide +kernel)) ggL_law_X10_restore
set_option maxRecDepth 20000 in
theorem ggL_law_X11_restore : GoodIn wsL_law wsX11_restore := goodIn_r _ [1065, 1057, 694, 121, 120, 174, 175, 176, 5, 177, 123, 178, 674, 675, 676, 1125, 1126, 1127, 1128, 1129, 1130, 1131, 1132, 1133, 1134, 1135, 1136, 1137, 1138, 1139, 1140, 1141, 1142, 1143, 1144] (by decide +kernel) (by decide +kernel)
set_option maxRecDepth 20000 in
theorem gL_law_X11_restore : GoodIn wsL_law (wsV RL 163 RX11 yX11_restore wsX11_restore) := goodIn_app (goodIn_of _ (by decide +kernel)) ggL_law_X11_restore
set_option maxRecDepth 20000 in
theorem ggL_law_X10_tell : GoodIn wsL_law wsX10_tell := goodIn_r _ [1069, 16, 1070, 141, 142, 143, 2, 144, 39, 145, 1071, 1072, 1073, 15, 1074, 54, 60, 1116, 1117, 1118, 1119, 1120, 1121, 1122, 1123, 1124, 1145, 1146, 1147, 1148, 1149, 1150, 1151, 1152, 1153, 1154] (by decide +kernel) (by decide +kernel)
set_option maxRecDepth 20000 in
theorem gL_law_X10_tell : GoodIn wsL_law (wsV RL 164 RX10 yX10_tell wsX10_tell) := goodIn_app (goodIn_of _ (by decide +kernel)) ggL_law_X10_tell
set_option maxRecDepth 20000 in
theorem ggL_law_X11_tell : GoodIn wsL_law wsX11_tell := goodIn_r _ [1078, 120, 228, 174, 175, 176, 5, 177, 123, 178, 1125, 1126, 1127, 1128, 1129, 1130, 1131, 1132, 1133, 1134, 1135, 1136, 1137, 1138, 1139, 1140, 1141, 1142, 1143, 1144] (by decide +kernel) (by decide +kernel)
set_option maxRecDepth 20000 in
theorem gL_law_X11_tell : GoodIn wsL_law (wsV RL 167 RX11 yX11_tell wsX11_tell) := goodIn_app (goodIn_of _ (by decide +kernel)) ggL_law_X11_tell
set_option maxRecDepth 20000 in
theorem ggL_law_X10_check : GoodIn wsL_law wsX10_check := goodIn_r _ [1082, 16, 1070, 1083, 1084, 1085, 15, 1086, 54, 47, 1087, 60, 1088, 221, 222, 46, 223, 69, 1116, 1117, 1118, 1119, 1120, 1121, 1122, 1123, 1124, 1145, 1146, 1147, 1148, 1149, 1150, 1151, 1152, 1153, 1154, 1178, 1179, 1180, 1181, 1182, 1183, 1184] (by decide +kernel) (by decide +kernel)
set_option maxRecDepth 20000 in
theorem gL_law_X10_check : GoodIn wsL_law (wsV RL 168 RX10 yX10_check wsX10_check) := goodIn_app (goodIn_of _ (by decide +kernel)) ggL_law_X10_check
set_option maxRecDepth 20000 in
theorem ggL_law_X11_check : GoodIn wsL_law wsX11_check := goodIn_r _ [1092, 120, 257, 258, 259, 5, 260, 171, 172, 173, 183, 184, 185, 186, 1125, 1126, 1127, 1128, 1129, 1130, 1131, 1132, 1133, 1134, 1135, 1136, 1137, 1138, 1139, 1140, 1141, 1142, 1143, 1144] (by decide +kernel) (by decide +kernel)
set_option maxRecDepth 20000 in
theorem gL_law_X11_check : GoodIn wsL_law (wsV RL 171 RX11 yX11_check wsX11_check) := goodIn_app (goodIn_of _ (by decide +kernel)) ggL_law_X11_check
set_option maxRecDepth 20000 in
theorem ggL_law_X10_count : GoodIn wsL_law wsX10_count := goodIn_r _ [1096, 16, 136, 718, 310, 745, 319, 1070, 33, 950, 620, 559, 560, 561, 46, 562, 69, 67, 1097, 1098, 1099, 1100, 1101, 1102, 1103, 518, 519, 520, 15, 521, 47, 522, 523, 477, 478, 479, 58, 480, 461, 462, 57, 463, 76, 481, 482, 483, 484, 74, 75, 485, 486, 487, 488, 489, 490, 491, 492, 493, 494, 141, 142, 143, 2, 144, 39, 145, 1116, 1117, 1118, 1119, 1120, 1121, 1122, 1123, 1124, 1145, 1146, 1147, 1148, 1149, 1150, 1151, 1152, 1153, 1154, 1178, 1179, 1180, 1181, 1182, 1183, 1184, 1169, 1170, 1171, 1172, 1173, 1174, 1185, 1186, 1187] (by decide +kernel) (by decide +kernel)
set_option maxRecDepth 20000 in
theorem gL_law_X10_count : GoodIn wsL_law (wsV RL 172 RX10 yX10_count wsX10_count) := goodIn_app (goodIn_of _ (by decide +kernel)) ggL_law_X10_count
set_option maxRecDepth 20000 in
theorem ggL_law_X11_count : GoodIn wsL_law wsX11_count := goodIn_r _ [1107, 120, 899, 166, 594, 595, 596, 5, 597, 183, 184, 185, 186, 571, 572, 573, 574, 503, 504, 505, 506, 126, 507, 508, 509, 510, 127, 511, 512, 513, 174, 175, 176, 177, 123, 178, 1125, 1126, 1127, 1128, 1129, 1130, 1131, 1132, 1133, 1134, 1135, 1136, 1137, 1138, 1139, 1140, 1141, 1142, 1143, 1144] (by decide +kernel) (by decide +kernel)
set_option maxRecDepth 20000 in
theorem gL_law_X11_count : GoodIn wsL_law (wsV RL 175 RX11 yX11_count wsX11_count) := goodIn_app (goodIn_of _ (by decide +kernel)) ggL_law_X11_count
set_option maxRecDepth 20000 in
theorem ggL_law_X10_told : GoodIn wsL_law wsX10_told := goodIn_r _ [1111, 39, 141, 142, 143, 2, 144, 145, 1116, 1117, 1118, 1119, 1120, 1121, 1122, 1123, 1124] (by decide +kernel) (by decide +kernel)
set_option maxRecDepth 20000 in
theorem gL_law_X10_told : GoodIn wsL_law (wsV RL 176 RX10 yX10_told wsX10_told) := goodIn_app (goodIn_of _ (by decide +kernel)) ggL_law_X10_told
set_option maxRecDepth 20000 in
theorem ggL_law_X11_told : GoodIn wsL_law wsX11_told := goodIn_r _ [1115, 123, 166, 171, 172, 5, 173, 174, 175, 176, 177, 178, 1125, 1126, 1127, 1128, 1129, 1130, 1131, 1132, 1133, 1134, 1135, 1136, 1137, 1138, 1139, 1140, 1141, 1142, 1143, 1144] (by decide +kernel) (by decide +kernel)
set_option maxRecDepth 20000 in
theorem gL_law_X11_told : GoodIn wsL_law (wsV RL 179 RX11 yX11_told wsX11_told) := goodIn_app (goodIn_of _ (by decide +kernel)) ggL_law_X11_told
theorem dL_law_0 : decode cL_law 0 = .ok (.new 7, 3) := by decide +kernel
theorem dL_law_3 : decode cL_law 3 = .ok (.dup, 1) := by decide +kernel
theorem dL_law_4 : decode cL_law 4 = .ok (.invokespecial 9, 3) := by decide +kernel
theorem dL_law_7 : decode cL_law 7 = .ok (.astore_n 1, 1) := by decide +kernel
theorem dL_law_8 : decode cL_law 8 = .ok (.new 10, 3) := by decide +kernel
theorem dL_law_11 : decode cL_law 11 = .ok (.dup, 1) := by decide +kernel
theorem dL_law_12 : decode cL_law 12 = .ok (.invokespecial 12, 3) := by decide +kernel
theorem dL_law_15 : decode cL_law 15 = .ok (.astore_n 2, 1) := by decide +kernel
theorem dL_law_16 : decode cL_law 16 = .ok (.iconst 0, 1) := by decide +kernel
theorem dL_law_17 : decode cL_law 17 = .ok (.istore_n 3, 1) := by decide +kernel
theorem dL_law_18 : decode cL_law 18 = .ok (.iload_n 3, 1) := by decide +kernel
theorem dL_law_19 : decode cL_law 19 = .ok (.aload_n 0, 1) := by decide +kernel
theorem dL_law_20 : decode cL_law 20 = .ok (.arraylength, 1) := by decide +kernel
theorem dL_law_21 : decode cL_law 21 = .ok (.bipush 6, 2) := by decide +kernel
theorem dL_law_23 : decode cL_law 23 = .ok (.isub, 1) := by decide +kernel
theorem dL_law_24 : decode cL_law 24 = .ok (.if_icmp .gt 1386, 3) := by decide +kernel
theorem dL_law_27 : decode cL_law 27 = .ok (.aload_n 0, 1) := by decide +kernel
theorem dL_law_28 : decode cL_law 28 = .ok (.iload_n 3, 1) := by decide +kernel
theorem dL_law_29 : decode cL_law 29 = .ok (.iaload, 1) := by decide +kernel
theorem dL_law_30 : decode cL_law 30 = .ok (.bipush 63, 2) := by decide +kernel
theorem dL_law_32 : decode cL_law 32 = .ok (.iand, 1) := by decide +kernel
theorem dL_law_33 : decode cL_law 33 = .ok (.tableswitch 1371 0 38 #[171, 204, 237, 270, 303, 336, 369, 402, 425, 488, 511, 534, 587, 610, 633, 656, 679, 712, 745, 778, 821, 854, 888, 922, 955, 979, 1002, 1045, 1068, 1111, 1154, 1217, 1240, 1263, 1276, 1289, 1312, 1325, 1348], 171) := by decide +kernel
theorem dL_law_204 : decode cL_law 204 = .ok (.aload_n 1, 1) := by decide +kernel
theorem dL_law_205 : decode cL_law 205 = .ok (.aload_n 0, 1) := by decide +kernel
theorem dL_law_206 : decode cL_law 206 = .ok (.iload_n 3, 1) := by decide +kernel
theorem dL_law_207 : decode cL_law 207 = .ok (.iconst 1, 1) := by decide +kernel
theorem dL_law_208 : decode cL_law 208 = .ok (.iadd, 1) := by decide +kernel
theorem dL_law_209 : decode cL_law 209 = .ok (.iaload, 1) := by decide +kernel
theorem dL_law_210 : decode cL_law 210 = .ok (.aload_n 0, 1) := by decide +kernel
theorem dL_law_211 : decode cL_law 211 = .ok (.iload_n 3, 1) := by decide +kernel
theorem dL_law_212 : decode cL_law 212 = .ok (.iconst 2, 1) := by decide +kernel
theorem dL_law_213 : decode cL_law 213 = .ok (.iadd, 1) := by decide +kernel
theorem dL_law_214 : decode cL_law 214 = .ok (.iaload, 1) := by decide +kernel
theorem dL_law_215 : decode cL_law 215 = .ok (.invokevirtual 13, 3) := by decide +kernel
theorem dL_law_218 : decode cL_law 218 = .ok (.aload_n 2, 1) := by decide +kernel
theorem dL_law_219 : decode cL_law 219 = .ok (.aload_n 0, 1) := by decide +kernel
theorem dL_law_220 : decode cL_law 220 = .ok (.iload_n 3, 1) := by decide +kernel
theorem dL_law_221 : decode cL_law 221 = .ok (.iconst 1, 1) := by decide +kernel
theorem dL_law_222 : decode cL_law 222 = .ok (.iadd, 1) := by decide +kernel
theorem dL_law_223 : decode cL_law 223 = .ok (.iaload, 1) := by decide +kernel
theorem dL_law_224 : decode cL_law 224 = .ok (.aload_n 0, 1) := by decide +kernel
theorem dL_law_225 : decode cL_law 225 = .ok (.iload_n 3, 1) := by decide +kernel
theorem dL_law_226 : decode cL_law 226 = .ok (.iconst 2, 1) := by decide +kernel
theorem dL_law_227 : decode cL_law 227 = .ok (.iadd, 1) := by decide +kernel
theorem dL_law_228 : decode cL_law 228 = .ok (.iaload, 1) := by decide +kernel
theorem dL_law_229 : decode cL_law 229 = .ok (.invokevirtual 17, 3) := by decide +kernel
theorem dL_law_232 : decode cL_law 232 = .ok (.if_icmp .eq 1172, 3) := by decide +kernel
theorem dL_law_235 : decode cL_law 235 = .ok (.iconst 0, 1) := by decide +kernel
theorem dL_law_236 : decode cL_law 236 = .ok (.ireturn, 1) := by decide +kernel
theorem dL_law_237 : decode cL_law 237 = .ok (.aload_n 1, 1) := by decide +kernel
theorem dL_law_238 : decode cL_law 238 = .ok (.aload_n 0, 1) := by decide +kernel
theorem dL_law_239 : decode cL_law 239 = .ok (.iload_n 3, 1) := by decide +kernel
theorem dL_law_240 : decode cL_law 240 = .ok (.iconst 1, 1) := by decide +kernel
theorem dL_law_241 : decode cL_law 241 = .ok (.iadd, 1) := by decide +kernel
theorem dL_law_242 : decode cL_law 242 = .ok (.iaload, 1) := by decide +kernel
theorem dL_law_243 : decode cL_law 243 = .ok (.aload_n 0, 1) := by decide +kernel
theorem dL_law_244 : decode cL_law 244 = .ok (.iload_n 3, 1) := by decide +kernel
theorem dL_law_245 : decode cL_law 245 = .ok (.iconst 2, 1) := by decide +kernel
theorem dL_law_246 : decode cL_law 246 = .ok (.iadd, 1) := by decide +kernel
theorem dL_law_247 : decode cL_law 247 = .ok (.iaload, 1) := by decide +kernel
theorem dL_law_248 : decode cL_law 248 = .ok (.invokevirtual 18, 3) := by decide +kernel
theorem dL_law_251 : decode cL_law 251 = .ok (.aload_n 2, 1) := by decide +kernel
theorem dL_law_252 : decode cL_law 252 = .ok (.aload_n 0, 1) := by decide +kernel
theorem dL_law_253 : decode cL_law 253 = .ok (.iload_n 3, 1) := by decide +kernel
theorem dL_law_254 : decode cL_law 254 = .ok (.iconst 1, 1) := by decide +kernel
theorem dL_law_255 : decode cL_law 255 = .ok (.iadd, 1) := by decide +kernel
theorem dL_law_256 : decode cL_law 256 = .ok (.iaload, 1) := by decide +kernel
theorem dL_law_257 : decode cL_law 257 = .ok (.aload_n 0, 1) := by decide +kernel
theorem dL_law_258 : decode cL_law 258 = .ok (.iload_n 3, 1) := by decide +kernel
theorem dL_law_259 : decode cL_law 259 = .ok (.iconst 2, 1) := by decide +kernel
theorem dL_law_260 : decode cL_law 260 = .ok (.iadd, 1) := by decide +kernel
theorem dL_law_261 : decode cL_law 261 = .ok (.iaload, 1) := by decide +kernel
theorem dL_law_262 : decode cL_law 262 = .ok (.invokevirtual 21, 3) := by decide +kernel
theorem dL_law_265 : decode cL_law 265 = .ok (.if_icmp .eq 1139, 3) := by decide +kernel
theorem dL_law_268 : decode cL_law 268 = .ok (.iconst 0, 1) := by decide +kernel
theorem dL_law_269 : decode cL_law 269 = .ok (.ireturn, 1) := by decide +kernel
theorem dL_law_270 : decode cL_law 270 = .ok (.aload_n 1, 1) := by decide +kernel
theorem dL_law_271 : decode cL_law 271 = .ok (.aload_n 0, 1) := by decide +kernel
theorem dL_law_272 : decode cL_law 272 = .ok (.iload_n 3, 1) := by decide +kernel
theorem dL_law_273 : decode cL_law 273 = .ok (.iconst 1, 1) := by decide +kernel
theorem dL_law_274 : decode cL_law 274 = .ok (.iadd, 1) := by decide +kernel
theorem dL_law_275 : decode cL_law 275 = .ok (.iaload, 1) := by decide +kernel
theorem dL_law_276 : decode cL_law 276 = .ok (.aload_n 0, 1) := by decide +kernel
theorem dL_law_277 : decode cL_law 277 = .ok (.iload_n 3, 1) := by decide +kernel
theorem dL_law_278 : decode cL_law 278 = .ok (.iconst 2, 1) := by decide +kernel
theorem dL_law_279 : decode cL_law 279 = .ok (.iadd, 1) := by decide +kernel
theorem dL_law_280 : decode cL_law 280 = .ok (.iaload, 1) := by decide +kernel
theorem dL_law_281 : decode cL_law 281 = .ok (.invokevirtual 22, 3) := by decide +kernel
theorem dL_law_284 : decode cL_law 284 = .ok (.aload_n 2, 1) := by decide +kernel
theorem dL_law_285 : decode cL_law 285 = .ok (.aload_n 0, 1) := by decide +kernel
theorem dL_law_286 : decode cL_law 286 = .ok (.iload_n 3, 1) := by decide +kernel
theorem dL_law_287 : decode cL_law 287 = .ok (.iconst 1, 1) := by decide +kernel
theorem dL_law_288 : decode cL_law 288 = .ok (.iadd, 1) := by decide +kernel
theorem dL_law_289 : decode cL_law 289 = .ok (.iaload, 1) := by decide +kernel
theorem dL_law_290 : decode cL_law 290 = .ok (.aload_n 0, 1) := by decide +kernel
theorem dL_law_291 : decode cL_law 291 = .ok (.iload_n 3, 1) := by decide +kernel
theorem dL_law_292 : decode cL_law 292 = .ok (.iconst 2, 1) := by decide +kernel
theorem dL_law_293 : decode cL_law 293 = .ok (.iadd, 1) := by decide +kernel
theorem dL_law_294 : decode cL_law 294 = .ok (.iaload, 1) := by decide +kernel
theorem dL_law_295 : decode cL_law 295 = .ok (.invokevirtual 25, 3) := by decide +kernel
theorem dL_law_298 : decode cL_law 298 = .ok (.if_icmp .eq 1106, 3) := by decide +kernel
theorem dL_law_301 : decode cL_law 301 = .ok (.iconst 0, 1) := by decide +kernel
theorem dL_law_302 : decode cL_law 302 = .ok (.ireturn, 1) := by decide +kernel
theorem dL_law_303 : decode cL_law 303 = .ok (.aload_n 1, 1) := by decide +kernel
theorem dL_law_304 : decode cL_law 304 = .ok (.aload_n 0, 1) := by decide +kernel
theorem dL_law_305 : decode cL_law 305 = .ok (.iload_n 3, 1) := by decide +kernel
theorem dL_law_306 : decode cL_law 306 = .ok (.iconst 1, 1) := by decide +kernel
theorem dL_law_307 : decode cL_law 307 = .ok (.iadd, 1) := by decide +kernel
theorem dL_law_308 : decode cL_law 308 = .ok (.iaload, 1) := by decide +kernel
theorem dL_law_309 : decode cL_law 309 = .ok (.aload_n 0, 1) := by decide +kernel
theorem dL_law_310 : decode cL_law 310 = .ok (.iload_n 3, 1) := by decide +kernel
theorem dL_law_311 : decode cL_law 311 = .ok (.iconst 2, 1) := by decide +kernel
theorem dL_law_312 : decode cL_law 312 = .ok (.iadd, 1) := by decide +kernel
theorem dL_law_313 : decode cL_law 313 = .ok (.iaload, 1) := by decide +kernel
theorem dL_law_314 : decode cL_law 314 = .ok (.invokevirtual 26, 3) := by decide +kernel
theorem dL_law_317 : decode cL_law 317 = .ok (.aload_n 2, 1) := by decide +kernel
theorem dL_law_318 : decode cL_law 318 = .ok (.aload_n 0, 1) := by decide +kernel
theorem dL_law_319 : decode cL_law 319 = .ok (.iload_n 3, 1) := by decide +kernel
theorem dL_law_320 : decode cL_law 320 = .ok (.iconst 1, 1) := by decide +kernel
theorem dL_law_321 : decode cL_law 321 = .ok (.iadd, 1) := by decide +kernel
theorem dL_law_322 : decode cL_law 322 = .ok (.iaload, 1) := by decide +kernel
theorem dL_law_323 : decode cL_law 323 = .ok (.aload_n 0, 1) := by decide +kernel
theorem dL_law_324 : decode cL_law 324 = .ok (.iload_n 3, 1) := by decide +kernel
theorem dL_law_325 : decode cL_law 325 = .ok (.iconst 2, 1) := by decide +kernel
theorem dL_law_326 : decode cL_law 326 = .ok (.iadd, 1) := by decide +kernel
theorem dL_law_327 : decode cL_law 327 = .ok (.iaload, 1) := by decide +kernel
theorem dL_law_328 : decode cL_law 328 = .ok (.invokevirtual 29, 3) := by decide +kernel
theorem dL_law_331 : decode cL_law 331 = .ok (.if_icmp .eq 1073, 3) := by decide +kernel
theorem dL_law_334 : decode cL_law 334 = .ok (.iconst 0, 1) := by decide +kernel
theorem dL_law_335 : decode cL_law 335 = .ok (.ireturn, 1) := by decide +kernel
theorem dL_law_336 : decode cL_law 336 = .ok (.aload_n 1, 1) := by decide +kernel
theorem dL_law_337 : decode cL_law 337 = .ok (.aload_n 0, 1) := by decide +kernel
theorem dL_law_338 : decode cL_law 338 = .ok (.iload_n 3, 1) := by decide +kernel
theorem dL_law_339 : decode cL_law 339 = .ok (.iconst 1, 1) := by decide +kernel
theorem dL_law_340 : decode cL_law 340 = .ok (.iadd, 1) := by decide +kernel
theorem dL_law_341 : decode cL_law 341 = .ok (.iaload, 1) := by decide +kernel
theorem dL_law_342 : decode cL_law 342 = .ok (.aload_n 0, 1) := by decide +kernel
theorem dL_law_343 : decode cL_law 343 = .ok (.iload_n 3, 1) := by decide +kernel
theorem dL_law_344 : decode cL_law 344 = .ok (.iconst 2, 1) := by decide +kernel
theorem dL_law_345 : decode cL_law 345 = .ok (.iadd, 1) := by decide +kernel
theorem dL_law_346 : decode cL_law 346 = .ok (.iaload, 1) := by decide +kernel
theorem dL_law_347 : decode cL_law 347 = .ok (.invokevirtual 30, 3) := by decide +kernel
theorem dL_law_350 : decode cL_law 350 = .ok (.aload_n 2, 1) := by decide +kernel
theorem dL_law_351 : decode cL_law 351 = .ok (.aload_n 0, 1) := by decide +kernel
theorem dL_law_352 : decode cL_law 352 = .ok (.iload_n 3, 1) := by decide +kernel
theorem dL_law_353 : decode cL_law 353 = .ok (.iconst 1, 1) := by decide +kernel
theorem dL_law_354 : decode cL_law 354 = .ok (.iadd, 1) := by decide +kernel
theorem dL_law_355 : decode cL_law 355 = .ok (.iaload, 1) := by decide +kernel
theorem dL_law_356 : decode cL_law 356 = .ok (.aload_n 0, 1) := by decide +kernel
theorem dL_law_357 : decode cL_law 357 = .ok (.iload_n 3, 1) := by decide +kernel
theorem dL_law_358 : decode cL_law 358 = .ok (.iconst 2, 1) := by decide +kernel
theorem dL_law_359 : decode cL_law 359 = .ok (.iadd, 1) := by decide +kernel
theorem dL_law_360 : decode cL_law 360 = .ok (.iaload, 1) := by decide +kernel
theorem dL_law_361 : decode cL_law 361 = .ok (.invokevirtual 33, 3) := by decide +kernel
theorem dL_law_364 : decode cL_law 364 = .ok (.if_icmp .eq 1040, 3) := by decide +kernel
theorem dL_law_367 : decode cL_law 367 = .ok (.iconst 0, 1) := by decide +kernel
theorem dL_law_368 : decode cL_law 368 = .ok (.ireturn, 1) := by decide +kernel
theorem dL_law_369 : decode cL_law 369 = .ok (.aload_n 1, 1) := by decide +kernel
theorem dL_law_370 : decode cL_law 370 = .ok (.aload_n 0, 1) := by decide +kernel
theorem dL_law_371 : decode cL_law 371 = .ok (.iload_n 3, 1) := by decide +kernel
theorem dL_law_372 : decode cL_law 372 = .ok (.iconst 1, 1) := by decide +kernel
theorem dL_law_373 : decode cL_law 373 = .ok (.iadd, 1) := by decide +kernel
theorem dL_law_374 : decode cL_law 374 = .ok (.iaload, 1) := by decide +kernel
theorem dL_law_375 : decode cL_law 375 = .ok (.aload_n 0, 1) := by decide +kernel
theorem dL_law_376 : decode cL_law 376 = .ok (.iload_n 3, 1) := by decide +kernel
theorem dL_law_377 : decode cL_law 377 = .ok (.iconst 2, 1) := by decide +kernel
theorem dL_law_378 : decode cL_law 378 = .ok (.iadd, 1) := by decide +kernel
theorem dL_law_379 : decode cL_law 379 = .ok (.iaload, 1) := by decide +kernel
theorem dL_law_380 : decode cL_law 380 = .ok (.invokevirtual 34, 3) := by decide +kernel
theorem dL_law_383 : decode cL_law 383 = .ok (.aload_n 2, 1) := by decide +kernel
theorem dL_law_384 : decode cL_law 384 = .ok (.aload_n 0, 1) := by decide +kernel
theorem dL_law_385 : decode cL_law 385 = .ok (.iload_n 3, 1) := by decide +kernel
theorem dL_law_386 : decode cL_law 386 = .ok (.iconst 1, 1) := by decide +kernel
theorem dL_law_387 : decode cL_law 387 = .ok (.iadd, 1) := by decide +kernel
theorem dL_law_388 : decode cL_law 388 = .ok (.iaload, 1) := by decide +kernel
theorem dL_law_389 : decode cL_law 389 = .ok (.aload_n 0, 1) := by decide +kernel
theorem dL_law_390 : decode cL_law 390 = .ok (.iload_n 3, 1) := by decide +kernel
theorem dL_law_391 : decode cL_law 391 = .ok (.iconst 2, 1) := by decide +kernel
theorem dL_law_392 : decode cL_law 392 = .ok (.iadd, 1) := by decide +kernel
theorem dL_law_393 : decode cL_law 393 = .ok (.iaload, 1) := by decide +kernel
theorem dL_law_394 : decode cL_law 394 = .ok (.invokevirtual 37, 3) := by decide +kernel
theorem dL_law_397 : decode cL_law 397 = .ok (.if_icmp .eq 1007, 3) := by decide +kernel
theorem dL_law_400 : decode cL_law 400 = .ok (.iconst 0, 1) := by decide +kernel
theorem dL_law_401 : decode cL_law 401 = .ok (.ireturn, 1) := by decide +kernel
theorem dL_law_402 : decode cL_law 402 = .ok (.aload_n 1, 1) := by decide +kernel
theorem dL_law_403 : decode cL_law 403 = .ok (.aload_n 0, 1) := by decide +kernel
theorem dL_law_404 : decode cL_law 404 = .ok (.iload_n 3, 1) := by decide +kernel
theorem dL_law_405 : decode cL_law 405 = .ok (.iconst 1, 1) := by decide +kernel
theorem dL_law_406 : decode cL_law 406 = .ok (.iadd, 1) := by decide +kernel
theorem dL_law_407 : decode cL_law 407 = .ok (.iaload, 1) := by decide +kernel
theorem dL_law_408 : decode cL_law 408 = .ok (.aload_n 0, 1) := by decide +kernel
theorem dL_law_409 : decode cL_law 409 = .ok (.iload_n 3, 1) := by decide +kernel
theorem dL_law_410 : decode cL_law 410 = .ok (.iconst 2, 1) := by decide +kernel
theorem dL_law_411 : decode cL_law 411 = .ok (.iadd, 1) := by decide +kernel
theorem dL_law_412 : decode cL_law 412 = .ok (.iaload, 1) := by decide +kernel
theorem dL_law_413 : decode cL_law 413 = .ok (.invokevirtual 38, 3) := by decide +kernel
theorem dL_law_416 : decode cL_law 416 = .ok (.aload_n 2, 1) := by decide +kernel
theorem dL_law_417 : decode cL_law 417 = .ok (.aload_n 0, 1) := by decide +kernel
theorem dL_law_418 : decode cL_law 418 = .ok (.iload_n 3, 1) := by decide +kernel
theorem dL_law_419 : decode cL_law 419 = .ok (.iconst 1, 1) := by decide +kernel
theorem dL_law_420 : decode cL_law 420 = .ok (.iadd, 1) := by decide +kernel
theorem dL_law_421 : decode cL_law 421 = .ok (.iaload, 1) := by decide +kernel
theorem dL_law_422 : decode cL_law 422 = .ok (.aload_n 0, 1) := by decide +kernel
theorem dL_law_423 : decode cL_law 423 = .ok (.iload_n 3, 1) := by decide +kernel
theorem dL_law_424 : decode cL_law 424 = .ok (.iconst 2, 1) := by decide +kernel
theorem dL_law_425 : decode cL_law 425 = .ok (.iadd, 1) := by decide +kernel
theorem dL_law_426 : decode cL_law 426 = .ok (.iaload, 1) := by decide +kernel
theorem dL_law_427 : decode cL_law 427 = .ok (.invokevirtual 41, 3) := by decide +kernel
theorem dL_law_430 : decode cL_law 430 = .ok (.if_icmp .eq 974, 3) := by decide +kernel
theorem dL_law_433 : decode cL_law 433 = .ok (.iconst 0, 1) := by decide +kernel
theorem dL_law_434 : decode cL_law 434 = .ok (.ireturn, 1) := by decide +kernel
theorem dL_law_435 : decode cL_law 435 = .ok (.aload_n 1, 1) := by decide +kernel
theorem dL_law_436 : decode cL_law 436 = .ok (.aload_n 0, 1) := by decide +kernel
theorem dL_law_437 : decode cL_law 437 = .ok (.iload_n 3, 1) := by decide +kernel
theorem dL_law_438 : decode cL_law 438 = .ok (.iconst 1, 1) := by decide +kernel
theorem dL_law_439 : decode cL_law 439 = .ok (.iadd, 1) := by decide +kernel
theorem dL_law_440 : decode cL_law 440 = .ok (.iaload, 1) := by decide +kernel
theorem dL_law_441 : decode cL_law 441 = .ok (.invokevirtual 42, 3) := by decide +kernel
theorem dL_law_444 : decode cL_law 444 = .ok (.aload_n 2, 1) := by decide +kernel
theorem dL_law_445 : decode cL_law 445 = .ok (.aload_n 0, 1) := by decide +kernel
theorem dL_law_446 : decode cL_law 446 = .ok (.iload_n 3, 1) := by decide +kernel
theorem dL_law_447 : decode cL_law 447 = .ok (.iconst 1, 1) := by decide +kernel
theorem dL_law_448 : decode cL_law 448 = .ok (.iadd, 1) := by decide +kernel
theorem dL_law_449 : decode cL_law 449 = .ok (.iaload, 1) := by decide +kernel
theorem dL_law_450 : decode cL_law 450 = .ok (.invokevirtual 46, 3) := by decide +kernel
theorem dL_law_453 : decode cL_law 453 = .ok (.if_icmp .eq 951, 3) := by decide +kernel
theorem dL_law_456 : decode cL_law 456 = .ok (.iconst 0, 1) := by decide +kernel
theorem dL_law_457 : decode cL_law 457 = .ok (.ireturn, 1) := by decide +kernel
theorem dL_law_458 : decode cL_law 458 = .ok (.aload_n 1, 1) := by decide +kernel
theorem dL_law_459 : decode cL_law 459 = .ok (.aload_n 0, 1) := by decide +kernel
theorem dL_law_460 : decode cL_law 460 = .ok (.iload_n 3, 1) := by decide +kernel
theorem dL_law_461 : decode cL_law 461 = .ok (.iconst 1, 1) := by decide +kernel
theorem dL_law_462 : decode cL_law 462 = .ok (.iadd, 1) := by decide +kernel
theorem dL_law_463 : decode cL_law 463 = .ok (.iaload, 1) := by decide +kernel
theorem dL_law_464 : decode cL_law 464 = .ok (.i2l, 1) := by decide +kernel
theorem dL_law_465 : decode cL_law 465 = .ok (.bipush 32, 2) := by decide +kernel
theorem dL_law_467 : decode cL_law 467 = .ok (.lshl, 1) := by decide +kernel
theorem dL_law_468 : decode cL_law 468 = .ok (.aload_n 0, 1) := by decide +kernel
theorem dL_law_469 : decode cL_law 469 = .ok (.iload_n 3, 1) := by decide +kernel
theorem dL_law_470 : decode cL_law 470 = .ok (.iconst 2, 1) := by decide +kernel
theorem dL_law_471 : decode cL_law 471 = .ok (.iadd, 1) := by decide +kernel
theorem dL_law_472 : decode cL_law 472 = .ok (.iaload, 1) := by decide +kernel
theorem dL_law_473 : decode cL_law 473 = .ok (.i2l, 1) := by decide +kernel
theorem dL_law_474 : decode cL_law 474 = .ok (.ldc2_w 47, 3) := by decide +kernel
theorem dL_law_477 : decode cL_law 477 = .ok (.land, 1) := by decide +kernel
theorem dL_law_478 : decode cL_law 478 = .ok (.lor, 1) := by decide +kernel
theorem dL_law_479 : decode cL_law 479 = .ok (.aload_n 0, 1) := by decide +kernel
theorem dL_law_480 : decode cL_law 480 = .ok (.iload_n 3, 1) := by decide +kernel
theorem dL_law_481 : decode cL_law 481 = .ok (.iconst 3, 1) := by decide +kernel
theorem dL_law_482 : decode cL_law 482 = .ok (.iadd, 1) := by decide +kernel
theorem dL_law_483 : decode cL_law 483 = .ok (.iaload, 1) := by decide +kernel
theorem dL_law_484 : decode cL_law 484 = .ok (.invokevirtual 49, 3) := by decide +kernel
theorem dL_law_487 : decode cL_law 487 = .ok (.aload_n 2, 1) := by decide +kernel
theorem dL_law_488 : decode cL_law 488 = .ok (.aload_n 0, 1) := by decide +kernel
theorem dL_law_489 : decode cL_law 489 = .ok (.iload_n 3, 1) := by decide +kernel
theorem dL_law_490 : decode cL_law 490 = .ok (.iconst 1, 1) := by decide +kernel
theorem dL_law_491 : decode cL_law 491 = .ok (.iadd, 1) := by decide +kernel
theorem dL_law_492 : decode cL_law 492 = .ok (.iaload, 1) := by decide +kernel
theorem dL_law_493 : decode cL_law 493 = .ok (.i2l, 1) := by decide +kernel
theorem dL_law_494 : decode cL_law 494 = .ok (.bipush 32, 2) := by decide +kernel
theorem dL_law_496 : decode cL_law 496 = .ok (.lshl, 1) := by decide +kernel
theorem dL_law_497 : decode cL_law 497 = .ok (.aload_n 0, 1) := by decide +kernel
theorem dL_law_498 : decode cL_law 498 = .ok (.iload_n 3, 1) := by decide +kernel
theorem dL_law_499 : decode cL_law 499 = .ok (.iconst 2, 1) := by decide +kernel
theorem dL_law_500 : decode cL_law 500 = .ok (.iadd, 1) := by decide +kernel
theorem dL_law_501 : decode cL_law 501 = .ok (.iaload, 1) := by decide +kernel
theorem dL_law_502 : decode cL_law 502 = .ok (.i2l, 1) := by decide +kernel
theorem dL_law_503 : decode cL_law 503 = .ok (.ldc2_w 47, 3) := by decide +kernel
theorem dL_law_506 : decode cL_law 506 = .ok (.land, 1) := by decide +kernel
theorem dL_law_507 : decode cL_law 507 = .ok (.lor, 1) := by decide +kernel
theorem dL_law_508 : decode cL_law 508 = .ok (.aload_n 0, 1) := by decide +kernel
theorem dL_law_509 : decode cL_law 509 = .ok (.iload_n 3, 1) := by decide +kernel
theorem dL_law_510 : decode cL_law 510 = .ok (.iconst 3, 1) := by decide +kernel
theorem dL_law_511 : decode cL_law 511 = .ok (.iadd, 1) := by decide +kernel
theorem dL_law_512 : decode cL_law 512 = .ok (.iaload, 1) := by decide +kernel
theorem dL_law_513 : decode cL_law 513 = .ok (.invokevirtual 53, 3) := by decide +kernel
theorem dL_law_516 : decode cL_law 516 = .ok (.if_icmp .eq 888, 3) := by decide +kernel
theorem dL_law_519 : decode cL_law 519 = .ok (.iconst 0, 1) := by decide +kernel
theorem dL_law_520 : decode cL_law 520 = .ok (.ireturn, 1) := by decide +kernel
theorem dL_law_521 : decode cL_law 521 = .ok (.aload_n 1, 1) := by decide +kernel
theorem dL_law_522 : decode cL_law 522 = .ok (.aload_n 0, 1) := by decide +kernel
theorem dL_law_523 : decode cL_law 523 = .ok (.iload_n 3, 1) := by decide +kernel
theorem dL_law_524 : decode cL_law 524 = .ok (.iconst 1, 1) := by decide +kernel
theorem dL_law_525 : decode cL_law 525 = .ok (.iadd, 1) := by decide +kernel
theorem dL_law_526 : decode cL_law 526 = .ok (.iaload, 1) := by decide +kernel
theorem dL_law_527 : decode cL_law 527 = .ok (.invokevirtual 54, 3) := by decide +kernel
theorem dL_law_530 : decode cL_law 530 = .ok (.aload_n 2, 1) := by decide +kernel
theorem dL_law_531 : decode cL_law 531 = .ok (.aload_n 0, 1) := by decide +kernel
theorem dL_law_532 : decode cL_law 532 = .ok (.iload_n 3, 1) := by decide +kernel
theorem dL_law_533 : decode cL_law 533 = .ok (.iconst 1, 1) := by decide +kernel
theorem dL_law_534 : decode cL_law 534 = .ok (.iadd, 1) := by decide +kernel
theorem dL_law_535 : decode cL_law 535 = .ok (.iaload, 1) := by decide +kernel
theorem dL_law_536 : decode cL_law 536 = .ok (.invokevirtual 57, 3) := by decide +kernel
theorem dL_law_539 : decode cL_law 539 = .ok (.if_icmp .eq 865, 3) := by decide +kernel
theorem dL_law_542 : decode cL_law 542 = .ok (.iconst 0, 1) := by decide +kernel
theorem dL_law_543 : decode cL_law 543 = .ok (.ireturn, 1) := by decide +kernel
theorem dL_law_544 : decode cL_law 544 = .ok (.aload_n 1, 1) := by decide +kernel
theorem dL_law_545 : decode cL_law 545 = .ok (.aload_n 0, 1) := by decide +kernel
theorem dL_law_546 : decode cL_law 546 = .ok (.iload_n 3, 1) := by decide +kernel
theorem dL_law_547 : decode cL_law 547 = .ok (.iconst 1, 1) := by decide +kernel
theorem dL_law_548 : decode cL_law 548 = .ok (.iadd, 1) := by decide +kernel
theorem dL_law_549 : decode cL_law 549 = .ok (.iaload, 1) := by decide +kernel
theorem dL_law_550 : decode cL_law 550 = .ok (.invokevirtual 58, 3) := by decide +kernel
theorem dL_law_553 : decode cL_law 553 = .ok (.aload_n 2, 1) := by decide +kernel
theorem dL_law_554 : decode cL_law 554 = .ok (.aload_n 0, 1) := by decide +kernel
theorem dL_law_555 : decode cL_law 555 = .ok (.iload_n 3, 1) := by decide +kernel
theorem dL_law_556 : decode cL_law 556 = .ok (.iconst 1, 1) := by decide +kernel
theorem dL_law_557 : decode cL_law 557 = .ok (.iadd, 1) := by decide +kernel
theorem dL_law_558 : decode cL_law 558 = .ok (.iaload, 1) := by decide +kernel
theorem dL_law_559 : decode cL_law 559 = .ok (.invokevirtual 61, 3) := by decide +kernel
theorem dL_law_562 : decode cL_law 562 = .ok (.if_icmp .eq 842, 3) := by decide +kernel
theorem dL_law_565 : decode cL_law 565 = .ok (.iconst 0, 1) := by decide +kernel
theorem dL_law_566 : decode cL_law 566 = .ok (.ireturn, 1) := by decide +kernel
theorem dL_law_567 : decode cL_law 567 = .ok (.aload_n 1, 1) := by decide +kernel
theorem dL_law_568 : decode cL_law 568 = .ok (.aload_n 0, 1) := by decide +kernel
theorem dL_law_569 : decode cL_law 569 = .ok (.iload_n 3, 1) := by decide +kernel
theorem dL_law_570 : decode cL_law 570 = .ok (.iconst 1, 1) := by decide +kernel
theorem dL_law_571 : decode cL_law 571 = .ok (.iadd, 1) := by decide +kernel
theorem dL_law_572 : decode cL_law 572 = .ok (.iaload, 1) := by decide +kernel
theorem dL_law_573 : decode cL_law 573 = .ok (.aload_n 0, 1) := by decide +kernel
theorem dL_law_574 : decode cL_law 574 = .ok (.iload_n 3, 1) := by decide +kernel
theorem dL_law_575 : decode cL_law 575 = .ok (.iconst 2, 1) := by decide +kernel
theorem dL_law_576 : decode cL_law 576 = .ok (.iadd, 1) := by decide +kernel
theorem dL_law_577 : decode cL_law 577 = .ok (.iaload, 1) := by decide +kernel
theorem dL_law_578 : decode cL_law 578 = .ok (.aload_n 0, 1) := by decide +kernel
theorem dL_law_579 : decode cL_law 579 = .ok (.iload_n 3, 1) := by decide +kernel
theorem dL_law_580 : decode cL_law 580 = .ok (.iconst 3, 1) := by decide +kernel
theorem dL_law_581 : decode cL_law 581 = .ok (.iadd, 1) := by decide +kernel
theorem dL_law_582 : decode cL_law 582 = .ok (.iaload, 1) := by decide +kernel
theorem dL_law_583 : decode cL_law 583 = .ok (.aload_n 0, 1) := by decide +kernel
theorem dL_law_584 : decode cL_law 584 = .ok (.iload_n 3, 1) := by decide +kernel
theorem dL_law_585 : decode cL_law 585 = .ok (.iconst 4, 1) := by decide +kernel
theorem dL_law_586 : decode cL_law 586 = .ok (.iadd, 1) := by decide +kernel
theorem dL_law_587 : decode cL_law 587 = .ok (.iaload, 1) := by decide +kernel
theorem dL_law_588 : decode cL_law 588 = .ok (.invokevirtual 62, 3) := by decide +kernel
theorem dL_law_591 : decode cL_law 591 = .ok (.aload_n 2, 1) := by decide +kernel
theorem dL_law_592 : decode cL_law 592 = .ok (.aload_n 0, 1) := by decide +kernel
theorem dL_law_593 : decode cL_law 593 = .ok (.iload_n 3, 1) := by decide +kernel
theorem dL_law_594 : decode cL_law 594 = .ok (.iconst 1, 1) := by decide +kernel
theorem dL_law_595 : decode cL_law 595 = .ok (.iadd, 1) := by decide +kernel
theorem dL_law_596 : decode cL_law 596 = .ok (.iaload, 1) := by decide +kernel
theorem dL_law_597 : decode cL_law 597 = .ok (.aload_n 0, 1) := by decide +kernel
theorem dL_law_598 : decode cL_law 598 = .ok (.iload_n 3, 1) := by decide +kernel
theorem dL_law_599 : decode cL_law 599 = .ok (.iconst 2, 1) := by decide +kernel
theorem dL_law_600 : decode cL_law 600 = .ok (.iadd, 1) := by decide +kernel
theorem dL_law_601 : decode cL_law 601 = .ok (.iaload, 1) := by decide +kernel
theorem dL_law_602 : decode cL_law 602 = .ok (.aload_n 0, 1) := by decide +kernel
theorem dL_law_603 : decode cL_law 603 = .ok (.iload_n 3, 1) := by decide +kernel
theorem dL_law_604 : decode cL_law 604 = .ok (.iconst 3, 1) := by decide +kernel
theorem dL_law_605 : decode cL_law 605 = .ok (.iadd, 1) := by decide +kernel
theorem dL_law_606 : decode cL_law 606 = .ok (.iaload, 1) := by decide +kernel
theorem dL_law_607 : decode cL_law 607 = .ok (.aload_n 0, 1) := by decide +kernel
theorem dL_law_608 : decode cL_law 608 = .ok (.iload_n 3, 1) := by decide +kernel
theorem dL_law_609 : decode cL_law 609 = .ok (.iconst 4, 1) := by decide +kernel
theorem dL_law_610 : decode cL_law 610 = .ok (.iadd, 1) := by decide +kernel
theorem dL_law_611 : decode cL_law 611 = .ok (.iaload, 1) := by decide +kernel
theorem dL_law_612 : decode cL_law 612 = .ok (.invokevirtual 66, 3) := by decide +kernel
theorem dL_law_615 : decode cL_law 615 = .ok (.if_icmp .eq 789, 3) := by decide +kernel
theorem dL_law_618 : decode cL_law 618 = .ok (.iconst 0, 1) := by decide +kernel
theorem dL_law_619 : decode cL_law 619 = .ok (.ireturn, 1) := by decide +kernel
theorem dL_law_620 : decode cL_law 620 = .ok (.aload_n 1, 1) := by decide +kernel
theorem dL_law_621 : decode cL_law 621 = .ok (.aload_n 0, 1) := by decide +kernel
theorem dL_law_622 : decode cL_law 622 = .ok (.iload_n 3, 1) := by decide +kernel
theorem dL_law_623 : decode cL_law 623 = .ok (.iconst 1, 1) := by decide +kernel
theorem dL_law_624 : decode cL_law 624 = .ok (.iadd, 1) := by decide +kernel
theorem dL_law_625 : decode cL_law 625 = .ok (.iaload, 1) := by decide +kernel
theorem dL_law_626 : decode cL_law 626 = .ok (.invokevirtual 67, 3) := by decide +kernel
theorem dL_law_629 : decode cL_law 629 = .ok (.aload_n 2, 1) := by decide +kernel
theorem dL_law_630 : decode cL_law 630 = .ok (.aload_n 0, 1) := by decide +kernel
theorem dL_law_631 : decode cL_law 631 = .ok (.iload_n 3, 1) := by decide +kernel
theorem dL_law_632 : decode cL_law 632 = .ok (.iconst 1, 1) := by decide +kernel
theorem dL_law_633 : decode cL_law 633 = .ok (.iadd, 1) := by decide +kernel
theorem dL_law_634 : decode cL_law 634 = .ok (.iaload, 1) := by decide +kernel
theorem dL_law_635 : decode cL_law 635 = .ok (.invokevirtual 70, 3) := by decide +kernel
theorem dL_law_638 : decode cL_law 638 = .ok (.if_icmp .eq 766, 3) := by decide +kernel
theorem dL_law_641 : decode cL_law 641 = .ok (.iconst 0, 1) := by decide +kernel
theorem dL_law_642 : decode cL_law 642 = .ok (.ireturn, 1) := by decide +kernel
theorem dL_law_643 : decode cL_law 643 = .ok (.aload_n 1, 1) := by decide +kernel
theorem dL_law_644 : decode cL_law 644 = .ok (.aload_n 0, 1) := by decide +kernel
theorem dL_law_645 : decode cL_law 645 = .ok (.iload_n 3, 1) := by decide +kernel
theorem dL_law_646 : decode cL_law 646 = .ok (.iconst 1, 1) := by decide +kernel
theorem dL_law_647 : decode cL_law 647 = .ok (.iadd, 1) := by decide +kernel
theorem dL_law_648 : decode cL_law 648 = .ok (.iaload, 1) := by decide +kernel
theorem dL_law_649 : decode cL_law 649 = .ok (.invokevirtual 71, 3) := by decide +kernel
theorem dL_law_652 : decode cL_law 652 = .ok (.aload_n 2, 1) := by decide +kernel
theorem dL_law_653 : decode cL_law 653 = .ok (.aload_n 0, 1) := by decide +kernel
theorem dL_law_654 : decode cL_law 654 = .ok (.iload_n 3, 1) := by decide +kernel
theorem dL_law_655 : decode cL_law 655 = .ok (.iconst 1, 1) := by decide +kernel
theorem dL_law_656 : decode cL_law 656 = .ok (.iadd, 1) := by decide +kernel
theorem dL_law_657 : decode cL_law 657 = .ok (.iaload, 1) := by decide +kernel
theorem dL_law_658 : decode cL_law 658 = .ok (.invokevirtual 74, 3) := by decide +kernel
theorem dL_law_661 : decode cL_law 661 = .ok (.if_icmp .eq 743, 3) := by decide +kernel
theorem dL_law_664 : decode cL_law 664 = .ok (.iconst 0, 1) := by decide +kernel
theorem dL_law_665 : decode cL_law 665 = .ok (.ireturn, 1) := by decide +kernel
theorem dL_law_666 : decode cL_law 666 = .ok (.aload_n 1, 1) := by decide +kernel
theorem dL_law_667 : decode cL_law 667 = .ok (.aload_n 0, 1) := by decide +kernel
theorem dL_law_668 : decode cL_law 668 = .ok (.iload_n 3, 1) := by decide +kernel
theorem dL_law_669 : decode cL_law 669 = .ok (.iconst 1, 1) := by decide +kernel
theorem dL_law_670 : decode cL_law 670 = .ok (.iadd, 1) := by decide +kernel
theorem dL_law_671 : decode cL_law 671 = .ok (.iaload, 1) := by decide +kernel
theorem dL_law_672 : decode cL_law 672 = .ok (.invokevirtual 75, 3) := by decide +kernel
theorem dL_law_675 : decode cL_law 675 = .ok (.aload_n 2, 1) := by decide +kernel
theorem dL_law_676 : decode cL_law 676 = .ok (.aload_n 0, 1) := by decide +kernel
theorem dL_law_677 : decode cL_law 677 = .ok (.iload_n 3, 1) := by decide +kernel
theorem dL_law_678 : decode cL_law 678 = .ok (.iconst 1, 1) := by decide +kernel
theorem dL_law_679 : decode cL_law 679 = .ok (.iadd, 1) := by decide +kernel
theorem dL_law_680 : decode cL_law 680 = .ok (.iaload, 1) := by decide +kernel
theorem dL_law_681 : decode cL_law 681 = .ok (.invokevirtual 78, 3) := by decide +kernel
theorem dL_law_684 : decode cL_law 684 = .ok (.if_icmp .eq 720, 3) := by decide +kernel
theorem dL_law_687 : decode cL_law 687 = .ok (.iconst 0, 1) := by decide +kernel
theorem dL_law_688 : decode cL_law 688 = .ok (.ireturn, 1) := by decide +kernel
theorem dL_law_689 : decode cL_law 689 = .ok (.aload_n 1, 1) := by decide +kernel
theorem dL_law_690 : decode cL_law 690 = .ok (.aload_n 0, 1) := by decide +kernel
theorem dL_law_691 : decode cL_law 691 = .ok (.iload_n 3, 1) := by decide +kernel
theorem dL_law_692 : decode cL_law 692 = .ok (.iconst 1, 1) := by decide +kernel
theorem dL_law_693 : decode cL_law 693 = .ok (.iadd, 1) := by decide +kernel
theorem dL_law_694 : decode cL_law 694 = .ok (.iaload, 1) := by decide +kernel
theorem dL_law_695 : decode cL_law 695 = .ok (.invokevirtual 79, 3) := by decide +kernel
theorem dL_law_698 : decode cL_law 698 = .ok (.aload_n 2, 1) := by decide +kernel
theorem dL_law_699 : decode cL_law 699 = .ok (.aload_n 0, 1) := by decide +kernel
theorem dL_law_700 : decode cL_law 700 = .ok (.iload_n 3, 1) := by decide +kernel
theorem dL_law_701 : decode cL_law 701 = .ok (.iconst 1, 1) := by decide +kernel
theorem dL_law_702 : decode cL_law 702 = .ok (.iadd, 1) := by decide +kernel
theorem dL_law_703 : decode cL_law 703 = .ok (.iaload, 1) := by decide +kernel
theorem dL_law_704 : decode cL_law 704 = .ok (.invokevirtual 82, 3) := by decide +kernel
theorem dL_law_707 : decode cL_law 707 = .ok (.if_icmp .eq 697, 3) := by decide +kernel
theorem dL_law_710 : decode cL_law 710 = .ok (.iconst 0, 1) := by decide +kernel
theorem dL_law_711 : decode cL_law 711 = .ok (.ireturn, 1) := by decide +kernel
theorem dL_law_712 : decode cL_law 712 = .ok (.aload_n 1, 1) := by decide +kernel
theorem dL_law_713 : decode cL_law 713 = .ok (.aload_n 0, 1) := by decide +kernel
theorem dL_law_714 : decode cL_law 714 = .ok (.iload_n 3, 1) := by decide +kernel
theorem dL_law_715 : decode cL_law 715 = .ok (.iconst 1, 1) := by decide +kernel
theorem dL_law_716 : decode cL_law 716 = .ok (.iadd, 1) := by decide +kernel
theorem dL_law_717 : decode cL_law 717 = .ok (.iaload, 1) := by decide +kernel
theorem dL_law_718 : decode cL_law 718 = .ok (.aload_n 0, 1) := by decide +kernel
theorem dL_law_719 : decode cL_law 719 = .ok (.iload_n 3, 1) := by decide +kernel
theorem dL_law_720 : decode cL_law 720 = .ok (.iconst 2, 1) := by decide +kernel
theorem dL_law_721 : decode cL_law 721 = .ok (.iadd, 1) := by decide +kernel
theorem dL_law_722 : decode cL_law 722 = .ok (.iaload, 1) := by decide +kernel
theorem dL_law_723 : decode cL_law 723 = .ok (.invokevirtual 83, 3) := by decide +kernel
theorem dL_law_726 : decode cL_law 726 = .ok (.aload_n 2, 1) := by decide +kernel
theorem dL_law_727 : decode cL_law 727 = .ok (.aload_n 0, 1) := by decide +kernel
theorem dL_law_728 : decode cL_law 728 = .ok (.iload_n 3, 1) := by decide +kernel
theorem dL_law_729 : decode cL_law 729 = .ok (.iconst 1, 1) := by decide +kernel
theorem dL_law_730 : decode cL_law 730 = .ok (.iadd, 1) := by decide +kernel
theorem dL_law_731 : decode cL_law 731 = .ok (.iaload, 1) := by decide +kernel
theorem dL_law_732 : decode cL_law 732 = .ok (.aload_n 0, 1) := by decide +kernel
theorem dL_law_733 : decode cL_law 733 = .ok (.iload_n 3, 1) := by decide +kernel
theorem dL_law_734 : decode cL_law 734 = .ok (.iconst 2, 1) := by decide +kernel
theorem dL_law_735 : decode cL_law 735 = .ok (.iadd, 1) := by decide +kernel
theorem dL_law_736 : decode cL_law 736 = .ok (.iaload, 1) := by decide +kernel
theorem dL_law_737 : decode cL_law 737 = .ok (.invokevirtual 86, 3) := by decide +kernel
theorem dL_law_740 : decode cL_law 740 = .ok (.if_icmp .eq 664, 3) := by decide +kernel
theorem dL_law_743 : decode cL_law 743 = .ok (.iconst 0, 1) := by decide +kernel
theorem dL_law_744 : decode cL_law 744 = .ok (.ireturn, 1) := by decide +kernel
theorem dL_law_745 : decode cL_law 745 = .ok (.aload_n 1, 1) := by decide +kernel
theorem dL_law_746 : decode cL_law 746 = .ok (.aload_n 0, 1) := by decide +kernel
theorem dL_law_747 : decode cL_law 747 = .ok (.iload_n 3, 1) := by decide +kernel
theorem dL_law_748 : decode cL_law 748 = .ok (.iconst 1, 1) := by decide +kernel
theorem dL_law_749 : decode cL_law 749 = .ok (.iadd, 1) := by decide +kernel
theorem dL_law_750 : decode cL_law 750 = .ok (.iaload, 1) := by decide +kernel
theorem dL_law_751 : decode cL_law 751 = .ok (.aload_n 0, 1) := by decide +kernel
theorem dL_law_752 : decode cL_law 752 = .ok (.iload_n 3, 1) := by decide +kernel
theorem dL_law_753 : decode cL_law 753 = .ok (.iconst 2, 1) := by decide +kernel
theorem dL_law_754 : decode cL_law 754 = .ok (.iadd, 1) := by decide +kernel
theorem dL_law_755 : decode cL_law 755 = .ok (.iaload, 1) := by decide +kernel
theorem dL_law_756 : decode cL_law 756 = .ok (.invokevirtual 87, 3) := by decide +kernel
theorem dL_law_759 : decode cL_law 759 = .ok (.aload_n 2, 1) := by decide +kernel
theorem dL_law_760 : decode cL_law 760 = .ok (.aload_n 0, 1) := by decide +kernel
theorem dL_law_761 : decode cL_law 761 = .ok (.iload_n 3, 1) := by decide +kernel
theorem dL_law_762 : decode cL_law 762 = .ok (.iconst 1, 1) := by decide +kernel
theorem dL_law_763 : decode cL_law 763 = .ok (.iadd, 1) := by decide +kernel
theorem dL_law_764 : decode cL_law 764 = .ok (.iaload, 1) := by decide +kernel
theorem dL_law_765 : decode cL_law 765 = .ok (.aload_n 0, 1) := by decide +kernel
theorem dL_law_766 : decode cL_law 766 = .ok (.iload_n 3, 1) := by decide +kernel
theorem dL_law_767 : decode cL_law 767 = .ok (.iconst 2, 1) := by decide +kernel
theorem dL_law_768 : decode cL_law 768 = .ok (.iadd, 1) := by decide +kernel
theorem dL_law_769 : decode cL_law 769 = .ok (.iaload, 1) := by decide +kernel
theorem dL_law_770 : decode cL_law 770 = .ok (.invokevirtual 90, 3) := by decide +kernel
theorem dL_law_773 : decode cL_law 773 = .ok (.if_icmp .eq 631, 3) := by decide +kernel
theorem dL_law_776 : decode cL_law 776 = .ok (.iconst 0, 1) := by decide +kernel
theorem dL_law_777 : decode cL_law 777 = .ok (.ireturn, 1) := by decide +kernel
theorem dL_law_778 : decode cL_law 778 = .ok (.aload_n 1, 1) := by decide +kernel
theorem dL_law_779 : decode cL_law 779 = .ok (.aload_n 0, 1) := by decide +kernel
theorem dL_law_780 : decode cL_law 780 = .ok (.iload_n 3, 1) := by decide +kernel
theorem dL_law_781 : decode cL_law 781 = .ok (.iconst 1, 1) := by decide +kernel
theorem dL_law_782 : decode cL_law 782 = .ok (.iadd, 1) := by decide +kernel
theorem dL_law_783 : decode cL_law 783 = .ok (.iaload, 1) := by decide +kernel
theorem dL_law_784 : decode cL_law 784 = .ok (.aload_n 0, 1) := by decide +kernel
theorem dL_law_785 : decode cL_law 785 = .ok (.iload_n 3, 1) := by decide +kernel
theorem dL_law_786 : decode cL_law 786 = .ok (.iconst 2, 1) := by decide +kernel
theorem dL_law_787 : decode cL_law 787 = .ok (.iadd, 1) := by decide +kernel
theorem dL_law_788 : decode cL_law 788 = .ok (.iaload, 1) := by decide +kernel
theorem dL_law_789 : decode cL_law 789 = .ok (.invokevirtual 91, 3) := by decide +kernel
theorem dL_law_792 : decode cL_law 792 = .ok (.aload_n 2, 1) := by decide +kernel
theorem dL_law_793 : decode cL_law 793 = .ok (.aload_n 0, 1) := by decide +kernel
theorem dL_law_794 : decode cL_law 794 = .ok (.iload_n 3, 1) := by decide +kernel
theorem dL_law_795 : decode cL_law 795 = .ok (.iconst 1, 1) := by decide +kernel
theorem dL_law_796 : decode cL_law 796 = .ok (.iadd, 1) := by decide +kernel
theorem dL_law_797 : decode cL_law 797 = .ok (.iaload, 1) := by decide +kernel
theorem dL_law_798 : decode cL_law 798 = .ok (.aload_n 0, 1) := by decide +kernel
theorem dL_law_799 : decode cL_law 799 = .ok (.iload_n 3, 1) := by decide +kernel
theorem dL_law_800 : decode cL_law 800 = .ok (.iconst 2, 1) := by decide +kernel
theorem dL_law_801 : decode cL_law 801 = .ok (.iadd, 1) := by decide +kernel
theorem dL_law_802 : decode cL_law 802 = .ok (.iaload, 1) := by decide +kernel
theorem dL_law_803 : decode cL_law 803 = .ok (.invokevirtual 94, 3) := by decide +kernel
theorem dL_law_806 : decode cL_law 806 = .ok (.if_icmp .eq 598, 3) := by decide +kernel
theorem dL_law_809 : decode cL_law 809 = .ok (.iconst 0, 1) := by decide +kernel
theorem dL_law_810 : decode cL_law 810 = .ok (.ireturn, 1) := by decide +kernel
theorem dL_law_811 : decode cL_law 811 = .ok (.aload_n 1, 1) := by decide +kernel
theorem dL_law_812 : decode cL_law 812 = .ok (.aload_n 0, 1) := by decide +kernel
theorem dL_law_813 : decode cL_law 813 = .ok (.iload_n 3, 1) := by decide +kernel
theorem dL_law_814 : decode cL_law 814 = .ok (.iconst 1, 1) := by decide +kernel
theorem dL_law_815 : decode cL_law 815 = .ok (.iadd, 1) := by decide +kernel
theorem dL_law_816 : decode cL_law 816 = .ok (.iaload, 1) := by decide +kernel
theorem dL_law_817 : decode cL_law 817 = .ok (.aload_n 0, 1) := by decide +kernel
theorem dL_law_818 : decode cL_law 818 = .ok (.iload_n 3, 1) := by decide +kernel
theorem dL_law_819 : decode cL_law 819 = .ok (.iconst 2, 1) := by decide +kernel
theorem dL_law_820 : decode cL_law 820 = .ok (.iadd, 1) := by decide +kernel
theorem dL_law_821 : decode cL_law 821 = .ok (.iaload, 1) := by decide +kernel
theorem dL_law_822 : decode cL_law 822 = .ok (.aload_n 0, 1) := by decide +kernel
theorem dL_law_823 : decode cL_law 823 = .ok (.iload_n 3, 1) := by decide +kernel
theorem dL_law_824 : decode cL_law 824 = .ok (.iconst 3, 1) := by decide +kernel
theorem dL_law_825 : decode cL_law 825 = .ok (.iadd, 1) := by decide +kernel
theorem dL_law_826 : decode cL_law 826 = .ok (.iaload, 1) := by decide +kernel
theorem dL_law_827 : decode cL_law 827 = .ok (.invokevirtual 95, 3) := by decide +kernel
theorem dL_law_830 : decode cL_law 830 = .ok (.aload_n 2, 1) := by decide +kernel
theorem dL_law_831 : decode cL_law 831 = .ok (.aload_n 0, 1) := by decide +kernel
theorem dL_law_832 : decode cL_law 832 = .ok (.iload_n 3, 1) := by decide +kernel
theorem dL_law_833 : decode cL_law 833 = .ok (.iconst 1, 1) := by decide +kernel
theorem dL_law_834 : decode cL_law 834 = .ok (.iadd, 1) := by decide +kernel
theorem dL_law_835 : decode cL_law 835 = .ok (.iaload, 1) := by decide +kernel
theorem dL_law_836 : decode cL_law 836 = .ok (.aload_n 0, 1) := by decide +kernel
theorem dL_law_837 : decode cL_law 837 = .ok (.iload_n 3, 1) := by decide +kernel
theorem dL_law_838 : decode cL_law 838 = .ok (.iconst 2, 1) := by decide +kernel
theorem dL_law_839 : decode cL_law 839 = .ok (.iadd, 1) := by decide +kernel
theorem dL_law_840 : decode cL_law 840 = .ok (.iaload, 1) := by decide +kernel
theorem dL_law_841 : decode cL_law 841 = .ok (.aload_n 0, 1) := by decide +kernel
theorem dL_law_842 : decode cL_law 842 = .ok (.iload_n 3, 1) := by decide +kernel
theorem dL_law_843 : decode cL_law 843 = .ok (.iconst 3, 1) := by decide +kernel
theorem dL_law_844 : decode cL_law 844 = .ok (.iadd, 1) := by decide +kernel
theorem dL_law_845 : decode cL_law 845 = .ok (.iaload, 1) := by decide +kernel
theorem dL_law_846 : decode cL_law 846 = .ok (.invokevirtual 99, 3) := by decide +kernel
theorem dL_law_849 : decode cL_law 849 = .ok (.if_icmp .eq 555, 3) := by decide +kernel
theorem dL_law_852 : decode cL_law 852 = .ok (.iconst 0, 1) := by decide +kernel
theorem dL_law_853 : decode cL_law 853 = .ok (.ireturn, 1) := by decide +kernel
theorem dL_law_854 : decode cL_law 854 = .ok (.aload_n 1, 1) := by decide +kernel
theorem dL_law_855 : decode cL_law 855 = .ok (.aload_n 0, 1) := by decide +kernel
theorem dL_law_856 : decode cL_law 856 = .ok (.iload_n 3, 1) := by decide +kernel
theorem dL_law_857 : decode cL_law 857 = .ok (.iconst 1, 1) := by decide +kernel
theorem dL_law_858 : decode cL_law 858 = .ok (.iadd, 1) := by decide +kernel
theorem dL_law_859 : decode cL_law 859 = .ok (.iaload, 1) := by decide +kernel
theorem dL_law_860 : decode cL_law 860 = .ok (.aload_n 0, 1) := by decide +kernel
theorem dL_law_861 : decode cL_law 861 = .ok (.iload_n 3, 1) := by decide +kernel
theorem dL_law_862 : decode cL_law 862 = .ok (.iconst 2, 1) := by decide +kernel
theorem dL_law_863 : decode cL_law 863 = .ok (.iadd, 1) := by decide +kernel
theorem dL_law_864 : decode cL_law 864 = .ok (.iaload, 1) := by decide +kernel
theorem dL_law_865 : decode cL_law 865 = .ok (.invokevirtual 100, 3) := by decide +kernel
theorem dL_law_868 : decode cL_law 868 = .ok (.aload_n 2, 1) := by decide +kernel
theorem dL_law_869 : decode cL_law 869 = .ok (.aload_n 0, 1) := by decide +kernel
theorem dL_law_870 : decode cL_law 870 = .ok (.iload_n 3, 1) := by decide +kernel
theorem dL_law_871 : decode cL_law 871 = .ok (.iconst 1, 1) := by decide +kernel
theorem dL_law_872 : decode cL_law 872 = .ok (.iadd, 1) := by decide +kernel
theorem dL_law_873 : decode cL_law 873 = .ok (.iaload, 1) := by decide +kernel
theorem dL_law_874 : decode cL_law 874 = .ok (.aload_n 0, 1) := by decide +kernel
theorem dL_law_875 : decode cL_law 875 = .ok (.iload_n 3, 1) := by decide +kernel
theorem dL_law_876 : decode cL_law 876 = .ok (.iconst 2, 1) := by decide +kernel
theorem dL_law_877 : decode cL_law 877 = .ok (.iadd, 1) := by decide +kernel
theorem dL_law_878 : decode cL_law 878 = .ok (.iaload, 1) := by decide +kernel
theorem dL_law_879 : decode cL_law 879 = .ok (.invokevirtual 103, 3) := by decide +kernel
theorem dL_law_882 : decode cL_law 882 = .ok (.if_icmp .eq 522, 3) := by decide +kernel
theorem dL_law_885 : decode cL_law 885 = .ok (.iconst 0, 1) := by decide +kernel
theorem dL_law_886 : decode cL_law 886 = .ok (.ireturn, 1) := by decide +kernel
theorem dL_law_887 : decode cL_law 887 = .ok (.aload_n 1, 1) := by decide +kernel
theorem dL_law_888 : decode cL_law 888 = .ok (.aload_n 0, 1) := by decide +kernel
theorem dL_law_889 : decode cL_law 889 = .ok (.iload_n 3, 1) := by decide +kernel
theorem dL_law_890 : decode cL_law 890 = .ok (.iconst 1, 1) := by decide +kernel
theorem dL_law_891 : decode cL_law 891 = .ok (.iadd, 1) := by decide +kernel
theorem dL_law_892 : decode cL_law 892 = .ok (.iaload, 1) := by decide +kernel
theorem dL_law_893 : decode cL_law 893 = .ok (.aload_n 0, 1) := by decide +kernel
theorem dL_law_894 : decode cL_law 894 = .ok (.iload_n 3, 1) := by decide +kernel
theorem dL_law_895 : decode cL_law 895 = .ok (.iconst 2, 1) := by decide +kernel
theorem dL_law_896 : decode cL_law 896 = .ok (.iadd, 1) := by decide +kernel
theorem dL_law_897 : decode cL_law 897 = .ok (.iaload, 1) := by decide +kernel
theorem dL_law_898 : decode cL_law 898 = .ok (.invokevirtual 104, 3) := by decide +kernel
theorem dL_law_901 : decode cL_law 901 = .ok (.aload_n 2, 1) := by decide +kernel
theorem dL_law_902 : decode cL_law 902 = .ok (.aload_n 0, 1) := by decide +kernel
theorem dL_law_903 : decode cL_law 903 = .ok (.iload_n 3, 1) := by decide +kernel
theorem dL_law_904 : decode cL_law 904 = .ok (.iconst 1, 1) := by decide +kernel
theorem dL_law_905 : decode cL_law 905 = .ok (.iadd, 1) := by decide +kernel
theorem dL_law_906 : decode cL_law 906 = .ok (.iaload, 1) := by decide +kernel
theorem dL_law_907 : decode cL_law 907 = .ok (.aload_n 0, 1) := by decide +kernel
theorem dL_law_908 : decode cL_law 908 = .ok (.iload_n 3, 1) := by decide +kernel
theorem dL_law_909 : decode cL_law 909 = .ok (.iconst 2, 1) := by decide +kernel
theorem dL_law_910 : decode cL_law 910 = .ok (.iadd, 1) := by decide +kernel
theorem dL_law_911 : decode cL_law 911 = .ok (.iaload, 1) := by decide +kernel
theorem dL_law_912 : decode cL_law 912 = .ok (.invokevirtual 108, 3) := by decide +kernel
theorem dL_law_915 : decode cL_law 915 = .ok (.lcmp, 1) := by decide +kernel
theorem dL_law_916 : decode cL_law 916 = .ok (.ifCond .eq 488, 3) := by decide +kernel
theorem dL_law_919 : decode cL_law 919 = .ok (.iconst 0, 1) := by decide +kernel
theorem dL_law_920 : decode cL_law 920 = .ok (.ireturn, 1) := by decide +kernel
theorem dL_law_921 : decode cL_law 921 = .ok (.aload_n 1, 1) := by decide +kernel
theorem dL_law_922 : decode cL_law 922 = .ok (.aload_n 0, 1) := by decide +kernel
theorem dL_law_923 : decode cL_law 923 = .ok (.iload_n 3, 1) := by decide +kernel
theorem dL_law_924 : decode cL_law 924 = .ok (.iconst 1, 1) := by decide +kernel
theorem dL_law_925 : decode cL_law 925 = .ok (.iadd, 1) := by decide +kernel
theorem dL_law_926 : decode cL_law 926 = .ok (.iaload, 1) := by decide +kernel
theorem dL_law_927 : decode cL_law 927 = .ok (.aload_n 0, 1) := by decide +kernel
theorem dL_law_928 : decode cL_law 928 = .ok (.iload_n 3, 1) := by decide +kernel
theorem dL_law_929 : decode cL_law 929 = .ok (.iconst 2, 1) := by decide +kernel
theorem dL_law_930 : decode cL_law 930 = .ok (.iadd, 1) := by decide +kernel
theorem dL_law_931 : decode cL_law 931 = .ok (.iaload, 1) := by decide +kernel
theorem dL_law_932 : decode cL_law 932 = .ok (.invokevirtual 109, 3) := by decide +kernel
theorem dL_law_935 : decode cL_law 935 = .ok (.aload_n 2, 1) := by decide +kernel
theorem dL_law_936 : decode cL_law 936 = .ok (.aload_n 0, 1) := by decide +kernel
theorem dL_law_937 : decode cL_law 937 = .ok (.iload_n 3, 1) := by decide +kernel
theorem dL_law_938 : decode cL_law 938 = .ok (.iconst 1, 1) := by decide +kernel
theorem dL_law_939 : decode cL_law 939 = .ok (.iadd, 1) := by decide +kernel
theorem dL_law_940 : decode cL_law 940 = .ok (.iaload, 1) := by decide +kernel
theorem dL_law_941 : decode cL_law 941 = .ok (.aload_n 0, 1) := by decide +kernel
theorem dL_law_942 : decode cL_law 942 = .ok (.iload_n 3, 1) := by decide +kernel
theorem dL_law_943 : decode cL_law 943 = .ok (.iconst 2, 1) := by decide +kernel
theorem dL_law_944 : decode cL_law 944 = .ok (.iadd, 1) := by decide +kernel
theorem dL_law_945 : decode cL_law 945 = .ok (.iaload, 1) := by decide +kernel
theorem dL_law_946 : decode cL_law 946 = .ok (.invokevirtual 112, 3) := by decide +kernel
theorem dL_law_949 : decode cL_law 949 = .ok (.lcmp, 1) := by decide +kernel
theorem dL_law_950 : decode cL_law 950 = .ok (.ifCond .eq 454, 3) := by decide +kernel
theorem dL_law_953 : decode cL_law 953 = .ok (.iconst 0, 1) := by decide +kernel
theorem dL_law_954 : decode cL_law 954 = .ok (.ireturn, 1) := by decide +kernel
theorem dL_law_955 : decode cL_law 955 = .ok (.aload_n 1, 1) := by decide +kernel
theorem dL_law_956 : decode cL_law 956 = .ok (.aload_n 0, 1) := by decide +kernel
theorem dL_law_957 : decode cL_law 957 = .ok (.iload_n 3, 1) := by decide +kernel
theorem dL_law_958 : decode cL_law 958 = .ok (.iconst 1, 1) := by decide +kernel
theorem dL_law_959 : decode cL_law 959 = .ok (.iadd, 1) := by decide +kernel
theorem dL_law_960 : decode cL_law 960 = .ok (.iaload, 1) := by decide +kernel
theorem dL_law_961 : decode cL_law 961 = .ok (.aload_n 0, 1) := by decide +kernel
theorem dL_law_962 : decode cL_law 962 = .ok (.iload_n 3, 1) := by decide +kernel
theorem dL_law_963 : decode cL_law 963 = .ok (.iconst 2, 1) := by decide +kernel
theorem dL_law_964 : decode cL_law 964 = .ok (.iadd, 1) := by decide +kernel
theorem dL_law_965 : decode cL_law 965 = .ok (.iaload, 1) := by decide +kernel
theorem dL_law_966 : decode cL_law 966 = .ok (.invokevirtual 113, 3) := by decide +kernel
theorem dL_law_969 : decode cL_law 969 = .ok (.aload_n 2, 1) := by decide +kernel
theorem dL_law_970 : decode cL_law 970 = .ok (.aload_n 0, 1) := by decide +kernel
theorem dL_law_971 : decode cL_law 971 = .ok (.iload_n 3, 1) := by decide +kernel
theorem dL_law_972 : decode cL_law 972 = .ok (.iconst 1, 1) := by decide +kernel
theorem dL_law_973 : decode cL_law 973 = .ok (.iadd, 1) := by decide +kernel
theorem dL_law_974 : decode cL_law 974 = .ok (.iaload, 1) := by decide +kernel
theorem dL_law_975 : decode cL_law 975 = .ok (.aload_n 0, 1) := by decide +kernel
theorem dL_law_976 : decode cL_law 976 = .ok (.iload_n 3, 1) := by decide +kernel
theorem dL_law_977 : decode cL_law 977 = .ok (.iconst 2, 1) := by decide +kernel
theorem dL_law_978 : decode cL_law 978 = .ok (.iadd, 1) := by decide +kernel
theorem dL_law_979 : decode cL_law 979 = .ok (.iaload, 1) := by decide +kernel
theorem dL_law_980 : decode cL_law 980 = .ok (.invokevirtual 116, 3) := by decide +kernel
theorem dL_law_983 : decode cL_law 983 = .ok (.if_icmp .eq 421, 3) := by decide +kernel
theorem dL_law_986 : decode cL_law 986 = .ok (.iconst 0, 1) := by decide +kernel
theorem dL_law_987 : decode cL_law 987 = .ok (.ireturn, 1) := by decide +kernel
theorem dL_law_988 : decode cL_law 988 = .ok (.aload_n 1, 1) := by decide +kernel
theorem dL_law_989 : decode cL_law 989 = .ok (.aload_n 0, 1) := by decide +kernel
theorem dL_law_990 : decode cL_law 990 = .ok (.iload_n 3, 1) := by decide +kernel
theorem dL_law_991 : decode cL_law 991 = .ok (.iconst 1, 1) := by decide +kernel
theorem dL_law_992 : decode cL_law 992 = .ok (.iadd, 1) := by decide +kernel
theorem dL_law_993 : decode cL_law 993 = .ok (.iaload, 1) := by decide +kernel
theorem dL_law_994 : decode cL_law 994 = .ok (.invokevirtual 117, 3) := by decide +kernel
theorem dL_law_997 : decode cL_law 997 = .ok (.aload_n 2, 1) := by decide +kernel
theorem dL_law_998 : decode cL_law 998 = .ok (.aload_n 0, 1) := by decide +kernel
theorem dL_law_999 : decode cL_law 999 = .ok (.iload_n 3, 1) := by decide +kernel
theorem dL_law_1000 : decode cL_law 1000 = .ok (.iconst 1, 1) := by decide +kernel
theorem dL_law_1001 : decode cL_law 1001 = .ok (.iadd, 1) := by decide +kernel
theorem dL_law_1002 : decode cL_law 1002 = .ok (.iaload, 1) := by decide +kernel
theorem dL_law_1003 : decode cL_law 1003 = .ok (.invokevirtual 121, 3) := by decide +kernel
theorem dL_law_1006 : decode cL_law 1006 = .ok (.lcmp, 1) := by decide +kernel
theorem dL_law_1007 : decode cL_law 1007 = .ok (.ifCond .eq 397, 3) := by decide +kernel
theorem dL_law_1010 : decode cL_law 1010 = .ok (.iconst 0, 1) := by decide +kernel
theorem dL_law_1011 : decode cL_law 1011 = .ok (.ireturn, 1) := by decide +kernel
theorem dL_law_1012 : decode cL_law 1012 = .ok (.aload_n 1, 1) := by decide +kernel
theorem dL_law_1013 : decode cL_law 1013 = .ok (.aload_n 0, 1) := by decide +kernel
theorem dL_law_1014 : decode cL_law 1014 = .ok (.iload_n 3, 1) := by decide +kernel
theorem dL_law_1015 : decode cL_law 1015 = .ok (.iconst 1, 1) := by decide +kernel
theorem dL_law_1016 : decode cL_law 1016 = .ok (.iadd, 1) := by decide +kernel
theorem dL_law_1017 : decode cL_law 1017 = .ok (.iaload, 1) := by decide +kernel
theorem dL_law_1018 : decode cL_law 1018 = .ok (.invokevirtual 122, 3) := by decide +kernel
theorem dL_law_1021 : decode cL_law 1021 = .ok (.aload_n 2, 1) := by decide +kernel
theorem dL_law_1022 : decode cL_law 1022 = .ok (.aload_n 0, 1) := by decide +kernel
theorem dL_law_1023 : decode cL_law 1023 = .ok (.iload_n 3, 1) := by decide +kernel
theorem dL_law_1024 : decode cL_law 1024 = .ok (.iconst 1, 1) := by decide +kernel
theorem dL_law_1025 : decode cL_law 1025 = .ok (.iadd, 1) := by decide +kernel
theorem dL_law_1026 : decode cL_law 1026 = .ok (.iaload, 1) := by decide +kernel
theorem dL_law_1027 : decode cL_law 1027 = .ok (.invokevirtual 125, 3) := by decide +kernel
theorem dL_law_1030 : decode cL_law 1030 = .ok (.if_icmp .eq 374, 3) := by decide +kernel
theorem dL_law_1033 : decode cL_law 1033 = .ok (.iconst 0, 1) := by decide +kernel
theorem dL_law_1034 : decode cL_law 1034 = .ok (.ireturn, 1) := by decide +kernel
theorem dL_law_1035 : decode cL_law 1035 = .ok (.aload_n 1, 1) := by decide +kernel
theorem dL_law_1036 : decode cL_law 1036 = .ok (.aload_n 0, 1) := by decide +kernel
theorem dL_law_1037 : decode cL_law 1037 = .ok (.iload_n 3, 1) := by decide +kernel
theorem dL_law_1038 : decode cL_law 1038 = .ok (.iconst 1, 1) := by decide +kernel
theorem dL_law_1039 : decode cL_law 1039 = .ok (.iadd, 1) := by decide +kernel
theorem dL_law_1040 : decode cL_law 1040 = .ok (.iaload, 1) := by decide +kernel
theorem dL_law_1041 : decode cL_law 1041 = .ok (.aload_n 0, 1) := by decide +kernel
theorem dL_law_1042 : decode cL_law 1042 = .ok (.iload_n 3, 1) := by decide +kernel
theorem dL_law_1043 : decode cL_law 1043 = .ok (.iconst 2, 1) := by decide +kernel
theorem dL_law_1044 : decode cL_law 1044 = .ok (.iadd, 1) := by decide +kernel
theorem dL_law_1045 : decode cL_law 1045 = .ok (.iaload, 1) := by decide +kernel
theorem dL_law_1046 : decode cL_law 1046 = .ok (.aload_n 0, 1) := by decide +kernel
theorem dL_law_1047 : decode cL_law 1047 = .ok (.iload_n 3, 1) := by decide +kernel
theorem dL_law_1048 : decode cL_law 1048 = .ok (.iconst 3, 1) := by decide +kernel
theorem dL_law_1049 : decode cL_law 1049 = .ok (.iadd, 1) := by decide +kernel
theorem dL_law_1050 : decode cL_law 1050 = .ok (.iaload, 1) := by decide +kernel
theorem dL_law_1051 : decode cL_law 1051 = .ok (.invokevirtual 126, 3) := by decide +kernel
theorem dL_law_1054 : decode cL_law 1054 = .ok (.aload_n 2, 1) := by decide +kernel
theorem dL_law_1055 : decode cL_law 1055 = .ok (.aload_n 0, 1) := by decide +kernel
theorem dL_law_1056 : decode cL_law 1056 = .ok (.iload_n 3, 1) := by decide +kernel
theorem dL_law_1057 : decode cL_law 1057 = .ok (.iconst 1, 1) := by decide +kernel
theorem dL_law_1058 : decode cL_law 1058 = .ok (.iadd, 1) := by decide +kernel
theorem dL_law_1059 : decode cL_law 1059 = .ok (.iaload, 1) := by decide +kernel
theorem dL_law_1060 : decode cL_law 1060 = .ok (.aload_n 0, 1) := by decide +kernel
theorem dL_law_1061 : decode cL_law 1061 = .ok (.iload_n 3, 1) := by decide +kernel
theorem dL_law_1062 : decode cL_law 1062 = .ok (.iconst 2, 1) := by decide +kernel
theorem dL_law_1063 : decode cL_law 1063 = .ok (.iadd, 1) := by decide +kernel
theorem dL_law_1064 : decode cL_law 1064 = .ok (.iaload, 1) := by decide +kernel
theorem dL_law_1065 : decode cL_law 1065 = .ok (.aload_n 0, 1) := by decide +kernel
theorem dL_law_1066 : decode cL_law 1066 = .ok (.iload_n 3, 1) := by decide +kernel
theorem dL_law_1067 : decode cL_law 1067 = .ok (.iconst 3, 1) := by decide +kernel
theorem dL_law_1068 : decode cL_law 1068 = .ok (.iadd, 1) := by decide +kernel
theorem dL_law_1069 : decode cL_law 1069 = .ok (.iaload, 1) := by decide +kernel
theorem dL_law_1070 : decode cL_law 1070 = .ok (.invokevirtual 129, 3) := by decide +kernel
theorem dL_law_1073 : decode cL_law 1073 = .ok (.if_icmp .eq 331, 3) := by decide +kernel
theorem dL_law_1076 : decode cL_law 1076 = .ok (.iconst 0, 1) := by decide +kernel
theorem dL_law_1077 : decode cL_law 1077 = .ok (.ireturn, 1) := by decide +kernel
theorem dL_law_1078 : decode cL_law 1078 = .ok (.aload_n 1, 1) := by decide +kernel
theorem dL_law_1079 : decode cL_law 1079 = .ok (.aload_n 0, 1) := by decide +kernel
theorem dL_law_1080 : decode cL_law 1080 = .ok (.iload_n 3, 1) := by decide +kernel
theorem dL_law_1081 : decode cL_law 1081 = .ok (.iconst 1, 1) := by decide +kernel
theorem dL_law_1082 : decode cL_law 1082 = .ok (.iadd, 1) := by decide +kernel
theorem dL_law_1083 : decode cL_law 1083 = .ok (.iaload, 1) := by decide +kernel
theorem dL_law_1084 : decode cL_law 1084 = .ok (.invokevirtual 130, 3) := by decide +kernel
theorem dL_law_1087 : decode cL_law 1087 = .ok (.aload_n 2, 1) := by decide +kernel
theorem dL_law_1088 : decode cL_law 1088 = .ok (.aload_n 0, 1) := by decide +kernel
theorem dL_law_1089 : decode cL_law 1089 = .ok (.iload_n 3, 1) := by decide +kernel
theorem dL_law_1090 : decode cL_law 1090 = .ok (.iconst 1, 1) := by decide +kernel
theorem dL_law_1091 : decode cL_law 1091 = .ok (.iadd, 1) := by decide +kernel
theorem dL_law_1092 : decode cL_law 1092 = .ok (.iaload, 1) := by decide +kernel
theorem dL_law_1093 : decode cL_law 1093 = .ok (.invokevirtual 133, 3) := by decide +kernel
theorem dL_law_1096 : decode cL_law 1096 = .ok (.if_icmp .eq 308, 3) := by decide +kernel
theorem dL_law_1099 : decode cL_law 1099 = .ok (.iconst 0, 1) := by decide +kernel
theorem dL_law_1100 : decode cL_law 1100 = .ok (.ireturn, 1) := by decide +kernel
theorem dL_law_1101 : decode cL_law 1101 = .ok (.aload_n 1, 1) := by decide +kernel
theorem dL_law_1102 : decode cL_law 1102 = .ok (.aload_n 0, 1) := by decide +kernel
theorem dL_law_1103 : decode cL_law 1103 = .ok (.iload_n 3, 1) := by decide +kernel
theorem dL_law_1104 : decode cL_law 1104 = .ok (.iconst 1, 1) := by decide +kernel
theorem dL_law_1105 : decode cL_law 1105 = .ok (.iadd, 1) := by decide +kernel
theorem dL_law_1106 : decode cL_law 1106 = .ok (.iaload, 1) := by decide +kernel
theorem dL_law_1107 : decode cL_law 1107 = .ok (.aload_n 0, 1) := by decide +kernel
theorem dL_law_1108 : decode cL_law 1108 = .ok (.iload_n 3, 1) := by decide +kernel
theorem dL_law_1109 : decode cL_law 1109 = .ok (.iconst 2, 1) := by decide +kernel
theorem dL_law_1110 : decode cL_law 1110 = .ok (.iadd, 1) := by decide +kernel
theorem dL_law_1111 : decode cL_law 1111 = .ok (.iaload, 1) := by decide +kernel
theorem dL_law_1112 : decode cL_law 1112 = .ok (.aload_n 0, 1) := by decide +kernel
theorem dL_law_1113 : decode cL_law 1113 = .ok (.iload_n 3, 1) := by decide +kernel
theorem dL_law_1114 : decode cL_law 1114 = .ok (.iconst 3, 1) := by decide +kernel
theorem dL_law_1115 : decode cL_law 1115 = .ok (.iadd, 1) := by decide +kernel
theorem dL_law_1116 : decode cL_law 1116 = .ok (.iaload, 1) := by decide +kernel
theorem dL_law_1117 : decode cL_law 1117 = .ok (.invokevirtual 134, 3) := by decide +kernel
theorem dL_law_1120 : decode cL_law 1120 = .ok (.aload_n 2, 1) := by decide +kernel
theorem dL_law_1121 : decode cL_law 1121 = .ok (.aload_n 0, 1) := by decide +kernel
theorem dL_law_1122 : decode cL_law 1122 = .ok (.iload_n 3, 1) := by decide +kernel
theorem dL_law_1123 : decode cL_law 1123 = .ok (.iconst 1, 1) := by decide +kernel
theorem dL_law_1124 : decode cL_law 1124 = .ok (.iadd, 1) := by decide +kernel
theorem dL_law_1125 : decode cL_law 1125 = .ok (.iaload, 1) := by decide +kernel
theorem dL_law_1126 : decode cL_law 1126 = .ok (.aload_n 0, 1) := by decide +kernel
theorem dL_law_1127 : decode cL_law 1127 = .ok (.iload_n 3, 1) := by decide +kernel
theorem dL_law_1128 : decode cL_law 1128 = .ok (.iconst 2, 1) := by decide +kernel
theorem dL_law_1129 : decode cL_law 1129 = .ok (.iadd, 1) := by decide +kernel
theorem dL_law_1130 : decode cL_law 1130 = .ok (.iaload, 1) := by decide +kernel
theorem dL_law_1131 : decode cL_law 1131 = .ok (.aload_n 0, 1) := by decide +kernel
theorem dL_law_1132 : decode cL_law 1132 = .ok (.iload_n 3, 1) := by decide +kernel
theorem dL_law_1133 : decode cL_law 1133 = .ok (.iconst 3, 1) := by decide +kernel
theorem dL_law_1134 : decode cL_law 1134 = .ok (.iadd, 1) := by decide +kernel
theorem dL_law_1135 : decode cL_law 1135 = .ok (.iaload, 1) := by decide +kernel
theorem dL_law_1136 : decode cL_law 1136 = .ok (.invokevirtual 137, 3) := by decide +kernel
theorem dL_law_1139 : decode cL_law 1139 = .ok (.if_icmp .eq 265, 3) := by decide +kernel
theorem dL_law_1142 : decode cL_law 1142 = .ok (.iconst 0, 1) := by decide +kernel
theorem dL_law_1143 : decode cL_law 1143 = .ok (.ireturn, 1) := by decide +kernel
theorem dL_law_1144 : decode cL_law 1144 = .ok (.aload_n 1, 1) := by decide +kernel
theorem dL_law_1145 : decode cL_law 1145 = .ok (.aload_n 0, 1) := by decide +kernel
theorem dL_law_1146 : decode cL_law 1146 = .ok (.iload_n 3, 1) := by decide +kernel
theorem dL_law_1147 : decode cL_law 1147 = .ok (.iconst 1, 1) := by decide +kernel
theorem dL_law_1148 : decode cL_law 1148 = .ok (.iadd, 1) := by decide +kernel
theorem dL_law_1149 : decode cL_law 1149 = .ok (.iaload, 1) := by decide +kernel
theorem dL_law_1150 : decode cL_law 1150 = .ok (.aload_n 0, 1) := by decide +kernel
theorem dL_law_1151 : decode cL_law 1151 = .ok (.iload_n 3, 1) := by decide +kernel
theorem dL_law_1152 : decode cL_law 1152 = .ok (.iconst 2, 1) := by decide +kernel
theorem dL_law_1153 : decode cL_law 1153 = .ok (.iadd, 1) := by decide +kernel
theorem dL_law_1154 : decode cL_law 1154 = .ok (.iaload, 1) := by decide +kernel
theorem dL_law_1155 : decode cL_law 1155 = .ok (.aload_n 0, 1) := by decide +kernel
theorem dL_law_1156 : decode cL_law 1156 = .ok (.iload_n 3, 1) := by decide +kernel
theorem dL_law_1157 : decode cL_law 1157 = .ok (.iconst 3, 1) := by decide +kernel
theorem dL_law_1158 : decode cL_law 1158 = .ok (.iadd, 1) := by decide +kernel
theorem dL_law_1159 : decode cL_law 1159 = .ok (.iaload, 1) := by decide +kernel
theorem dL_law_1160 : decode cL_law 1160 = .ok (.invokevirtual 138, 3) := by decide +kernel
theorem dL_law_1163 : decode cL_law 1163 = .ok (.aload_n 2, 1) := by decide +kernel
theorem dL_law_1164 : decode cL_law 1164 = .ok (.aload_n 0, 1) := by decide +kernel
theorem dL_law_1165 : decode cL_law 1165 = .ok (.iload_n 3, 1) := by decide +kernel
theorem dL_law_1166 : decode cL_law 1166 = .ok (.iconst 1, 1) := by decide +kernel
theorem dL_law_1167 : decode cL_law 1167 = .ok (.iadd, 1) := by decide +kernel
theorem dL_law_1168 : decode cL_law 1168 = .ok (.iaload, 1) := by decide +kernel
theorem dL_law_1169 : decode cL_law 1169 = .ok (.aload_n 0, 1) := by decide +kernel
theorem dL_law_1170 : decode cL_law 1170 = .ok (.iload_n 3, 1) := by decide +kernel
theorem dL_law_1171 : decode cL_law 1171 = .ok (.iconst 2, 1) := by decide +kernel
theorem dL_law_1172 : decode cL_law 1172 = .ok (.iadd, 1) := by decide +kernel
theorem dL_law_1173 : decode cL_law 1173 = .ok (.iaload, 1) := by decide +kernel
theorem dL_law_1174 : decode cL_law 1174 = .ok (.aload_n 0, 1) := by decide +kernel
theorem dL_law_1175 : decode cL_law 1175 = .ok (.iload_n 3, 1) := by decide +kernel
theorem dL_law_1176 : decode cL_law 1176 = .ok (.iconst 3, 1) := by decide +kernel
theorem dL_law_1177 : decode cL_law 1177 = .ok (.iadd, 1) := by decide +kernel
theorem dL_law_1178 : decode cL_law 1178 = .ok (.iaload, 1) := by decide +kernel
theorem dL_law_1179 : decode cL_law 1179 = .ok (.invokevirtual 141, 3) := by decide +kernel
theorem dL_law_1182 : decode cL_law 1182 = .ok (.if_icmp .eq 222, 3) := by decide +kernel
theorem dL_law_1185 : decode cL_law 1185 = .ok (.iconst 0, 1) := by decide +kernel
theorem dL_law_1186 : decode cL_law 1186 = .ok (.ireturn, 1) := by decide +kernel
theorem dL_law_1187 : decode cL_law 1187 = .ok (.aload_n 1, 1) := by decide +kernel
theorem dL_law_1188 : decode cL_law 1188 = .ok (.aload_n 0, 1) := by decide +kernel
theorem dL_law_1189 : decode cL_law 1189 = .ok (.iload_n 3, 1) := by decide +kernel
theorem dL_law_1190 : decode cL_law 1190 = .ok (.iconst 1, 1) := by decide +kernel
theorem dL_law_1191 : decode cL_law 1191 = .ok (.iadd, 1) := by decide +kernel
theorem dL_law_1192 : decode cL_law 1192 = .ok (.iaload, 1) := by decide +kernel
theorem dL_law_1193 : decode cL_law 1193 = .ok (.aload_n 0, 1) := by decide +kernel
theorem dL_law_1194 : decode cL_law 1194 = .ok (.iload_n 3, 1) := by decide +kernel
theorem dL_law_1195 : decode cL_law 1195 = .ok (.iconst 2, 1) := by decide +kernel
theorem dL_law_1196 : decode cL_law 1196 = .ok (.iadd, 1) := by decide +kernel
theorem dL_law_1197 : decode cL_law 1197 = .ok (.iaload, 1) := by decide +kernel
theorem dL_law_1198 : decode cL_law 1198 = .ok (.aload_n 0, 1) := by decide +kernel
theorem dL_law_1199 : decode cL_law 1199 = .ok (.iload_n 3, 1) := by decide +kernel
theorem dL_law_1200 : decode cL_law 1200 = .ok (.iconst 3, 1) := by decide +kernel
theorem dL_law_1201 : decode cL_law 1201 = .ok (.iadd, 1) := by decide +kernel
theorem dL_law_1202 : decode cL_law 1202 = .ok (.iaload, 1) := by decide +kernel
theorem dL_law_1203 : decode cL_law 1203 = .ok (.aload_n 0, 1) := by decide +kernel
theorem dL_law_1204 : decode cL_law 1204 = .ok (.iload_n 3, 1) := by decide +kernel
theorem dL_law_1205 : decode cL_law 1205 = .ok (.iconst 4, 1) := by decide +kernel
theorem dL_law_1206 : decode cL_law 1206 = .ok (.iadd, 1) := by decide +kernel
theorem dL_law_1207 : decode cL_law 1207 = .ok (.iaload, 1) := by decide +kernel
theorem dL_law_1208 : decode cL_law 1208 = .ok (.aload_n 0, 1) := by decide +kernel
theorem dL_law_1209 : decode cL_law 1209 = .ok (.iload_n 3, 1) := by decide +kernel
theorem dL_law_1210 : decode cL_law 1210 = .ok (.iconst 5, 1) := by decide +kernel
theorem dL_law_1211 : decode cL_law 1211 = .ok (.iadd, 1) := by decide +kernel
theorem dL_law_1212 : decode cL_law 1212 = .ok (.iaload, 1) := by decide +kernel
theorem dL_law_1213 : decode cL_law 1213 = .ok (.invokevirtual 142, 3) := by decide +kernel
theorem dL_law_1216 : decode cL_law 1216 = .ok (.aload_n 2, 1) := by decide +kernel
theorem dL_law_1217 : decode cL_law 1217 = .ok (.aload_n 0, 1) := by decide +kernel
theorem dL_law_1218 : decode cL_law 1218 = .ok (.iload_n 3, 1) := by decide +kernel
theorem dL_law_1219 : decode cL_law 1219 = .ok (.iconst 1, 1) := by decide +kernel
theorem dL_law_1220 : decode cL_law 1220 = .ok (.iadd, 1) := by decide +kernel
theorem dL_law_1221 : decode cL_law 1221 = .ok (.iaload, 1) := by decide +kernel
theorem dL_law_1222 : decode cL_law 1222 = .ok (.aload_n 0, 1) := by decide +kernel
theorem dL_law_1223 : decode cL_law 1223 = .ok (.iload_n 3, 1) := by decide +kernel
theorem dL_law_1224 : decode cL_law 1224 = .ok (.iconst 2, 1) := by decide +kernel
theorem dL_law_1225 : decode cL_law 1225 = .ok (.iadd, 1) := by decide +kernel
theorem dL_law_1226 : decode cL_law 1226 = .ok (.iaload, 1) := by decide +kernel
theorem dL_law_1227 : decode cL_law 1227 = .ok (.aload_n 0, 1) := by decide +kernel
theorem dL_law_1228 : decode cL_law 1228 = .ok (.iload_n 3, 1) := by decide +kernel
theorem dL_law_1229 : decode cL_law 1229 = .ok (.iconst 3, 1) := by decide +kernel
theorem dL_law_1230 : decode cL_law 1230 = .ok (.iadd, 1) := by decide +kernel
theorem dL_law_1231 : decode cL_law 1231 = .ok (.iaload, 1) := by decide +kernel
theorem dL_law_1232 : decode cL_law 1232 = .ok (.aload_n 0, 1) := by decide +kernel
theorem dL_law_1233 : decode cL_law 1233 = .ok (.iload_n 3, 1) := by decide +kernel
theorem dL_law_1234 : decode cL_law 1234 = .ok (.iconst 4, 1) := by decide +kernel
theorem dL_law_1235 : decode cL_law 1235 = .ok (.iadd, 1) := by decide +kernel
theorem dL_law_1236 : decode cL_law 1236 = .ok (.iaload, 1) := by decide +kernel
theorem dL_law_1237 : decode cL_law 1237 = .ok (.aload_n 0, 1) := by decide +kernel
theorem dL_law_1238 : decode cL_law 1238 = .ok (.iload_n 3, 1) := by decide +kernel
theorem dL_law_1239 : decode cL_law 1239 = .ok (.iconst 5, 1) := by decide +kernel
theorem dL_law_1240 : decode cL_law 1240 = .ok (.iadd, 1) := by decide +kernel
theorem dL_law_1241 : decode cL_law 1241 = .ok (.iaload, 1) := by decide +kernel
theorem dL_law_1242 : decode cL_law 1242 = .ok (.invokevirtual 146, 3) := by decide +kernel
theorem dL_law_1245 : decode cL_law 1245 = .ok (.if_icmp .eq 159, 3) := by decide +kernel
theorem dL_law_1248 : decode cL_law 1248 = .ok (.iconst 0, 1) := by decide +kernel
theorem dL_law_1249 : decode cL_law 1249 = .ok (.ireturn, 1) := by decide +kernel
theorem dL_law_1250 : decode cL_law 1250 = .ok (.aload_n 1, 1) := by decide +kernel
theorem dL_law_1251 : decode cL_law 1251 = .ok (.aload_n 0, 1) := by decide +kernel
theorem dL_law_1252 : decode cL_law 1252 = .ok (.iload_n 3, 1) := by decide +kernel
theorem dL_law_1253 : decode cL_law 1253 = .ok (.iconst 1, 1) := by decide +kernel
theorem dL_law_1254 : decode cL_law 1254 = .ok (.iadd, 1) := by decide +kernel
theorem dL_law_1255 : decode cL_law 1255 = .ok (.iaload, 1) := by decide +kernel
theorem dL_law_1256 : decode cL_law 1256 = .ok (.invokevirtual 147, 3) := by decide +kernel
theorem dL_law_1259 : decode cL_law 1259 = .ok (.aload_n 2, 1) := by decide +kernel
theorem dL_law_1260 : decode cL_law 1260 = .ok (.aload_n 0, 1) := by decide +kernel
theorem dL_law_1261 : decode cL_law 1261 = .ok (.iload_n 3, 1) := by decide +kernel
theorem dL_law_1262 : decode cL_law 1262 = .ok (.iconst 1, 1) := by decide +kernel
theorem dL_law_1263 : decode cL_law 1263 = .ok (.iadd, 1) := by decide +kernel
theorem dL_law_1264 : decode cL_law 1264 = .ok (.iaload, 1) := by decide +kernel
theorem dL_law_1265 : decode cL_law 1265 = .ok (.invokevirtual 150, 3) := by decide +kernel
theorem dL_law_1268 : decode cL_law 1268 = .ok (.if_icmp .eq 136, 3) := by decide +kernel
theorem dL_law_1271 : decode cL_law 1271 = .ok (.iconst 0, 1) := by decide +kernel
theorem dL_law_1272 : decode cL_law 1272 = .ok (.ireturn, 1) := by decide +kernel
theorem dL_law_1273 : decode cL_law 1273 = .ok (.aload_n 1, 1) := by decide +kernel
theorem dL_law_1274 : decode cL_law 1274 = .ok (.aload_n 0, 1) := by decide +kernel
theorem dL_law_1275 : decode cL_law 1275 = .ok (.iload_n 3, 1) := by decide +kernel
theorem dL_law_1276 : decode cL_law 1276 = .ok (.iconst 1, 1) := by decide +kernel
theorem dL_law_1277 : decode cL_law 1277 = .ok (.iadd, 1) := by decide +kernel
theorem dL_law_1278 : decode cL_law 1278 = .ok (.iaload, 1) := by decide +kernel
theorem dL_law_1279 : decode cL_law 1279 = .ok (.invokevirtual 151, 3) := by decide +kernel
theorem dL_law_1282 : decode cL_law 1282 = .ok (.aload_n 2, 1) := by decide +kernel
theorem dL_law_1283 : decode cL_law 1283 = .ok (.aload_n 0, 1) := by decide +kernel
theorem dL_law_1284 : decode cL_law 1284 = .ok (.iload_n 3, 1) := by decide +kernel
theorem dL_law_1285 : decode cL_law 1285 = .ok (.iconst 1, 1) := by decide +kernel
theorem dL_law_1286 : decode cL_law 1286 = .ok (.iadd, 1) := by decide +kernel
theorem dL_law_1287 : decode cL_law 1287 = .ok (.iaload, 1) := by decide +kernel
theorem dL_law_1288 : decode cL_law 1288 = .ok (.invokevirtual 154, 3) := by decide +kernel
theorem dL_law_1291 : decode cL_law 1291 = .ok (.if_icmp .eq 113, 3) := by decide +kernel
theorem dL_law_1294 : decode cL_law 1294 = .ok (.iconst 0, 1) := by decide +kernel
theorem dL_law_1295 : decode cL_law 1295 = .ok (.ireturn, 1) := by decide +kernel
theorem dL_law_1296 : decode cL_law 1296 = .ok (.aload_n 1, 1) := by decide +kernel
theorem dL_law_1297 : decode cL_law 1297 = .ok (.invokevirtual 155, 3) := by decide +kernel
theorem dL_law_1300 : decode cL_law 1300 = .ok (.aload_n 2, 1) := by decide +kernel
theorem dL_law_1301 : decode cL_law 1301 = .ok (.invokevirtual 159, 3) := by decide +kernel
theorem dL_law_1304 : decode cL_law 1304 = .ok (.if_icmp .eq 100, 3) := by decide +kernel
theorem dL_law_1307 : decode cL_law 1307 = .ok (.iconst 0, 1) := by decide +kernel
theorem dL_law_1308 : decode cL_law 1308 = .ok (.ireturn, 1) := by decide +kernel
theorem dL_law_1309 : decode cL_law 1309 = .ok (.aload_n 1, 1) := by decide +kernel
theorem dL_law_1310 : decode cL_law 1310 = .ok (.invokevirtual 160, 3) := by decide +kernel
theorem dL_law_1313 : decode cL_law 1313 = .ok (.aload_n 2, 1) := by decide +kernel
theorem dL_law_1314 : decode cL_law 1314 = .ok (.invokevirtual 163, 3) := by decide +kernel
theorem dL_law_1317 : decode cL_law 1317 = .ok (.if_icmp .eq 87, 3) := by decide +kernel
theorem dL_law_1320 : decode cL_law 1320 = .ok (.iconst 0, 1) := by decide +kernel
theorem dL_law_1321 : decode cL_law 1321 = .ok (.ireturn, 1) := by decide +kernel
theorem dL_law_1322 : decode cL_law 1322 = .ok (.aload_n 1, 1) := by decide +kernel
theorem dL_law_1323 : decode cL_law 1323 = .ok (.aload_n 0, 1) := by decide +kernel
theorem dL_law_1324 : decode cL_law 1324 = .ok (.iload_n 3, 1) := by decide +kernel
theorem dL_law_1325 : decode cL_law 1325 = .ok (.iconst 1, 1) := by decide +kernel
theorem dL_law_1326 : decode cL_law 1326 = .ok (.iadd, 1) := by decide +kernel
theorem dL_law_1327 : decode cL_law 1327 = .ok (.iaload, 1) := by decide +kernel
theorem dL_law_1328 : decode cL_law 1328 = .ok (.invokevirtual 164, 3) := by decide +kernel
theorem dL_law_1331 : decode cL_law 1331 = .ok (.aload_n 2, 1) := by decide +kernel
theorem dL_law_1332 : decode cL_law 1332 = .ok (.aload_n 0, 1) := by decide +kernel
theorem dL_law_1333 : decode cL_law 1333 = .ok (.iload_n 3, 1) := by decide +kernel
theorem dL_law_1334 : decode cL_law 1334 = .ok (.iconst 1, 1) := by decide +kernel
theorem dL_law_1335 : decode cL_law 1335 = .ok (.iadd, 1) := by decide +kernel
theorem dL_law_1336 : decode cL_law 1336 = .ok (.iaload, 1) := by decide +kernel
theorem dL_law_1337 : decode cL_law 1337 = .ok (.invokevirtual 167, 3) := by decide +kernel
theorem dL_law_1340 : decode cL_law 1340 = .ok (.if_icmp .eq 64, 3) := by decide +kernel
theorem dL_law_1343 : decode cL_law 1343 = .ok (.iconst 0, 1) := by decide +kernel
theorem dL_law_1344 : decode cL_law 1344 = .ok (.ireturn, 1) := by decide +kernel
theorem dL_law_1345 : decode cL_law 1345 = .ok (.aload_n 1, 1) := by decide +kernel
theorem dL_law_1346 : decode cL_law 1346 = .ok (.invokevirtual 168, 3) := by decide +kernel
theorem dL_law_1349 : decode cL_law 1349 = .ok (.aload_n 2, 1) := by decide +kernel
theorem dL_law_1350 : decode cL_law 1350 = .ok (.invokevirtual 171, 3) := by decide +kernel
theorem dL_law_1353 : decode cL_law 1353 = .ok (.if_icmp .eq 51, 3) := by decide +kernel
theorem dL_law_1356 : decode cL_law 1356 = .ok (.iconst 0, 1) := by decide +kernel
theorem dL_law_1357 : decode cL_law 1357 = .ok (.ireturn, 1) := by decide +kernel
theorem dL_law_1358 : decode cL_law 1358 = .ok (.aload_n 1, 1) := by decide +kernel
theorem dL_law_1359 : decode cL_law 1359 = .ok (.aload_n 0, 1) := by decide +kernel
theorem dL_law_1360 : decode cL_law 1360 = .ok (.iload_n 3, 1) := by decide +kernel
theorem dL_law_1361 : decode cL_law 1361 = .ok (.iconst 1, 1) := by decide +kernel
theorem dL_law_1362 : decode cL_law 1362 = .ok (.iadd, 1) := by decide +kernel
theorem dL_law_1363 : decode cL_law 1363 = .ok (.iaload, 1) := by decide +kernel
theorem dL_law_1364 : decode cL_law 1364 = .ok (.invokevirtual 172, 3) := by decide +kernel
theorem dL_law_1367 : decode cL_law 1367 = .ok (.aload_n 2, 1) := by decide +kernel
theorem dL_law_1368 : decode cL_law 1368 = .ok (.aload_n 0, 1) := by decide +kernel
theorem dL_law_1369 : decode cL_law 1369 = .ok (.iload_n 3, 1) := by decide +kernel
theorem dL_law_1370 : decode cL_law 1370 = .ok (.iconst 1, 1) := by decide +kernel
theorem dL_law_1371 : decode cL_law 1371 = .ok (.iadd, 1) := by decide +kernel
theorem dL_law_1372 : decode cL_law 1372 = .ok (.iaload, 1) := by decide +kernel
theorem dL_law_1373 : decode cL_law 1373 = .ok (.invokevirtual 175, 3) := by decide +kernel
theorem dL_law_1376 : decode cL_law 1376 = .ok (.if_icmp .eq 28, 3) := by decide +kernel
theorem dL_law_1379 : decode cL_law 1379 = .ok (.iconst 0, 1) := by decide +kernel
theorem dL_law_1380 : decode cL_law 1380 = .ok (.ireturn, 1) := by decide +kernel
theorem dL_law_1381 : decode cL_law 1381 = .ok (.aload_n 1, 1) := by decide +kernel
theorem dL_law_1382 : decode cL_law 1382 = .ok (.aload_n 0, 1) := by decide +kernel
theorem dL_law_1383 : decode cL_law 1383 = .ok (.iload_n 3, 1) := by decide +kernel
theorem dL_law_1384 : decode cL_law 1384 = .ok (.iconst 1, 1) := by decide +kernel
theorem dL_law_1385 : decode cL_law 1385 = .ok (.iadd, 1) := by decide +kernel
theorem dL_law_1386 : decode cL_law 1386 = .ok (.iaload, 1) := by decide +kernel
theorem dL_law_1387 : decode cL_law 1387 = .ok (.invokevirtual 176, 3) := by decide +kernel
theorem dL_law_1390 : decode cL_law 1390 = .ok (.aload_n 2, 1) := by decide +kernel
theorem dL_law_1391 : decode cL_law 1391 = .ok (.aload_n 0, 1) := by decide +kernel
theorem dL_law_1392 : decode cL_law 1392 = .ok (.iload_n 3, 1) := by decide +kernel
theorem dL_law_1393 : decode cL_law 1393 = .ok (.iconst 1, 1) := by decide +kernel
theorem dL_law_1394 : decode cL_law 1394 = .ok (.iadd, 1) := by decide +kernel
theorem dL_law_1395 : decode cL_law 1395 = .ok (.iaload, 1) := by decide +kernel
theorem dL_law_1396 : decode cL_law 1396 = .ok (.invokevirtual 179, 3) := by decide +kernel
theorem dL_law_1399 : decode cL_law 1399 = .ok (.if_icmp .eq 5, 3) := by decide +kernel
theorem dL_law_1402 : decode cL_law 1402 = .ok (.iconst 0, 1) := by decide +kernel
theorem dL_law_1403 : decode cL_law 1403 = .ok (.ireturn, 1) := by decide +kernel
theorem dL_law_1404 : decode cL_law 1404 = .ok (.iinc 3 6, 3) := by decide +kernel
theorem dL_law_1407 : decode cL_law 1407 = .ok (.goto (-1389), 3) := by decide +kernel
theorem dL_law_1410 : decode cL_law 1410 = .ok (.iconst 1, 1) := by decide +kernel
theorem dL_law_1411 : decode cL_law 1411 = .ok (.ireturn, 1) := by decide +kernel
