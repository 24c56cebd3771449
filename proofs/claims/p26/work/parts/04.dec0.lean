set_option maxRecDepth 20000 in
theorem ggX0_init_X3_init : GoodIn wsX0_init wsX3_init := goodIn_r _ [10, 11, 2, 3, 12, 13, 14, 15, 16, 17, 18, 19, 20, 21, 22, 23, 27, 28, 29, 30, 31, 32, 33] (by decide +kernel) (by decide +kernel)
set_option maxRecDepth 20000 in
theorem gX0_init_X3_init : GoodIn wsX0_init (wsX3_init) := ggX0_init_X3_init
theorem dX0_init_0 : decode cX0_init 0 = .ok (.aload_n 0, 1) := by decide +kernel
theorem dX0_init_1 : decode cX0_init 1 = .ok (.invokespecial 3, 3) := by decide +kernel
theorem dX0_init_4 : decode cX0_init 4 = .ok (.aload_n 0, 1) := by decide +kernel
theorem dX0_init_5 : decode cX0_init 5 = .ok (.bipush 6, 2) := by decide +kernel
theorem dX0_init_7 : decode cX0_init 7 = .ok (.anewarray 9, 3) := by decide +kernel
theorem dX0_init_10 : decode cX0_init 10 = .ok (.putfield 11, 3) := by decide +kernel
theorem dX0_init_13 : decode cX0_init 13 = .ok (.iconst 0, 1) := by decide +kernel
theorem dX0_init_14 : decode cX0_init 14 = .ok (.istore_n 1, 1) := by decide +kernel
theorem dX0_init_15 : decode cX0_init 15 = .ok (.iload_n 1, 1) := by decide +kernel
theorem dX0_init_16 : decode cX0_init 16 = .ok (.bipush 6, 2) := by decide +kernel
theorem dX0_init_18 : decode cX0_init 18 = .ok (.if_icmp .ge 22, 3) := by decide +kernel
theorem dX0_init_21 : decode cX0_init 21 = .ok (.aload_n 0, 1) := by decide +kernel
theorem dX0_init_22 : decode cX0_init 22 = .ok (.getfield 11, 3) := by decide +kernel
theorem dX0_init_25 : decode cX0_init 25 = .ok (.iload_n 1, 1) := by decide +kernel
theorem dX0_init_26 : decode cX0_init 26 = .ok (.new 9, 3) := by decide +kernel
theorem dX0_init_29 : decode cX0_init 29 = .ok (.dup, 1) := by decide +kernel
theorem dX0_init_30 : decode cX0_init 30 = .ok (.invokespecial 17, 3) := by decide +kernel
theorem dX0_init_33 : decode cX0_init 33 = .ok (.aastore, 1) := by decide +kernel
theorem dX0_init_34 : decode cX0_init 34 = .ok (.iinc 1 1, 3) := by decide +kernel
theorem dX0_init_37 : decode cX0_init 37 = .ok (.goto (-22), 3) := by decide +kernel
theorem dX0_init_40 : decode cX0_init 40 = .ok (.return_, 1) := by decide +kernel
theorem dX0_size_0 : decode cX0_size 0 = .ok (.aload_n 0, 1) := by decide +kernel
theorem dX0_size_1 : decode cX0_size 1 = .ok (.getfield 18, 3) := by decide +kernel
theorem dX0_size_4 : decode cX0_size 4 = .ok (.ireturn, 1) := by decide +kernel
set_option maxRecDepth 20000 in
theorem ggX0_record_X0_placeOf : GoodIn wsX0_record wsX0_placeOf := goodIn_r _ [8, 3, 9, 10, 11, 12, 33, 34, 35] (by decide +kernel) (by decide +kernel)
set_option maxRecDepth 20000 in
theorem gX0_record_X0_placeOf : GoodIn wsX0_record (wsV RX0 22 RX0 yX0_placeOf wsX0_placeOf) := goodIn_app (goodIn_of _ (by decide +kernel)) ggX0_record_X0_placeOf
set_option maxRecDepth 20000 in
theorem ggX0_record_X3_become : GoodIn wsX0_record wsX3_become := goodIn_r _ [17, 18, 19, 20, 21, 22, 23, 24, 25, 26, 16, 27, 28, 29, 30, 31, 32, 36, 37, 38, 39, 40, 41, 42] (by decide +kernel) (by decide +kernel)
set_option maxRecDepth 20000 in
theorem gX0_record_X3_become : GoodIn wsX0_record (wsV RX0 26 RX3 yX3_become wsX3_become) := goodIn_app (goodIn_of _ (by decide +kernel)) ggX0_record_X3_become
theorem dX0_record_0 : decode cX0_record 0 = .ok (.aload_n 0, 1) := by decide +kernel
theorem dX0_record_1 : decode cX0_record 1 = .ok (.getfield 11, 3) := by decide +kernel
theorem dX0_record_4 : decode cX0_record 4 = .ok (.aload_n 0, 1) := by decide +kernel
theorem dX0_record_5 : decode cX0_record 5 = .ok (.aload_n 0, 1) := by decide +kernel
theorem dX0_record_6 : decode cX0_record 6 = .ok (.getfield 18, 3) := by decide +kernel
theorem dX0_record_9 : decode cX0_record 9 = .ok (.invokevirtual 22, 3) := by decide +kernel
theorem dX0_record_12 : decode cX0_record 12 = .ok (.aaload, 1) := by decide +kernel
theorem dX0_record_13 : decode cX0_record 13 = .ok (.aload_n 1, 1) := by decide +kernel
theorem dX0_record_14 : decode cX0_record 14 = .ok (.invokevirtual 26, 3) := by decide +kernel
theorem dX0_record_17 : decode cX0_record 17 = .ok (.aload_n 0, 1) := by decide +kernel
theorem dX0_record_18 : decode cX0_record 18 = .ok (.getfield 18, 3) := by decide +kernel
theorem dX0_record_21 : decode cX0_record 21 = .ok (.bipush 6, 2) := by decide +kernel
theorem dX0_record_23 : decode cX0_record 23 = .ok (.if_icmp .ge 16, 3) := by decide +kernel
theorem dX0_record_26 : decode cX0_record 26 = .ok (.aload_n 0, 1) := by decide +kernel
theorem dX0_record_27 : decode cX0_record 27 = .ok (.dup, 1) := by decide +kernel
theorem dX0_record_28 : decode cX0_record 28 = .ok (.getfield 18, 3) := by decide +kernel
theorem dX0_record_31 : decode cX0_record 31 = .ok (.iconst 1, 1) := by decide +kernel
theorem dX0_record_32 : decode cX0_record 32 = .ok (.iadd, 1) := by decide +kernel
theorem dX0_record_33 : decode cX0_record 33 = .ok (.putfield 18, 3) := by decide +kernel
theorem dX0_record_36 : decode cX0_record 36 = .ok (.goto 12, 3) := by decide +kernel
theorem dX0_record_39 : decode cX0_record 39 = .ok (.aload_n 0, 1) := by decide +kernel
theorem dX0_record_40 : decode cX0_record 40 = .ok (.aload_n 0, 1) := by decide +kernel
theorem dX0_record_41 : decode cX0_record 41 = .ok (.iconst 1, 1) := by decide +kernel
theorem dX0_record_42 : decode cX0_record 42 = .ok (.invokevirtual 22, 3) := by decide +kernel
theorem dX0_record_45 : decode cX0_record 45 = .ok (.putfield 30, 3) := by decide +kernel
theorem dX0_record_48 : decode cX0_record 48 = .ok (.return_, 1) := by decide +kernel
set_option maxRecDepth 20000 in
theorem ggX0_placeOf_J9_floorMod_7cf53 : GoodIn wsX0_placeOf wsJ9_floorMod_7cf53 := goodIn_r _ [5] (by decide +kernel) (by decide +kernel)
set_option maxRecDepth 20000 in
theorem gX0_placeOf_J9_floorMod_7cf53 : GoodIn wsX0_placeOf (va_wsS RX0 33 yJ9_floorMod_7cf53 wsJ9_floorMod_7cf53) := goodIn_app (goodIn_of _ (by decide +kernel)) ggX0_placeOf_J9_floorMod_7cf53
theorem dX0_placeOf_0 : decode cX0_placeOf 0 = .ok (.aload_n 0, 1) := by decide +kernel
theorem dX0_placeOf_1 : decode cX0_placeOf 1 = .ok (.getfield 30, 3) := by decide +kernel
theorem dX0_placeOf_4 : decode cX0_placeOf 4 = .ok (.iload_n 1, 1) := by decide +kernel
theorem dX0_placeOf_5 : decode cX0_placeOf 5 = .ok (.iadd, 1) := by decide +kernel
theorem dX0_placeOf_6 : decode cX0_placeOf 6 = .ok (.bipush 6, 2) := by decide +kernel
theorem dX0_placeOf_8 : decode cX0_placeOf 8 = .ok (.invokestatic 33, 3) := by decide +kernel
theorem dX0_placeOf_11 : decode cX0_placeOf 11 = .ok (.ireturn, 1) := by decide +kernel
theorem dX1_init_0 : decode cX1_init 0 = .ok (.aload_n 0, 1) := by decide +kernel
theorem dX1_init_1 : decode cX1_init 1 = .ok (.invokespecial 5, 3) := by decide +kernel
theorem dX1_init_4 : decode cX1_init 4 = .ok (.aload_n 0, 1) := by decide +kernel
theorem dX1_init_5 : decode cX1_init 5 = .ok (.bipush 60, 2) := by decide +kernel
theorem dX1_init_7 : decode cX1_init 7 = .ok (.newarray .char, 2) := by decide +kernel
theorem dX1_init_9 : decode cX1_init 9 = .ok (.putfield 11, 3) := by decide +kernel
theorem dX1_init_12 : decode cX1_init 12 = .ok (.aload_n 0, 1) := by decide +kernel
theorem dX1_init_13 : decode cX1_init 13 = .ok (.bipush 10, 2) := by decide +kernel
theorem dX1_init_15 : decode cX1_init 15 = .ok (.newarray .int, 2) := by decide +kernel
theorem dX1_init_17 : decode cX1_init 17 = .ok (.putfield 15, 3) := by decide +kernel
theorem dX1_init_20 : decode cX1_init 20 = .ok (.aload_n 0, 1) := by decide +kernel
theorem dX1_init_21 : decode cX1_init 21 = .ok (.bipush 10, 2) := by decide +kernel
theorem dX1_init_23 : decode cX1_init 23 = .ok (.newarray .int, 2) := by decide +kernel
theorem dX1_init_25 : decode cX1_init 25 = .ok (.putfield 19, 3) := by decide +kernel
theorem dX1_init_28 : decode cX1_init 28 = .ok (.aload_n 0, 1) := by decide +kernel
theorem dX1_init_29 : decode cX1_init 29 = .ok (.bipush 10, 2) := by decide +kernel
theorem dX1_init_31 : decode cX1_init 31 = .ok (.newarray .int, 2) := by decide +kernel
theorem dX1_init_33 : decode cX1_init 33 = .ok (.putfield 22, 3) := by decide +kernel
theorem dX1_init_36 : decode cX1_init 36 = .ok (.aload_n 0, 1) := by decide +kernel
theorem dX1_init_37 : decode cX1_init 37 = .ok (.bipush 10, 2) := by decide +kernel
theorem dX1_init_39 : decode cX1_init 39 = .ok (.newarray .boolean, 2) := by decide +kernel
theorem dX1_init_41 : decode cX1_init 41 = .ok (.putfield 25, 3) := by decide +kernel
theorem dX1_init_44 : decode cX1_init 44 = .ok (.return_, 1) := by decide +kernel
theorem dX1_length_0 : decode cX1_length 0 = .ok (.aload_n 0, 1) := by decide +kernel
theorem dX1_length_1 : decode cX1_length 1 = .ok (.getfield 29, 3) := by decide +kernel
theorem dX1_length_4 : decode cX1_length 4 = .ok (.ireturn, 1) := by decide +kernel
theorem dX2_init_0 : decode cX2_init 0 = .ok (.aload_n 0, 1) := by decide +kernel
theorem dX2_init_1 : decode cX2_init 1 = .ok (.invokespecial 3, 3) := by decide +kernel
theorem dX2_init_4 : decode cX2_init 4 = .ok (.aload_n 0, 1) := by decide +kernel
theorem dX2_init_5 : decode cX2_init 5 = .ok (.bipush 100, 2) := by decide +kernel
theorem dX2_init_7 : decode cX2_init 7 = .ok (.newarray .int, 2) := by decide +kernel
theorem dX2_init_9 : decode cX2_init 9 = .ok (.putfield 9, 3) := by decide +kernel
theorem dX2_init_12 : decode cX2_init 12 = .ok (.aload_n 0, 1) := by decide +kernel
theorem dX2_init_13 : decode cX2_init 13 = .ok (.bipush 100, 2) := by decide +kernel
theorem dX2_init_15 : decode cX2_init 15 = .ok (.newarray .int, 2) := by decide +kernel
theorem dX2_init_17 : decode cX2_init 17 = .ok (.putfield 15, 3) := by decide +kernel
theorem dX2_init_20 : decode cX2_init 20 = .ok (.return_, 1) := by decide +kernel
set_option maxRecDepth 20000 in
theorem ggX2_perforate_X3_settingOf : GoodIn wsX2_perforate wsX3_settingOf := goodIn_r _ [7, 8, 9, 10, 11, 82, 83, 84, 85, 86, 87, 88] (by decide +kernel) (by decide +kernel)
set_option maxRecDepth 20000 in
theorem gX2_perforate_X3_settingOf : GoodIn wsX2_perforate (wsV RX2 18 RX3 yX3_settingOf wsX3_settingOf) := goodIn_app (goodIn_of _ (by decide +kernel)) ggX2_perforate_X3_settingOf
set_option maxRecDepth 20000 in
theorem ggX2_perforate_J7_fill_53178 : GoodIn wsX2_perforate wsJ7_fill_53178 := goodIn_r _ [15] (by decide +kernel) (by decide +kernel)
set_option maxRecDepth 20000 in
theorem gX2_perforate_J7_fill_53178 : GoodIn wsX2_perforate (va_wsS RX2 28 yJ7_fill_53178 wsJ7_fill_53178) := goodIn_app (goodIn_of _ (by decide +kernel)) ggX2_perforate_J7_fill_53178
set_option maxRecDepth 20000 in
theorem ggX2_perforate_X3_size : GoodIn wsX2_perforate wsX3_size := goodIn_r _ [19, 20, 82, 83, 84, 85, 86, 87, 88] (by decide +kernel) (by decide +kernel)
set_option maxRecDepth 20000 in
theorem gX2_perforate_X3_size : GoodIn wsX2_perforate (wsV RX2 34 RX3 yX3_size wsX3_size) := goodIn_app (goodIn_of _ (by decide +kernel)) ggX2_perforate_X3_size
set_option maxRecDepth 20000 in
theorem ggX2_perforate_X3_trackOf : GoodIn wsX2_perforate wsX3_trackOf := goodIn_r _ [24, 25, 26, 27, 28, 6, 29, 20, 82, 83, 84, 85, 86, 87, 88] (by decide +kernel) (by decide +kernel)
set_option maxRecDepth 20000 in
theorem gX2_perforate_X3_trackOf : GoodIn wsX2_perforate (wsV RX2 38 RX3 yX3_trackOf wsX3_trackOf) := goodIn_app (goodIn_of _ (by decide +kernel)) ggX2_perforate_X3_trackOf
set_option maxRecDepth 20000 in
theorem ggX2_perforate_X3_firstOf : GoodIn wsX2_perforate wsX3_firstOf := goodIn_r _ [33, 34, 26, 27, 28, 6, 29, 20, 82, 83, 84, 85, 86, 87, 88] (by decide +kernel) (by decide +kernel)
set_option maxRecDepth 20000 in
theorem gX2_perforate_X3_firstOf : GoodIn wsX2_perforate (wsV RX2 41 RX3 yX3_firstOf wsX3_firstOf) := goodIn_app (goodIn_of _ (by decide +kernel)) ggX2_perforate_X3_firstOf
set_option maxRecDepth 20000 in
theorem ggX2_perforate_X3_lastOf : GoodIn wsX2_perforate wsX3_lastOf := goodIn_r _ [38, 39, 26, 27, 28, 6, 29, 20, 82, 83, 84, 85, 86, 87, 88] (by decide +kernel) (by decide +kernel)
set_option maxRecDepth 20000 in
theorem gX2_perforate_X3_lastOf : GoodIn wsX2_perforate (wsV RX2 44 RX3 yX3_lastOf wsX3_lastOf) := goodIn_app (goodIn_of _ (by decide +kernel)) ggX2_perforate_X3_lastOf
set_option maxRecDepth 20000 in
theorem ggX2_perforate_X3_isHole : GoodIn wsX2_perforate wsX3_isHole := goodIn_r _ [43, 8, 44, 31, 32, 6, 33, 34, 26, 27, 28, 29, 20, 45, 36, 37, 38, 39, 46, 47, 48, 49, 50, 82, 83, 84, 85, 86, 87, 88] (by decide +kernel) (by decide +kernel)
set_option maxRecDepth 20000 in
theorem gX2_perforate_X3_isHole : GoodIn wsX2_perforate (wsV RX2 47 RX3 yX3_isHole wsX3_isHole) := goodIn_app (goodIn_of _ (by decide +kernel)) ggX2_perforate_X3_isHole
set_option maxRecDepth 20000 in
theorem ggX2_perforate_X2_punch : GoodIn wsX2_perforate wsX2_punch := goodIn_r _ [55, 2, 56, 10, 57, 58, 9, 11, 59, 60, 79, 80, 81] (by decide +kernel) (by decide +kernel)
set_option maxRecDepth 20000 in
theorem gX2_perforate_X2_punch : GoodIn wsX2_perforate (wsV RX2 51 RX2 yX2_punch wsX2_punch) := goodIn_app (goodIn_of _ (by decide +kernel)) ggX2_perforate_X2_punch
set_option maxRecDepth 20000 in
theorem ggX2_perforate_X3_hasAccent : GoodIn wsX2_perforate wsX3_hasAccent := goodIn_r _ [64, 65, 26, 27, 28, 6, 29, 20, 82, 83, 84, 85, 86, 87, 88] (by decide +kernel) (by decide +kernel)
set_option maxRecDepth 20000 in
theorem gX2_perforate_X3_hasAccent : GoodIn wsX2_perforate (wsV RX2 55 RX3 yX3_hasAccent wsX3_hasAccent) := goodIn_app (goodIn_of _ (by decide +kernel)) ggX2_perforate_X3_hasAccent
set_option maxRecDepth 20000 in
theorem ggX2_perforate_X2_listen : GoodIn wsX2_perforate wsX2_listen := goodIn_r _ [69, 70, 71, 72, 73, 74, 75, 76, 77, 54, 78, 2, 59, 10, 60, 58, 9, 11, 79, 80, 81] (by decide +kernel) (by decide +kernel)
set_option maxRecDepth 20000 in
theorem gX2_perforate_X2_listen : GoodIn wsX2_perforate (wsV RX2 59 RX2 yX2_listen wsX2_listen) := goodIn_app (goodIn_of _ (by decide +kernel)) ggX2_perforate_X2_listen
theorem dX2_perforate_0 : decode cX2_perforate 0 = .ok (.aload_n 0, 1) := by decide +kernel
theorem dX2_perforate_1 : decode cX2_perforate 1 = .ok (.aload_n 1, 1) := by decide +kernel
theorem dX2_perforate_2 : decode cX2_perforate 2 = .ok (.iconst 3, 1) := by decide +kernel
theorem dX2_perforate_3 : decode cX2_perforate 3 = .ok (.invokevirtual 18, 3) := by decide +kernel
theorem dX2_perforate_6 : decode cX2_perforate 6 = .ok (.putfield 24, 3) := by decide +kernel
theorem dX2_perforate_9 : decode cX2_perforate 9 = .ok (.aload_n 0, 1) := by decide +kernel
theorem dX2_perforate_10 : decode cX2_perforate 10 = .ok (.getfield 9, 3) := by decide +kernel
theorem dX2_perforate_13 : decode cX2_perforate 13 = .ok (.iconst 0, 1) := by decide +kernel
theorem dX2_perforate_14 : decode cX2_perforate 14 = .ok (.invokestatic 28, 3) := by decide +kernel
theorem dX2_perforate_17 : decode cX2_perforate 17 = .ok (.iconst 0, 1) := by decide +kernel
theorem dX2_perforate_18 : decode cX2_perforate 18 = .ok (.istore_n 2, 1) := by decide +kernel
theorem dX2_perforate_19 : decode cX2_perforate 19 = .ok (.iload_n 2, 1) := by decide +kernel
theorem dX2_perforate_20 : decode cX2_perforate 20 = .ok (.aload_n 1, 1) := by decide +kernel
theorem dX2_perforate_21 : decode cX2_perforate 21 = .ok (.invokevirtual 34, 3) := by decide +kernel
theorem dX2_perforate_24 : decode cX2_perforate 24 = .ok (.if_icmp .ge 88, 3) := by decide +kernel
theorem dX2_perforate_27 : decode cX2_perforate 27 = .ok (.aload_n 1, 1) := by decide +kernel
theorem dX2_perforate_28 : decode cX2_perforate 28 = .ok (.iload_n 2, 1) := by decide +kernel
theorem dX2_perforate_29 : decode cX2_perforate 29 = .ok (.invokevirtual 38, 3) := by decide +kernel
theorem dX2_perforate_32 : decode cX2_perforate 32 = .ok (.istore_n 3, 1) := by decide +kernel
theorem dX2_perforate_33 : decode cX2_perforate 33 = .ok (.aload_n 1, 1) := by decide +kernel
theorem dX2_perforate_34 : decode cX2_perforate 34 = .ok (.iload_n 2, 1) := by decide +kernel
theorem dX2_perforate_35 : decode cX2_perforate 35 = .ok (.invokevirtual 41, 3) := by decide +kernel
theorem dX2_perforate_38 : decode cX2_perforate 38 = .ok (.istore 4, 2) := by decide +kernel
theorem dX2_perforate_40 : decode cX2_perforate 40 = .ok (.iload 4, 2) := by decide +kernel
theorem dX2_perforate_42 : decode cX2_perforate 42 = .ok (.istore 5, 2) := by decide +kernel
theorem dX2_perforate_44 : decode cX2_perforate 44 = .ok (.iload 5, 2) := by decide +kernel
theorem dX2_perforate_46 : decode cX2_perforate 46 = .ok (.aload_n 1, 1) := by decide +kernel
theorem dX2_perforate_47 : decode cX2_perforate 47 = .ok (.iload_n 2, 1) := by decide +kernel
theorem dX2_perforate_48 : decode cX2_perforate 48 = .ok (.invokevirtual 44, 3) := by decide +kernel
theorem dX2_perforate_51 : decode cX2_perforate 51 = .ok (.if_icmp .gt 26, 3) := by decide +kernel
theorem dX2_perforate_54 : decode cX2_perforate 54 = .ok (.aload_n 1, 1) := by decide +kernel
theorem dX2_perforate_55 : decode cX2_perforate 55 = .ok (.iload_n 2, 1) := by decide +kernel
theorem dX2_perforate_56 : decode cX2_perforate 56 = .ok (.iload 5, 2) := by decide +kernel
theorem dX2_perforate_58 : decode cX2_perforate 58 = .ok (.invokevirtual 47, 3) := by decide +kernel
theorem dX2_perforate_61 : decode cX2_perforate 61 = .ok (.ifCond .eq 10, 3) := by decide +kernel
theorem dX2_perforate_64 : decode cX2_perforate 64 = .ok (.aload_n 0, 1) := by decide +kernel
theorem dX2_perforate_65 : decode cX2_perforate 65 = .ok (.iload_n 3, 1) := by decide +kernel
theorem dX2_perforate_66 : decode cX2_perforate 66 = .ok (.iload 5, 2) := by decide +kernel
theorem dX2_perforate_68 : decode cX2_perforate 68 = .ok (.invokevirtual 51, 3) := by decide +kernel
theorem dX2_perforate_71 : decode cX2_perforate 71 = .ok (.iinc 5 1, 3) := by decide +kernel
theorem dX2_perforate_74 : decode cX2_perforate 74 = .ok (.goto (-30), 3) := by decide +kernel
theorem dX2_perforate_77 : decode cX2_perforate 77 = .ok (.aload_n 1, 1) := by decide +kernel
theorem dX2_perforate_78 : decode cX2_perforate 78 = .ok (.iload_n 2, 1) := by decide +kernel
theorem dX2_perforate_79 : decode cX2_perforate 79 = .ok (.invokevirtual 55, 3) := by decide +kernel
theorem dX2_perforate_82 : decode cX2_perforate 82 = .ok (.ifCond .eq 24, 3) := by decide +kernel
theorem dX2_perforate_85 : decode cX2_perforate 85 = .ok (.aload_n 0, 1) := by decide +kernel
theorem dX2_perforate_86 : decode cX2_perforate 86 = .ok (.iload_n 3, 1) := by decide +kernel
theorem dX2_perforate_87 : decode cX2_perforate 87 = .ok (.bipush 11, 2) := by decide +kernel
theorem dX2_perforate_89 : decode cX2_perforate 89 = .ok (.if_icmp .ne 9, 3) := by decide +kernel
theorem dX2_perforate_92 : decode cX2_perforate 92 = .ok (.iload_n 3, 1) := by decide +kernel
theorem dX2_perforate_93 : decode cX2_perforate 93 = .ok (.iconst 1, 1) := by decide +kernel
theorem dX2_perforate_94 : decode cX2_perforate 94 = .ok (.isub, 1) := by decide +kernel
theorem dX2_perforate_95 : decode cX2_perforate 95 = .ok (.goto 6, 3) := by decide +kernel
theorem dX2_perforate_98 : decode cX2_perforate 98 = .ok (.iload_n 3, 1) := by decide +kernel
theorem dX2_perforate_99 : decode cX2_perforate 99 = .ok (.iconst 1, 1) := by decide +kernel
theorem dX2_perforate_100 : decode cX2_perforate 100 = .ok (.iadd, 1) := by decide +kernel
theorem dX2_perforate_101 : decode cX2_perforate 101 = .ok (.iload 4, 2) := by decide +kernel
theorem dX2_perforate_103 : decode cX2_perforate 103 = .ok (.invokevirtual 51, 3) := by decide +kernel
theorem dX2_perforate_106 : decode cX2_perforate 106 = .ok (.iinc 2 1, 3) := by decide +kernel
theorem dX2_perforate_109 : decode cX2_perforate 109 = .ok (.goto (-90), 3) := by decide +kernel
theorem dX2_perforate_112 : decode cX2_perforate 112 = .ok (.aload_n 0, 1) := by decide +kernel
theorem dX2_perforate_113 : decode cX2_perforate 113 = .ok (.aload_n 1, 1) := by decide +kernel
theorem dX2_perforate_114 : decode cX2_perforate 114 = .ok (.iconst 2, 1) := by decide +kernel
theorem dX2_perforate_115 : decode cX2_perforate 115 = .ok (.invokevirtual 18, 3) := by decide +kernel
theorem dX2_perforate_118 : decode cX2_perforate 118 = .ok (.invokevirtual 59, 3) := by decide +kernel
theorem dX2_perforate_121 : decode cX2_perforate 121 = .ok (.return_, 1) := by decide +kernel
set_option maxRecDepth 20000 in
theorem ggX2_punch_X4_isTrack : GoodIn wsX2_punch wsX4_isTrack := goodIn_r _ [4, 5, 6, 3, 7] (by decide +kernel) (by decide +kernel)
set_option maxRecDepth 20000 in
theorem gX2_punch_X4_isTrack_n63 : GoodIn wsX2_punch (wsX4_isTrack) := ggX2_punch_X4_isTrack
set_option maxRecDepth 20000 in
theorem ggX2_punch_X4_isStep : GoodIn wsX2_punch wsX4_isStep := goodIn_r _ [9, 5, 6, 3, 7] (by decide +kernel) (by decide +kernel)
set_option maxRecDepth 20000 in
theorem gX2_punch_X4_isStep_n66 : GoodIn wsX2_punch (wsX4_isStep) := ggX2_punch_X4_isStep
theorem dX2_punch_0 : decode cX2_punch 0 = .ok (.iload_n 1, 1) := by decide +kernel
theorem dX2_punch_1 : decode cX2_punch 1 = .ok (.invokestatic 63, 3) := by decide +kernel
theorem dX2_punch_4 : decode cX2_punch 4 = .ok (.ifCond .eq 22, 3) := by decide +kernel
theorem dX2_punch_7 : decode cX2_punch 7 = .ok (.iload_n 2, 1) := by decide +kernel
theorem dX2_punch_8 : decode cX2_punch 8 = .ok (.invokestatic 66, 3) := by decide +kernel
theorem dX2_punch_11 : decode cX2_punch 11 = .ok (.ifCond .eq 15, 3) := by decide +kernel
theorem dX2_punch_14 : decode cX2_punch 14 = .ok (.aload_n 0, 1) := by decide +kernel
theorem dX2_punch_15 : decode cX2_punch 15 = .ok (.getfield 9, 3) := by decide +kernel
theorem dX2_punch_18 : decode cX2_punch 18 = .ok (.iload_n 2, 1) := by decide +kernel
theorem dX2_punch_19 : decode cX2_punch 19 = .ok (.dup2, 1) := by decide +kernel
theorem dX2_punch_20 : decode cX2_punch 20 = .ok (.iaload, 1) := by decide +kernel
theorem dX2_punch_21 : decode cX2_punch 21 = .ok (.iconst 1, 1) := by decide +kernel
theorem dX2_punch_22 : decode cX2_punch 22 = .ok (.iload_n 1, 1) := by decide +kernel
theorem dX2_punch_23 : decode cX2_punch 23 = .ok (.ishl, 1) := by decide +kernel
theorem dX2_punch_24 : decode cX2_punch 24 = .ok (.ior, 1) := by decide +kernel
theorem dX2_punch_25 : decode cX2_punch 25 = .ok (.iastore, 1) := by decide +kernel
theorem dX2_punch_26 : decode cX2_punch 26 = .ok (.return_, 1) := by decide +kernel
set_option maxRecDepth 20000 in
theorem ggX2_listen_X2_holesAt : GoodIn wsX2_listen wsX2_holesAt := goodIn_r _ [10, 11, 12, 13, 14, 15, 16, 17, 18, 19, 20] (by decide +kernel) (by decide +kernel)
set_option maxRecDepth 20000 in
theorem gX2_listen_X2_holesAt : GoodIn wsX2_listen (wsV RX2 75 RX2 yX2_holesAt wsX2_holesAt) := goodIn_app (goodIn_of _ (by decide +kernel)) ggX2_listen_X2_holesAt
theorem dX2_listen_0 : decode cX2_listen 0 = .ok (.iconst 0, 1) := by decide +kernel
theorem dX2_listen_1 : decode cX2_listen 1 = .ok (.istore_n 2, 1) := by decide +kernel
theorem dX2_listen_2 : decode cX2_listen 2 = .ok (.iload_n 2, 1) := by decide +kernel
theorem dX2_listen_3 : decode cX2_listen 3 = .ok (.bipush 100, 2) := by decide +kernel
theorem dX2_listen_5 : decode cX2_listen 5 = .ok (.if_icmp .ge 48, 3) := by decide +kernel
theorem dX2_listen_8 : decode cX2_listen 8 = .ok (.iconst 0, 1) := by decide +kernel
theorem dX2_listen_9 : decode cX2_listen 9 = .ok (.istore_n 3, 1) := by decide +kernel
theorem dX2_listen_10 : decode cX2_listen 10 = .ok (.iconst 0, 1) := by decide +kernel
theorem dX2_listen_11 : decode cX2_listen 11 = .ok (.iload_n 2, 1) := by decide +kernel
theorem dX2_listen_12 : decode cX2_listen 12 = .ok (.iload_n 1, 1) := by decide +kernel
theorem dX2_listen_13 : decode cX2_listen 13 = .ok (.isub, 1) := by decide +kernel
theorem dX2_listen_14 : decode cX2_listen 14 = .ok (.invokestatic 69, 3) := by decide +kernel
theorem dX2_listen_17 : decode cX2_listen 17 = .ok (.istore 4, 2) := by decide +kernel
theorem dX2_listen_19 : decode cX2_listen 19 = .ok (.iload 4, 2) := by decide +kernel
theorem dX2_listen_21 : decode cX2_listen 21 = .ok (.iload_n 2, 1) := by decide +kernel
theorem dX2_listen_22 : decode cX2_listen 22 = .ok (.if_icmp .gt 18, 3) := by decide +kernel
theorem dX2_listen_25 : decode cX2_listen 25 = .ok (.iload_n 3, 1) := by decide +kernel
theorem dX2_listen_26 : decode cX2_listen 26 = .ok (.aload_n 0, 1) := by decide +kernel
theorem dX2_listen_27 : decode cX2_listen 27 = .ok (.iload 4, 2) := by decide +kernel
theorem dX2_listen_29 : decode cX2_listen 29 = .ok (.invokevirtual 75, 3) := by decide +kernel
theorem dX2_listen_32 : decode cX2_listen 32 = .ok (.ior, 1) := by decide +kernel
theorem dX2_listen_33 : decode cX2_listen 33 = .ok (.istore_n 3, 1) := by decide +kernel
theorem dX2_listen_34 : decode cX2_listen 34 = .ok (.iinc 4 1, 3) := by decide +kernel
theorem dX2_listen_37 : decode cX2_listen 37 = .ok (.goto (-18), 3) := by decide +kernel
theorem dX2_listen_40 : decode cX2_listen 40 = .ok (.aload_n 0, 1) := by decide +kernel
theorem dX2_listen_41 : decode cX2_listen 41 = .ok (.getfield 15, 3) := by decide +kernel
theorem dX2_listen_44 : decode cX2_listen 44 = .ok (.iload_n 2, 1) := by decide +kernel
theorem dX2_listen_45 : decode cX2_listen 45 = .ok (.iload_n 3, 1) := by decide +kernel
theorem dX2_listen_46 : decode cX2_listen 46 = .ok (.iastore, 1) := by decide +kernel
theorem dX2_listen_47 : decode cX2_listen 47 = .ok (.iinc 2 1, 3) := by decide +kernel
theorem dX2_listen_50 : decode cX2_listen 50 = .ok (.goto (-48), 3) := by decide +kernel
theorem dX2_listen_53 : decode cX2_listen 53 = .ok (.return_, 1) := by decide +kernel
set_option maxRecDepth 20000 in
theorem ggX2_holesAt_X4_isStep : GoodIn wsX2_holesAt wsX4_isStep := goodIn_r _ [4, 5, 6, 3, 7] (by decide +kernel) (by decide +kernel)
set_option maxRecDepth 20000 in
theorem gX2_holesAt_X4_isStep_n66 : GoodIn wsX2_holesAt (wsX4_isStep) := ggX2_holesAt_X4_isStep
theorem dX2_holesAt_0 : decode cX2_holesAt 0 = .ok (.iload_n 1, 1) := by decide +kernel
theorem dX2_holesAt_1 : decode cX2_holesAt 1 = .ok (.invokestatic 66, 3) := by decide +kernel
theorem dX2_holesAt_4 : decode cX2_holesAt 4 = .ok (.ifCond .eq 12, 3) := by decide +kernel
theorem dX2_holesAt_7 : decode cX2_holesAt 7 = .ok (.aload_n 0, 1) := by decide +kernel
theorem dX2_holesAt_8 : decode cX2_holesAt 8 = .ok (.getfield 9, 3) := by decide +kernel
theorem dX2_holesAt_11 : decode cX2_holesAt 11 = .ok (.iload_n 1, 1) := by decide +kernel
theorem dX2_holesAt_12 : decode cX2_holesAt 12 = .ok (.iaload, 1) := by decide +kernel
theorem dX2_holesAt_13 : decode cX2_holesAt 13 = .ok (.goto 4, 3) := by decide +kernel
theorem dX2_holesAt_16 : decode cX2_holesAt 16 = .ok (.iconst 0, 1) := by decide +kernel
theorem dX2_holesAt_17 : decode cX2_holesAt 17 = .ok (.ireturn, 1) := by decide +kernel
set_option maxRecDepth 20000 in
theorem ggX2_heardAt_X4_isStep : GoodIn wsX2_heardAt wsX4_isStep := goodIn_r _ [4, 5, 6, 3, 7] (by decide +kernel) (by decide +kernel)
set_option maxRecDepth 20000 in
theorem gX2_heardAt_X4_isStep_n66 : GoodIn wsX2_heardAt (wsX4_isStep) := ggX2_heardAt_X4_isStep
theorem dX2_heardAt_0 : decode cX2_heardAt 0 = .ok (.iload_n 1, 1) := by decide +kernel
theorem dX2_heardAt_1 : decode cX2_heardAt 1 = .ok (.invokestatic 66, 3) := by decide +kernel
theorem dX2_heardAt_4 : decode cX2_heardAt 4 = .ok (.ifCond .eq 12, 3) := by decide +kernel
theorem dX2_heardAt_7 : decode cX2_heardAt 7 = .ok (.aload_n 0, 1) := by decide +kernel
theorem dX2_heardAt_8 : decode cX2_heardAt 8 = .ok (.getfield 15, 3) := by decide +kernel
theorem dX2_heardAt_11 : decode cX2_heardAt 11 = .ok (.iload_n 1, 1) := by decide +kernel
theorem dX2_heardAt_12 : decode cX2_heardAt 12 = .ok (.iaload, 1) := by decide +kernel
theorem dX2_heardAt_13 : decode cX2_heardAt 13 = .ok (.goto 4, 3) := by decide +kernel
theorem dX2_heardAt_16 : decode cX2_heardAt 16 = .ok (.iconst 0, 1) := by decide +kernel
theorem dX2_heardAt_17 : decode cX2_heardAt 17 = .ok (.ireturn, 1) := by decide +kernel
set_option maxRecDepth 20000 in
theorem ggX2_isHeard_X4_isTrack : GoodIn wsX2_isHeard wsX4_isTrack := goodIn_r _ [3, 4, 5, 2, 6] (by decide +kernel) (by decide +kernel)
set_option maxRecDepth 20000 in
theorem gX2_isHeard_X4_isTrack_n63 : GoodIn wsX2_isHeard (wsX4_isTrack) := ggX2_isHeard_X4_isTrack
set_option maxRecDepth 20000 in
theorem ggX2_isHeard_X2_heardAt : GoodIn wsX2_isHeard wsX2_heardAt := goodIn_r _ [11, 12, 13, 2, 14, 4, 5, 6, 15, 16, 17] (by decide +kernel) (by decide +kernel)
set_option maxRecDepth 20000 in
theorem gX2_isHeard_X2_heardAt : GoodIn wsX2_isHeard (wsV RX2 78 RX2 yX2_heardAt wsX2_heardAt) := goodIn_app (goodIn_of _ (by decide +kernel)) ggX2_isHeard_X2_heardAt
theorem dX2_isHeard_0 : decode cX2_isHeard 0 = .ok (.iload_n 1, 1) := by decide +kernel
theorem dX2_isHeard_1 : decode cX2_isHeard 1 = .ok (.invokestatic 63, 3) := by decide +kernel
theorem dX2_isHeard_4 : decode cX2_isHeard 4 = .ok (.ifCond .eq 20, 3) := by decide +kernel
theorem dX2_isHeard_7 : decode cX2_isHeard 7 = .ok (.aload_n 0, 1) := by decide +kernel
theorem dX2_isHeard_8 : decode cX2_isHeard 8 = .ok (.iload_n 2, 1) := by decide +kernel
theorem dX2_isHeard_9 : decode cX2_isHeard 9 = .ok (.invokevirtual 78, 3) := by decide +kernel
theorem dX2_isHeard_12 : decode cX2_isHeard 12 = .ok (.iload_n 1, 1) := by decide +kernel
theorem dX2_isHeard_13 : decode cX2_isHeard 13 = .ok (.ishr, 1) := by decide +kernel
theorem dX2_isHeard_14 : decode cX2_isHeard 14 = .ok (.iconst 1, 1) := by decide +kernel
theorem dX2_isHeard_15 : decode cX2_isHeard 15 = .ok (.iand, 1) := by decide +kernel
theorem dX2_isHeard_16 : decode cX2_isHeard 16 = .ok (.iconst 1, 1) := by decide +kernel
theorem dX2_isHeard_17 : decode cX2_isHeard 17 = .ok (.if_icmp .ne 7, 3) := by decide +kernel
theorem dX2_isHeard_20 : decode cX2_isHeard 20 = .ok (.iconst 1, 1) := by decide +kernel
theorem dX2_isHeard_21 : decode cX2_isHeard 21 = .ok (.goto 4, 3) := by decide +kernel
theorem dX2_isHeard_24 : decode cX2_isHeard 24 = .ok (.iconst 0, 1) := by decide +kernel
theorem dX2_isHeard_25 : decode cX2_isHeard 25 = .ok (.ireturn, 1) := by decide +kernel
set_option maxRecDepth 20000 in
theorem ggX2_sideBySide_X2_holesAt : GoodIn wsX2_sideBySide wsX2_holesAt := goodIn_r _ [9, 10, 11, 12, 13, 14, 15, 16, 17, 18, 19] (by decide +kernel) (by decide +kernel)
set_option maxRecDepth 20000 in
theorem gX2_sideBySide_X2_holesAt : GoodIn wsX2_sideBySide (wsV RX2 75 RX2 yX2_holesAt wsX2_holesAt) := goodIn_app (goodIn_of _ (by decide +kernel)) ggX2_sideBySide_X2_holesAt
theorem dX2_sideBySide_0 : decode cX2_sideBySide 0 = .ok (.aload_n 0, 1) := by decide +kernel
theorem dX2_sideBySide_1 : decode cX2_sideBySide 1 = .ok (.iload_n 1, 1) := by decide +kernel
theorem dX2_sideBySide_2 : decode cX2_sideBySide 2 = .ok (.invokevirtual 75, 3) := by decide +kernel
theorem dX2_sideBySide_5 : decode cX2_sideBySide 5 = .ok (.istore_n 2, 1) := by decide +kernel
theorem dX2_sideBySide_6 : decode cX2_sideBySide 6 = .ok (.iconst 0, 1) := by decide +kernel
theorem dX2_sideBySide_7 : decode cX2_sideBySide 7 = .ok (.istore_n 3, 1) := by decide +kernel
theorem dX2_sideBySide_8 : decode cX2_sideBySide 8 = .ok (.iconst 0, 1) := by decide +kernel
theorem dX2_sideBySide_9 : decode cX2_sideBySide 9 = .ok (.istore 4, 2) := by decide +kernel
theorem dX2_sideBySide_11 : decode cX2_sideBySide 11 = .ok (.iconst 0, 1) := by decide +kernel
theorem dX2_sideBySide_12 : decode cX2_sideBySide 12 = .ok (.istore 5, 2) := by decide +kernel
theorem dX2_sideBySide_14 : decode cX2_sideBySide 14 = .ok (.iload 5, 2) := by decide +kernel
theorem dX2_sideBySide_16 : decode cX2_sideBySide 16 = .ok (.bipush 12, 2) := by decide +kernel
theorem dX2_sideBySide_18 : decode cX2_sideBySide 18 = .ok (.if_icmp .ge 36, 3) := by decide +kernel
theorem dX2_sideBySide_21 : decode cX2_sideBySide 21 = .ok (.iload_n 2, 1) := by decide +kernel
theorem dX2_sideBySide_22 : decode cX2_sideBySide 22 = .ok (.iload 5, 2) := by decide +kernel
theorem dX2_sideBySide_24 : decode cX2_sideBySide 24 = .ok (.ishr, 1) := by decide +kernel
theorem dX2_sideBySide_25 : decode cX2_sideBySide 25 = .ok (.iconst 1, 1) := by decide +kernel
theorem dX2_sideBySide_26 : decode cX2_sideBySide 26 = .ok (.iand, 1) := by decide +kernel
theorem dX2_sideBySide_27 : decode cX2_sideBySide 27 = .ok (.iconst 1, 1) := by decide +kernel
theorem dX2_sideBySide_28 : decode cX2_sideBySide 28 = .ok (.if_icmp .ne 10, 3) := by decide +kernel
theorem dX2_sideBySide_31 : decode cX2_sideBySide 31 = .ok (.iload 4, 2) := by decide +kernel
theorem dX2_sideBySide_33 : decode cX2_sideBySide 33 = .ok (.iconst 1, 1) := by decide +kernel
theorem dX2_sideBySide_34 : decode cX2_sideBySide 34 = .ok (.iadd, 1) := by decide +kernel
theorem dX2_sideBySide_35 : decode cX2_sideBySide 35 = .ok (.goto 4, 3) := by decide +kernel
theorem dX2_sideBySide_38 : decode cX2_sideBySide 38 = .ok (.iconst 0, 1) := by decide +kernel
theorem dX2_sideBySide_39 : decode cX2_sideBySide 39 = .ok (.istore 4, 2) := by decide +kernel
theorem dX2_sideBySide_41 : decode cX2_sideBySide 41 = .ok (.iload_n 3, 1) := by decide +kernel
theorem dX2_sideBySide_42 : decode cX2_sideBySide 42 = .ok (.iload 4, 2) := by decide +kernel
theorem dX2_sideBySide_44 : decode cX2_sideBySide 44 = .ok (.invokestatic 69, 3) := by decide +kernel
theorem dX2_sideBySide_47 : decode cX2_sideBySide 47 = .ok (.istore_n 3, 1) := by decide +kernel
theorem dX2_sideBySide_48 : decode cX2_sideBySide 48 = .ok (.iinc 5 1, 3) := by decide +kernel
theorem dX2_sideBySide_51 : decode cX2_sideBySide 51 = .ok (.goto (-37), 3) := by decide +kernel
theorem dX2_sideBySide_54 : decode cX2_sideBySide 54 = .ok (.iload_n 3, 1) := by decide +kernel
theorem dX2_sideBySide_55 : decode cX2_sideBySide 55 = .ok (.ireturn, 1) := by decide +kernel
set_option maxRecDepth 20000 in
theorem ggX2_isWeak_X2_sideBySide : GoodIn wsX2_isWeak wsX2_sideBySide := goodIn_r _ [6, 7, 8, 9, 10, 11, 12, 13, 5, 14, 15, 16, 17, 18, 19, 20, 21, 22, 23, 24] (by decide +kernel) (by decide +kernel)
set_option maxRecDepth 20000 in
theorem gX2_isWeak_X2_sideBySide : GoodIn wsX2_isWeak (wsV RX2 81 RX2 yX2_sideBySide wsX2_sideBySide) := goodIn_app (goodIn_of _ (by decide +kernel)) ggX2_isWeak_X2_sideBySide
theorem dX2_isWeak_0 : decode cX2_isWeak 0 = .ok (.aload_n 0, 1) := by decide +kernel
theorem dX2_isWeak_1 : decode cX2_isWeak 1 = .ok (.iload_n 1, 1) := by decide +kernel
theorem dX2_isWeak_2 : decode cX2_isWeak 2 = .ok (.invokevirtual 81, 3) := by decide +kernel
theorem dX2_isWeak_5 : decode cX2_isWeak 5 = .ok (.aload_n 0, 1) := by decide +kernel
theorem dX2_isWeak_6 : decode cX2_isWeak 6 = .ok (.getfield 24, 3) := by decide +kernel
theorem dX2_isWeak_9 : decode cX2_isWeak 9 = .ok (.if_icmp .lt 7, 3) := by decide +kernel
theorem dX2_isWeak_12 : decode cX2_isWeak 12 = .ok (.iconst 1, 1) := by decide +kernel
theorem dX2_isWeak_13 : decode cX2_isWeak 13 = .ok (.goto 4, 3) := by decide +kernel
theorem dX2_isWeak_16 : decode cX2_isWeak 16 = .ok (.iconst 0, 1) := by decide +kernel
theorem dX2_isWeak_17 : decode cX2_isWeak 17 = .ok (.ireturn, 1) := by decide +kernel
set_option maxRecDepth 20000 in
theorem ggX2_weakSteps_X2_isWeak : GoodIn wsX2_weakSteps wsX2_isWeak := goodIn_r _ [5, 6, 7, 8, 9, 4, 10, 11, 12, 13, 14, 15, 16, 17, 18, 19, 20, 21, 22, 23, 24, 25, 26, 27, 28] (by decide +kernel) (by decide +kernel)
set_option maxRecDepth 20000 in
theorem gX2_weakSteps_X2_isWeak : GoodIn wsX2_weakSteps (wsV RX2 84 RX2 yX2_isWeak wsX2_isWeak) := goodIn_app (goodIn_of _ (by decide +kernel)) ggX2_weakSteps_X2_isWeak
theorem dX2_weakSteps_0 : decode cX2_weakSteps 0 = .ok (.iconst 0, 1) := by decide +kernel
theorem dX2_weakSteps_1 : decode cX2_weakSteps 1 = .ok (.istore_n 1, 1) := by decide +kernel
theorem dX2_weakSteps_2 : decode cX2_weakSteps 2 = .ok (.iconst 0, 1) := by decide +kernel
theorem dX2_weakSteps_3 : decode cX2_weakSteps 3 = .ok (.istore_n 2, 1) := by decide +kernel
theorem dX2_weakSteps_4 : decode cX2_weakSteps 4 = .ok (.iload_n 2, 1) := by decide +kernel
theorem dX2_weakSteps_5 : decode cX2_weakSteps 5 = .ok (.bipush 100, 2) := by decide +kernel
theorem dX2_weakSteps_7 : decode cX2_weakSteps 7 = .ok (.if_icmp .ge 20, 3) := by decide +kernel
theorem dX2_weakSteps_10 : decode cX2_weakSteps 10 = .ok (.aload_n 0, 1) := by decide +kernel
theorem dX2_weakSteps_11 : decode cX2_weakSteps 11 = .ok (.iload_n 2, 1) := by decide +kernel
theorem dX2_weakSteps_12 : decode cX2_weakSteps 12 = .ok (.invokevirtual 84, 3) := by decide +kernel
theorem dX2_weakSteps_15 : decode cX2_weakSteps 15 = .ok (.ifCond .eq 6, 3) := by decide +kernel
theorem dX2_weakSteps_18 : decode cX2_weakSteps 18 = .ok (.iinc 1 1, 3) := by decide +kernel
theorem dX2_weakSteps_21 : decode cX2_weakSteps 21 = .ok (.iinc 2 1, 3) := by decide +kernel
theorem dX2_weakSteps_24 : decode cX2_weakSteps 24 = .ok (.goto (-20), 3) := by decide +kernel
theorem dX2_weakSteps_27 : decode cX2_weakSteps 27 = .ok (.iload_n 1, 1) := by decide +kernel
theorem dX2_weakSteps_28 : decode cX2_weakSteps 28 = .ok (.ireturn, 1) := by decide +kernel
set_option maxRecDepth 20000 in
theorem ggX2_firstWeakStep_X2_isWeak : GoodIn wsX2_firstWeakStep wsX2_isWeak := goodIn_r _ [5, 6, 7, 8, 9, 4, 10, 11, 12, 13, 14, 15, 16, 17, 18, 19, 20, 21, 22, 23, 24, 25, 26, 27, 28] (by decide +kernel) (by decide +kernel)
set_option maxRecDepth 20000 in
theorem gX2_firstWeakStep_X2_isWeak : GoodIn wsX2_firstWeakStep (wsV RX2 84 RX2 yX2_isWeak wsX2_isWeak) := goodIn_app (goodIn_of _ (by decide +kernel)) ggX2_firstWeakStep_X2_isWeak
theorem dX2_firstWeakStep_0 : decode cX2_firstWeakStep 0 = .ok (.iconst 0, 1) := by decide +kernel
theorem dX2_firstWeakStep_1 : decode cX2_firstWeakStep 1 = .ok (.istore_n 1, 1) := by decide +kernel
theorem dX2_firstWeakStep_2 : decode cX2_firstWeakStep 2 = .ok (.iload_n 1, 1) := by decide +kernel
theorem dX2_firstWeakStep_3 : decode cX2_firstWeakStep 3 = .ok (.bipush 100, 2) := by decide +kernel
theorem dX2_firstWeakStep_5 : decode cX2_firstWeakStep 5 = .ok (.if_icmp .ge 19, 3) := by decide +kernel
theorem dX2_firstWeakStep_8 : decode cX2_firstWeakStep 8 = .ok (.aload_n 0, 1) := by decide +kernel
theorem dX2_firstWeakStep_9 : decode cX2_firstWeakStep 9 = .ok (.iload_n 1, 1) := by decide +kernel
theorem dX2_firstWeakStep_10 : decode cX2_firstWeakStep 10 = .ok (.invokevirtual 84, 3) := by decide +kernel
theorem dX2_firstWeakStep_13 : decode cX2_firstWeakStep 13 = .ok (.ifCond .eq 5, 3) := by decide +kernel
theorem dX2_firstWeakStep_16 : decode cX2_firstWeakStep 16 = .ok (.iload_n 1, 1) := by decide +kernel
theorem dX2_firstWeakStep_17 : decode cX2_firstWeakStep 17 = .ok (.ireturn, 1) := by decide +kernel
theorem dX2_firstWeakStep_18 : decode cX2_firstWeakStep 18 = .ok (.iinc 1 1, 3) := by decide +kernel
theorem dX2_firstWeakStep_21 : decode cX2_firstWeakStep 21 = .ok (.goto (-19), 3) := by decide +kernel
theorem dX2_firstWeakStep_24 : decode cX2_firstWeakStep 24 = .ok (.iconst (-1), 1) := by decide +kernel
theorem dX2_firstWeakStep_25 : decode cX2_firstWeakStep 25 = .ok (.ireturn, 1) := by decide +kernel
set_option maxRecDepth 20000 in
theorem ggX2_allHoles_X2_holesAt : GoodIn wsX2_allHoles wsX2_holesAt := goodIn_r _ [5, 6, 7, 8, 9, 10, 11, 12, 20, 21, 22] (by decide +kernel) (by decide +kernel)
set_option maxRecDepth 20000 in
theorem gX2_allHoles_X2_holesAt : GoodIn wsX2_allHoles (wsV RX2 75 RX2 yX2_holesAt wsX2_holesAt) := goodIn_app (goodIn_of _ (by decide +kernel)) ggX2_allHoles_X2_holesAt
set_option maxRecDepth 20000 in
theorem ggX2_allHoles_J6_bitCount_0f7a4 : GoodIn wsX2_allHoles wsJ6_bitCount_0f7a4 := goodIn_r _ [16, 17, 18, 19] (by decide +kernel) (by decide +kernel)
set_option maxRecDepth 20000 in
theorem gX2_allHoles_J6_bitCount_0f7a4 : GoodIn wsX2_allHoles (va_wsS RX2 87 yJ6_bitCount_0f7a4 wsJ6_bitCount_0f7a4) := goodIn_app (goodIn_of _ (by decide +kernel)) ggX2_allHoles_J6_bitCount_0f7a4
theorem dX2_allHoles_0 : decode cX2_allHoles 0 = .ok (.iconst 0, 1) := by decide +kernel
theorem dX2_allHoles_1 : decode cX2_allHoles 1 = .ok (.istore_n 1, 1) := by decide +kernel
theorem dX2_allHoles_2 : decode cX2_allHoles 2 = .ok (.iconst 0, 1) := by decide +kernel
theorem dX2_allHoles_3 : decode cX2_allHoles 3 = .ok (.istore_n 2, 1) := by decide +kernel
theorem dX2_allHoles_4 : decode cX2_allHoles 4 = .ok (.iload_n 2, 1) := by decide +kernel
theorem dX2_allHoles_5 : decode cX2_allHoles 5 = .ok (.bipush 100, 2) := by decide +kernel
theorem dX2_allHoles_7 : decode cX2_allHoles 7 = .ok (.if_icmp .ge 20, 3) := by decide +kernel
theorem dX2_allHoles_10 : decode cX2_allHoles 10 = .ok (.iload_n 1, 1) := by decide +kernel
theorem dX2_allHoles_11 : decode cX2_allHoles 11 = .ok (.aload_n 0, 1) := by decide +kernel
theorem dX2_allHoles_12 : decode cX2_allHoles 12 = .ok (.iload_n 2, 1) := by decide +kernel
theorem dX2_allHoles_13 : decode cX2_allHoles 13 = .ok (.invokevirtual 75, 3) := by decide +kernel
theorem dX2_allHoles_16 : decode cX2_allHoles 16 = .ok (.invokestatic 87, 3) := by decide +kernel
theorem dX2_allHoles_19 : decode cX2_allHoles 19 = .ok (.iadd, 1) := by decide +kernel
theorem dX2_allHoles_20 : decode cX2_allHoles 20 = .ok (.istore_n 1, 1) := by decide +kernel
theorem dX2_allHoles_21 : decode cX2_allHoles 21 = .ok (.iinc 2 1, 3) := by decide +kernel
theorem dX2_allHoles_24 : decode cX2_allHoles 24 = .ok (.goto (-20), 3) := by decide +kernel
theorem dX2_allHoles_27 : decode cX2_allHoles 27 = .ok (.iload_n 1, 1) := by decide +kernel
theorem dX2_allHoles_28 : decode cX2_allHoles 28 = .ok (.ireturn, 1) := by decide +kernel
set_option maxRecDepth 20000 in
theorem ggX2_startsSound_X2_isHeard : GoodIn wsX2_startsSound wsX2_isHeard := goodIn_r _ [5, 6, 7, 8, 9, 10, 11, 12, 13, 14, 4, 15, 16, 17, 18, 19, 20, 21] (by decide +kernel) (by decide +kernel)
set_option maxRecDepth 20000 in
theorem gX2_startsSound_X2_isHeard : GoodIn wsX2_startsSound (wsV RX2 92 RX2 yX2_isHeard wsX2_isHeard) := goodIn_app (goodIn_of _ (by decide +kernel)) ggX2_startsSound_X2_isHeard
theorem dX2_startsSound_0 : decode cX2_startsSound 0 = .ok (.aload_n 0, 1) := by decide +kernel
theorem dX2_startsSound_1 : decode cX2_startsSound 1 = .ok (.iload_n 1, 1) := by decide +kernel
theorem dX2_startsSound_2 : decode cX2_startsSound 2 = .ok (.iload_n 2, 1) := by decide +kernel
theorem dX2_startsSound_3 : decode cX2_startsSound 3 = .ok (.invokevirtual 92, 3) := by decide +kernel
theorem dX2_startsSound_6 : decode cX2_startsSound 6 = .ok (.ifCond .eq 18, 3) := by decide +kernel
theorem dX2_startsSound_9 : decode cX2_startsSound 9 = .ok (.aload_n 0, 1) := by decide +kernel
theorem dX2_startsSound_10 : decode cX2_startsSound 10 = .ok (.iload_n 1, 1) := by decide +kernel
theorem dX2_startsSound_11 : decode cX2_startsSound 11 = .ok (.iload_n 2, 1) := by decide +kernel
theorem dX2_startsSound_12 : decode cX2_startsSound 12 = .ok (.iconst 1, 1) := by decide +kernel
theorem dX2_startsSound_13 : decode cX2_startsSound 13 = .ok (.isub, 1) := by decide +kernel
theorem dX2_startsSound_14 : decode cX2_startsSound 14 = .ok (.invokevirtual 92, 3) := by decide +kernel
theorem dX2_startsSound_17 : decode cX2_startsSound 17 = .ok (.ifCond .ne 7, 3) := by decide +kernel
theorem dX2_startsSound_20 : decode cX2_startsSound 20 = .ok (.iconst 1, 1) := by decide +kernel
theorem dX2_startsSound_21 : decode cX2_startsSound 21 = .ok (.goto 4, 3) := by decide +kernel
theorem dX2_startsSound_24 : decode cX2_startsSound 24 = .ok (.iconst 0, 1) := by decide +kernel
theorem dX2_startsSound_25 : decode cX2_startsSound 25 = .ok (.ireturn, 1) := by decide +kernel
set_option maxRecDepth 20000 in
theorem ggX2_sounds_X2_startsSound : GoodIn wsX2_sounds wsX2_startsSound := goodIn_r _ [5, 6, 7, 8, 4, 9, 10, 11, 12, 13, 14, 15, 16, 17, 18, 19, 20, 21, 22, 23, 24, 25] (by decide +kernel) (by decide +kernel)
set_option maxRecDepth 20000 in
theorem gX2_sounds_X2_startsSound : GoodIn wsX2_sounds (wsV RX2 95 RX2 yX2_startsSound wsX2_startsSound) := goodIn_app (goodIn_of _ (by decide +kernel)) ggX2_sounds_X2_startsSound
theorem dX2_sounds_0 : decode cX2_sounds 0 = .ok (.iconst 0, 1) := by decide +kernel
theorem dX2_sounds_1 : decode cX2_sounds 1 = .ok (.istore_n 2, 1) := by decide +kernel
theorem dX2_sounds_2 : decode cX2_sounds 2 = .ok (.iconst 0, 1) := by decide +kernel
theorem dX2_sounds_3 : decode cX2_sounds 3 = .ok (.istore_n 3, 1) := by decide +kernel
theorem dX2_sounds_4 : decode cX2_sounds 4 = .ok (.iload_n 3, 1) := by decide +kernel
theorem dX2_sounds_5 : decode cX2_sounds 5 = .ok (.bipush 100, 2) := by decide +kernel
theorem dX2_sounds_7 : decode cX2_sounds 7 = .ok (.if_icmp .ge 21, 3) := by decide +kernel
theorem dX2_sounds_10 : decode cX2_sounds 10 = .ok (.aload_n 0, 1) := by decide +kernel
theorem dX2_sounds_11 : decode cX2_sounds 11 = .ok (.iload_n 1, 1) := by decide +kernel
theorem dX2_sounds_12 : decode cX2_sounds 12 = .ok (.iload_n 3, 1) := by decide +kernel
theorem dX2_sounds_13 : decode cX2_sounds 13 = .ok (.invokevirtual 95, 3) := by decide +kernel
theorem dX2_sounds_16 : decode cX2_sounds 16 = .ok (.ifCond .eq 6, 3) := by decide +kernel
theorem dX2_sounds_19 : decode cX2_sounds 19 = .ok (.iinc 2 1, 3) := by decide +kernel
theorem dX2_sounds_22 : decode cX2_sounds 22 = .ok (.iinc 3 1, 3) := by decide +kernel
theorem dX2_sounds_25 : decode cX2_sounds 25 = .ok (.goto (-21), 3) := by decide +kernel
theorem dX2_sounds_28 : decode cX2_sounds 28 = .ok (.iload_n 2, 1) := by decide +kernel
theorem dX2_sounds_29 : decode cX2_sounds 29 = .ok (.ireturn, 1) := by decide +kernel
set_option maxRecDepth 20000 in
theorem ggX2_soundStart_X2_startsSound : GoodIn wsX2_soundStart wsX2_startsSound := goodIn_r _ [5, 6, 7, 8, 4, 9, 10, 11, 12, 13, 14, 15, 16, 17, 18, 19, 20, 21, 22, 23, 24, 25] (by decide +kernel) (by decide +kernel)
set_option maxRecDepth 20000 in
theorem gX2_soundStart_X2_startsSound : GoodIn wsX2_soundStart (wsV RX2 95 RX2 yX2_startsSound wsX2_startsSound) := goodIn_app (goodIn_of _ (by decide +kernel)) ggX2_soundStart_X2_startsSound
theorem dX2_soundStart_0 : decode cX2_soundStart 0 = .ok (.iconst 0, 1) := by decide +kernel
theorem dX2_soundStart_1 : decode cX2_soundStart 1 = .ok (.istore_n 3, 1) := by decide +kernel
theorem dX2_soundStart_2 : decode cX2_soundStart 2 = .ok (.iconst 0, 1) := by decide +kernel
theorem dX2_soundStart_3 : decode cX2_soundStart 3 = .ok (.istore 4, 2) := by decide +kernel
theorem dX2_soundStart_5 : decode cX2_soundStart 5 = .ok (.iload 4, 2) := by decide +kernel
theorem dX2_soundStart_7 : decode cX2_soundStart 7 = .ok (.bipush 100, 2) := by decide +kernel
theorem dX2_soundStart_9 : decode cX2_soundStart 9 = .ok (.if_icmp .ge 30, 3) := by decide +kernel
theorem dX2_soundStart_12 : decode cX2_soundStart 12 = .ok (.aload_n 0, 1) := by decide +kernel
theorem dX2_soundStart_13 : decode cX2_soundStart 13 = .ok (.iload_n 1, 1) := by decide +kernel
theorem dX2_soundStart_14 : decode cX2_soundStart 14 = .ok (.iload 4, 2) := by decide +kernel
theorem dX2_soundStart_16 : decode cX2_soundStart 16 = .ok (.invokevirtual 95, 3) := by decide +kernel
theorem dX2_soundStart_19 : decode cX2_soundStart 19 = .ok (.ifCond .eq 14, 3) := by decide +kernel
theorem dX2_soundStart_22 : decode cX2_soundStart 22 = .ok (.iload_n 3, 1) := by decide +kernel
theorem dX2_soundStart_23 : decode cX2_soundStart 23 = .ok (.iload_n 2, 1) := by decide +kernel
theorem dX2_soundStart_24 : decode cX2_soundStart 24 = .ok (.if_icmp .ne 6, 3) := by decide +kernel
theorem dX2_soundStart_27 : decode cX2_soundStart 27 = .ok (.iload 4, 2) := by decide +kernel
theorem dX2_soundStart_29 : decode cX2_soundStart 29 = .ok (.ireturn, 1) := by decide +kernel
theorem dX2_soundStart_30 : decode cX2_soundStart 30 = .ok (.iinc 3 1, 3) := by decide +kernel
theorem dX2_soundStart_33 : decode cX2_soundStart 33 = .ok (.iinc 4 1, 3) := by decide +kernel
theorem dX2_soundStart_36 : decode cX2_soundStart 36 = .ok (.goto (-31), 3) := by decide +kernel
theorem dX2_soundStart_39 : decode cX2_soundStart 39 = .ok (.iconst (-1), 1) := by decide +kernel
theorem dX2_soundStart_40 : decode cX2_soundStart 40 = .ok (.ireturn, 1) := by decide +kernel
set_option maxRecDepth 20000 in
theorem ggX2_soundEnd_X2_isHeard : GoodIn wsX2_soundEnd wsX2_isHeard := goodIn_r _ [5, 6, 7, 8, 9, 10, 11, 12, 13, 14, 4, 15, 16, 17, 18, 19, 20, 21] (by decide +kernel) (by decide +kernel)
set_option maxRecDepth 20000 in
theorem gX2_soundEnd_X2_isHeard : GoodIn wsX2_soundEnd (wsV RX2 92 RX2 yX2_isHeard wsX2_isHeard) := goodIn_app (goodIn_of _ (by decide +kernel)) ggX2_soundEnd_X2_isHeard
theorem dX2_soundEnd_0 : decode cX2_soundEnd 0 = .ok (.iload_n 2, 1) := by decide +kernel
theorem dX2_soundEnd_1 : decode cX2_soundEnd 1 = .ok (.istore_n 3, 1) := by decide +kernel
theorem dX2_soundEnd_2 : decode cX2_soundEnd 2 = .ok (.iload_n 2, 1) := by decide +kernel
theorem dX2_soundEnd_3 : decode cX2_soundEnd 3 = .ok (.istore 4, 2) := by decide +kernel
theorem dX2_soundEnd_5 : decode cX2_soundEnd 5 = .ok (.iload 4, 2) := by decide +kernel
theorem dX2_soundEnd_7 : decode cX2_soundEnd 7 = .ok (.bipush 100, 2) := by decide +kernel
theorem dX2_soundEnd_9 : decode cX2_soundEnd 9 = .ok (.if_icmp .ge 22, 3) := by decide +kernel
theorem dX2_soundEnd_12 : decode cX2_soundEnd 12 = .ok (.aload_n 0, 1) := by decide +kernel
theorem dX2_soundEnd_13 : decode cX2_soundEnd 13 = .ok (.iload_n 1, 1) := by decide +kernel
theorem dX2_soundEnd_14 : decode cX2_soundEnd 14 = .ok (.iload 4, 2) := by decide +kernel
theorem dX2_soundEnd_16 : decode cX2_soundEnd 16 = .ok (.invokevirtual 92, 3) := by decide +kernel
theorem dX2_soundEnd_19 : decode cX2_soundEnd 19 = .ok (.ifCond .eq 12, 3) := by decide +kernel
theorem dX2_soundEnd_22 : decode cX2_soundEnd 22 = .ok (.iload 4, 2) := by decide +kernel
theorem dX2_soundEnd_24 : decode cX2_soundEnd 24 = .ok (.istore_n 3, 1) := by decide +kernel
theorem dX2_soundEnd_25 : decode cX2_soundEnd 25 = .ok (.iinc 4 1, 3) := by decide +kernel
theorem dX2_soundEnd_28 : decode cX2_soundEnd 28 = .ok (.goto (-23), 3) := by decide +kernel
theorem dX2_soundEnd_31 : decode cX2_soundEnd 31 = .ok (.iload_n 3, 1) := by decide +kernel
theorem dX2_soundEnd_32 : decode cX2_soundEnd 32 = .ok (.ireturn, 1) := by decide +kernel
theorem dX3_init_0 : decode cX3_init 0 = .ok (.aload_n 0, 1) := by decide +kernel
theorem dX3_init_1 : decode cX3_init 1 = .ok (.invokespecial 3, 3) := by decide +kernel
theorem dX3_init_4 : decode cX3_init 4 = .ok (.aload_n 0, 1) := by decide +kernel
theorem dX3_init_5 : decode cX3_init 5 = .ok (.iconst 4, 1) := by decide +kernel
theorem dX3_init_6 : decode cX3_init 6 = .ok (.newarray .int, 2) := by decide +kernel
theorem dX3_init_8 : decode cX3_init 8 = .ok (.putfield 9, 3) := by decide +kernel
theorem dX3_init_11 : decode cX3_init 11 = .ok (.aload_n 0, 1) := by decide +kernel
theorem dX3_init_12 : decode cX3_init 12 = .ok (.bipush 40, 2) := by decide +kernel
theorem dX3_init_14 : decode cX3_init 14 = .ok (.newarray .int, 2) := by decide +kernel
theorem dX3_init_16 : decode cX3_init 16 = .ok (.putfield 15, 3) := by decide +kernel
theorem dX3_init_19 : decode cX3_init 19 = .ok (.aload_n 0, 1) := by decide +kernel
theorem dX3_init_20 : decode cX3_init 20 = .ok (.bipush 40, 2) := by decide +kernel
theorem dX3_init_22 : decode cX3_init 22 = .ok (.newarray .int, 2) := by decide +kernel
theorem dX3_init_24 : decode cX3_init 24 = .ok (.putfield 18, 3) := by decide +kernel
theorem dX3_init_27 : decode cX3_init 27 = .ok (.aload_n 0, 1) := by decide +kernel
theorem dX3_init_28 : decode cX3_init 28 = .ok (.bipush 40, 2) := by decide +kernel
theorem dX3_init_30 : decode cX3_init 30 = .ok (.newarray .int, 2) := by decide +kernel
theorem dX3_init_32 : decode cX3_init 32 = .ok (.putfield 21, 3) := by decide +kernel
theorem dX3_init_35 : decode cX3_init 35 = .ok (.aload_n 0, 1) := by decide +kernel
theorem dX3_init_36 : decode cX3_init 36 = .ok (.bipush 40, 2) := by decide +kernel
theorem dX3_init_38 : decode cX3_init 38 = .ok (.newarray .int, 2) := by decide +kernel
theorem dX3_init_40 : decode cX3_init 40 = .ok (.putfield 24, 3) := by decide +kernel
theorem dX3_init_43 : decode cX3_init 43 = .ok (.aload_n 0, 1) := by decide +kernel
theorem dX3_init_44 : decode cX3_init 44 = .ok (.bipush 40, 2) := by decide +kernel
theorem dX3_init_46 : decode cX3_init 46 = .ok (.newarray .boolean, 2) := by decide +kernel
theorem dX3_init_48 : decode cX3_init 48 = .ok (.putfield 27, 3) := by decide +kernel
theorem dX3_init_51 : decode cX3_init 51 = .ok (.getstatic 31, 3) := by decide +kernel
theorem dX3_init_54 : decode cX3_init 54 = .ok (.iconst 0, 1) := by decide +kernel
theorem dX3_init_55 : decode cX3_init 55 = .ok (.aload_n 0, 1) := by decide +kernel
theorem dX3_init_56 : decode cX3_init 56 = .ok (.getfield 9, 3) := by decide +kernel
theorem dX3_init_59 : decode cX3_init 59 = .ok (.iconst 0, 1) := by decide +kernel
theorem dX3_init_60 : decode cX3_init 60 = .ok (.iconst 4, 1) := by decide +kernel
theorem dX3_init_61 : decode cX3_init 61 = .ok (.invokestatic 34, 3) := by decide +kernel
theorem dX3_init_64 : decode cX3_init 64 = .ok (.return_, 1) := by decide +kernel
theorem dX3_takeSettings_0 : decode cX3_takeSettings 0 = .ok (.aload_n 1, 1) := by decide +kernel
theorem dX3_takeSettings_1 : decode cX3_takeSettings 1 = .ok (.getfield 9, 3) := by decide +kernel
theorem dX3_takeSettings_4 : decode cX3_takeSettings 4 = .ok (.iconst 0, 1) := by decide +kernel
theorem dX3_takeSettings_5 : decode cX3_takeSettings 5 = .ok (.aload_n 0, 1) := by decide +kernel
theorem dX3_takeSettings_6 : decode cX3_takeSettings 6 = .ok (.getfield 9, 3) := by decide +kernel
theorem dX3_takeSettings_9 : decode cX3_takeSettings 9 = .ok (.iconst 0, 1) := by decide +kernel
theorem dX3_takeSettings_10 : decode cX3_takeSettings 10 = .ok (.iconst 4, 1) := by decide +kernel
theorem dX3_takeSettings_11 : decode cX3_takeSettings 11 = .ok (.invokestatic 34, 3) := by decide +kernel
theorem dX3_takeSettings_14 : decode cX3_takeSettings 14 = .ok (.return_, 1) := by decide +kernel
set_option maxRecDepth 20000 in
theorem ggX3_become_X3_takeSettings : GoodIn wsX3_become wsX3_takeSettings := goodIn_r _ [11, 12, 13, 14, 15, 16, 17, 18, 19, 20, 21, 22, 23] (by decide +kernel) (by decide +kernel)
set_option maxRecDepth 20000 in
theorem gX3_become_X3_takeSettings : GoodIn wsX3_become (wsV RX3 40 RX3 yX3_takeSettings wsX3_takeSettings) := goodIn_app (goodIn_of _ (by decide +kernel)) ggX3_become_X3_takeSettings
theorem dX3_become_0 : decode cX3_become 0 = .ok (.aload_n 0, 1) := by decide +kernel
theorem dX3_become_1 : decode cX3_become 1 = .ok (.aload_n 1, 1) := by decide +kernel
theorem dX3_become_2 : decode cX3_become 2 = .ok (.invokevirtual 40, 3) := by decide +kernel
theorem dX3_become_5 : decode cX3_become 5 = .ok (.aload_n 0, 1) := by decide +kernel
theorem dX3_become_6 : decode cX3_become 6 = .ok (.aload_n 1, 1) := by decide +kernel
theorem dX3_become_7 : decode cX3_become 7 = .ok (.getfield 44, 3) := by decide +kernel
theorem dX3_become_10 : decode cX3_become 10 = .ok (.putfield 44, 3) := by decide +kernel
theorem dX3_become_13 : decode cX3_become 13 = .ok (.iconst 0, 1) := by decide +kernel
theorem dX3_become_14 : decode cX3_become 14 = .ok (.istore_n 2, 1) := by decide +kernel
theorem dX3_become_15 : decode cX3_become 15 = .ok (.iload_n 2, 1) := by decide +kernel
theorem dX3_become_16 : decode cX3_become 16 = .ok (.bipush 40, 2) := by decide +kernel
theorem dX3_become_18 : decode cX3_become 18 = .ok (.if_icmp .ge 69, 3) := by decide +kernel
theorem dX3_become_21 : decode cX3_become 21 = .ok (.aload_n 0, 1) := by decide +kernel
theorem dX3_become_22 : decode cX3_become 22 = .ok (.getfield 15, 3) := by decide +kernel
theorem dX3_become_25 : decode cX3_become 25 = .ok (.iload_n 2, 1) := by decide +kernel
theorem dX3_become_26 : decode cX3_become 26 = .ok (.aload_n 1, 1) := by decide +kernel
theorem dX3_become_27 : decode cX3_become 27 = .ok (.getfield 15, 3) := by decide +kernel
theorem dX3_become_30 : decode cX3_become 30 = .ok (.iload_n 2, 1) := by decide +kernel
theorem dX3_become_31 : decode cX3_become 31 = .ok (.iaload, 1) := by decide +kernel
theorem dX3_become_32 : decode cX3_become 32 = .ok (.iastore, 1) := by decide +kernel
theorem dX3_become_33 : decode cX3_become 33 = .ok (.aload_n 0, 1) := by decide +kernel
theorem dX3_become_34 : decode cX3_become 34 = .ok (.getfield 18, 3) := by decide +kernel
theorem dX3_become_37 : decode cX3_become 37 = .ok (.iload_n 2, 1) := by decide +kernel
theorem dX3_become_38 : decode cX3_become 38 = .ok (.aload_n 1, 1) := by decide +kernel
theorem dX3_become_39 : decode cX3_become 39 = .ok (.getfield 18, 3) := by decide +kernel
theorem dX3_become_42 : decode cX3_become 42 = .ok (.iload_n 2, 1) := by decide +kernel
theorem dX3_become_43 : decode cX3_become 43 = .ok (.iaload, 1) := by decide +kernel
theorem dX3_become_44 : decode cX3_become 44 = .ok (.iastore, 1) := by decide +kernel
theorem dX3_become_45 : decode cX3_become 45 = .ok (.aload_n 0, 1) := by decide +kernel
theorem dX3_become_46 : decode cX3_become 46 = .ok (.getfield 21, 3) := by decide +kernel
theorem dX3_become_49 : decode cX3_become 49 = .ok (.iload_n 2, 1) := by decide +kernel
theorem dX3_become_50 : decode cX3_become 50 = .ok (.aload_n 1, 1) := by decide +kernel
theorem dX3_become_51 : decode cX3_become 51 = .ok (.getfield 21, 3) := by decide +kernel
theorem dX3_become_54 : decode cX3_become 54 = .ok (.iload_n 2, 1) := by decide +kernel
theorem dX3_become_55 : decode cX3_become 55 = .ok (.iaload, 1) := by decide +kernel
theorem dX3_become_56 : decode cX3_become 56 = .ok (.iastore, 1) := by decide +kernel
theorem dX3_become_57 : decode cX3_become 57 = .ok (.aload_n 0, 1) := by decide +kernel
theorem dX3_become_58 : decode cX3_become 58 = .ok (.getfield 24, 3) := by decide +kernel
theorem dX3_become_61 : decode cX3_become 61 = .ok (.iload_n 2, 1) := by decide +kernel
theorem dX3_become_62 : decode cX3_become 62 = .ok (.aload_n 1, 1) := by decide +kernel
theorem dX3_become_63 : decode cX3_become 63 = .ok (.getfield 24, 3) := by decide +kernel
theorem dX3_become_66 : decode cX3_become 66 = .ok (.iload_n 2, 1) := by decide +kernel
theorem dX3_become_67 : decode cX3_become 67 = .ok (.iaload, 1) := by decide +kernel
theorem dX3_become_68 : decode cX3_become 68 = .ok (.iastore, 1) := by decide +kernel
theorem dX3_become_69 : decode cX3_become 69 = .ok (.aload_n 0, 1) := by decide +kernel
theorem dX3_become_70 : decode cX3_become 70 = .ok (.getfield 27, 3) := by decide +kernel
theorem dX3_become_73 : decode cX3_become 73 = .ok (.iload_n 2, 1) := by decide +kernel
theorem dX3_become_74 : decode cX3_become 74 = .ok (.aload_n 1, 1) := by decide +kernel
theorem dX3_become_75 : decode cX3_become 75 = .ok (.getfield 27, 3) := by decide +kernel
theorem dX3_become_78 : decode cX3_become 78 = .ok (.iload_n 2, 1) := by decide +kernel
theorem dX3_become_79 : decode cX3_become 79 = .ok (.baload, 1) := by decide +kernel
theorem dX3_become_80 : decode cX3_become 80 = .ok (.bastore, 1) := by decide +kernel
theorem dX3_become_81 : decode cX3_become 81 = .ok (.iinc 2 1, 3) := by decide +kernel
theorem dX3_become_84 : decode cX3_become 84 = .ok (.goto (-69), 3) := by decide +kernel
theorem dX3_become_87 : decode cX3_become 87 = .ok (.return_, 1) := by decide +kernel
set_option maxRecDepth 20000 in
theorem ggX3_settingOf_X4_isIn : GoodIn wsX3_settingOf wsX4_isIn := goodIn_r _ [4] (by decide +kernel) (by decide +kernel)
set_option maxRecDepth 20000 in
theorem gX3_settingOf_X4_isIn_n48 : GoodIn wsX3_settingOf (wsX4_isIn) := ggX3_settingOf_X4_isIn
theorem dX3_settingOf_0 : decode cX3_settingOf 0 = .ok (.iload_n 1, 1) := by decide +kernel
theorem dX3_settingOf_1 : decode cX3_settingOf 1 = .ok (.iconst 0, 1) := by decide +kernel
theorem dX3_settingOf_2 : decode cX3_settingOf 2 = .ok (.iconst 3, 1) := by decide +kernel
theorem dX3_settingOf_3 : decode cX3_settingOf 3 = .ok (.invokestatic 48, 3) := by decide +kernel
theorem dX3_settingOf_6 : decode cX3_settingOf 6 = .ok (.ifCond .eq 12, 3) := by decide +kernel
theorem dX3_settingOf_9 : decode cX3_settingOf 9 = .ok (.aload_n 0, 1) := by decide +kernel
theorem dX3_settingOf_10 : decode cX3_settingOf 10 = .ok (.getfield 9, 3) := by decide +kernel
theorem dX3_settingOf_13 : decode cX3_settingOf 13 = .ok (.iload_n 1, 1) := by decide +kernel
theorem dX3_settingOf_14 : decode cX3_settingOf 14 = .ok (.iaload, 1) := by decide +kernel
theorem dX3_settingOf_15 : decode cX3_settingOf 15 = .ok (.goto 4, 3) := by decide +kernel
theorem dX3_settingOf_18 : decode cX3_settingOf 18 = .ok (.iconst 0, 1) := by decide +kernel
theorem dX3_settingOf_19 : decode cX3_settingOf 19 = .ok (.ireturn, 1) := by decide +kernel
set_option maxRecDepth 20000 in
theorem ggX3_giveSetting_X4_isIn : GoodIn wsX3_giveSetting wsX4_isIn := goodIn_r _ [4] (by decide +kernel) (by decide +kernel)
set_option maxRecDepth 20000 in
theorem gX3_giveSetting_X4_isIn_n48 : GoodIn wsX3_giveSetting (wsX4_isIn) := ggX3_giveSetting_X4_isIn
theorem dX3_giveSetting_0 : decode cX3_giveSetting 0 = .ok (.iload_n 1, 1) := by decide +kernel
theorem dX3_giveSetting_1 : decode cX3_giveSetting 1 = .ok (.iconst 0, 1) := by decide +kernel
theorem dX3_giveSetting_2 : decode cX3_giveSetting 2 = .ok (.iconst 3, 1) := by decide +kernel
theorem dX3_giveSetting_3 : decode cX3_giveSetting 3 = .ok (.invokestatic 48, 3) := by decide +kernel
theorem dX3_giveSetting_6 : decode cX3_giveSetting 6 = .ok (.ifCond .eq 10, 3) := by decide +kernel
theorem dX3_giveSetting_9 : decode cX3_giveSetting 9 = .ok (.aload_n 0, 1) := by decide +kernel
theorem dX3_giveSetting_10 : decode cX3_giveSetting 10 = .ok (.getfield 9, 3) := by decide +kernel
theorem dX3_giveSetting_13 : decode cX3_giveSetting 13 = .ok (.iload_n 1, 1) := by decide +kernel
theorem dX3_giveSetting_14 : decode cX3_giveSetting 14 = .ok (.iload_n 2, 1) := by decide +kernel
theorem dX3_giveSetting_15 : decode cX3_giveSetting 15 = .ok (.iastore, 1) := by decide +kernel
theorem dX3_giveSetting_16 : decode cX3_giveSetting 16 = .ok (.return_, 1) := by decide +kernel
theorem dX3_size_0 : decode cX3_size 0 = .ok (.aload_n 0, 1) := by decide +kernel
theorem dX3_size_1 : decode cX3_size 1 = .ok (.getfield 44, 3) := by decide +kernel
theorem dX3_size_4 : decode cX3_size 4 = .ok (.ireturn, 1) := by decide +kernel
theorem dX3_has_0 : decode cX3_has 0 = .ok (.iload_n 1, 1) := by decide +kernel
theorem dX3_has_1 : decode cX3_has 1 = .ok (.ifCond .lt 21, 3) := by decide +kernel
theorem dX3_has_4 : decode cX3_has 4 = .ok (.iload_n 1, 1) := by decide +kernel
theorem dX3_has_5 : decode cX3_has 5 = .ok (.aload_n 0, 1) := by decide +kernel
theorem dX3_has_6 : decode cX3_has 6 = .ok (.getfield 44, 3) := by decide +kernel
theorem dX3_has_9 : decode cX3_has 9 = .ok (.if_icmp .ge 13, 3) := by decide +kernel
theorem dX3_has_12 : decode cX3_has 12 = .ok (.iload_n 1, 1) := by decide +kernel
theorem dX3_has_13 : decode cX3_has 13 = .ok (.bipush 40, 2) := by decide +kernel
theorem dX3_has_15 : decode cX3_has 15 = .ok (.if_icmp .ge 7, 3) := by decide +kernel
theorem dX3_has_18 : decode cX3_has 18 = .ok (.iconst 1, 1) := by decide +kernel
theorem dX3_has_19 : decode cX3_has 19 = .ok (.goto 4, 3) := by decide +kernel
theorem dX3_has_22 : decode cX3_has 22 = .ok (.iconst 0, 1) := by decide +kernel
theorem dX3_has_23 : decode cX3_has 23 = .ok (.ireturn, 1) := by decide +kernel
set_option maxRecDepth 20000 in
theorem ggX3_trackOf_X3_has : GoodIn wsX3_trackOf wsX3_has := goodIn_r _ [6, 7, 8, 9, 10, 11, 12, 13, 14] (by decide +kernel) (by decide +kernel)
set_option maxRecDepth 20000 in
theorem gX3_trackOf_X3_has : GoodIn wsX3_trackOf (wsV RX3 52 RX3 yX3_has wsX3_has) := goodIn_app (goodIn_of _ (by decide +kernel)) ggX3_trackOf_X3_has
theorem dX3_trackOf_0 : decode cX3_trackOf 0 = .ok (.aload_n 0, 1) := by decide +kernel
theorem dX3_trackOf_1 : decode cX3_trackOf 1 = .ok (.iload_n 1, 1) := by decide +kernel
theorem dX3_trackOf_2 : decode cX3_trackOf 2 = .ok (.invokevirtual 52, 3) := by decide +kernel
theorem dX3_trackOf_5 : decode cX3_trackOf 5 = .ok (.ifCond .eq 12, 3) := by decide +kernel
theorem dX3_trackOf_8 : decode cX3_trackOf 8 = .ok (.aload_n 0, 1) := by decide +kernel
theorem dX3_trackOf_9 : decode cX3_trackOf 9 = .ok (.getfield 15, 3) := by decide +kernel
theorem dX3_trackOf_12 : decode cX3_trackOf 12 = .ok (.iload_n 1, 1) := by decide +kernel
theorem dX3_trackOf_13 : decode cX3_trackOf 13 = .ok (.iaload, 1) := by decide +kernel
theorem dX3_trackOf_14 : decode cX3_trackOf 14 = .ok (.goto 4, 3) := by decide +kernel
theorem dX3_trackOf_17 : decode cX3_trackOf 17 = .ok (.iconst 0, 1) := by decide +kernel
theorem dX3_trackOf_18 : decode cX3_trackOf 18 = .ok (.ireturn, 1) := by decide +kernel
set_option maxRecDepth 20000 in
theorem ggX3_firstOf_X3_has : GoodIn wsX3_firstOf wsX3_has := goodIn_r _ [6, 7, 8, 9, 10, 11, 12, 13, 14] (by decide +kernel) (by decide +kernel)
set_option maxRecDepth 20000 in
theorem gX3_firstOf_X3_has : GoodIn wsX3_firstOf (wsV RX3 52 RX3 yX3_has wsX3_has) := goodIn_app (goodIn_of _ (by decide +kernel)) ggX3_firstOf_X3_has
theorem dX3_firstOf_0 : decode cX3_firstOf 0 = .ok (.aload_n 0, 1) := by decide +kernel
theorem dX3_firstOf_1 : decode cX3_firstOf 1 = .ok (.iload_n 1, 1) := by decide +kernel
theorem dX3_firstOf_2 : decode cX3_firstOf 2 = .ok (.invokevirtual 52, 3) := by decide +kernel
theorem dX3_firstOf_5 : decode cX3_firstOf 5 = .ok (.ifCond .eq 12, 3) := by decide +kernel
theorem dX3_firstOf_8 : decode cX3_firstOf 8 = .ok (.aload_n 0, 1) := by decide +kernel
theorem dX3_firstOf_9 : decode cX3_firstOf 9 = .ok (.getfield 18, 3) := by decide +kernel
theorem dX3_firstOf_12 : decode cX3_firstOf 12 = .ok (.iload_n 1, 1) := by decide +kernel
theorem dX3_firstOf_13 : decode cX3_firstOf 13 = .ok (.iaload, 1) := by decide +kernel
theorem dX3_firstOf_14 : decode cX3_firstOf 14 = .ok (.goto 4, 3) := by decide +kernel
theorem dX3_firstOf_17 : decode cX3_firstOf 17 = .ok (.iconst 0, 1) := by decide +kernel
theorem dX3_firstOf_18 : decode cX3_firstOf 18 = .ok (.ireturn, 1) := by decide +kernel
set_option maxRecDepth 20000 in
theorem ggX3_lastOf_X3_has : GoodIn wsX3_lastOf wsX3_has := goodIn_r _ [6, 7, 8, 9, 10, 11, 12, 13, 14] (by decide +kernel) (by decide +kernel)
set_option maxRecDepth 20000 in
theorem gX3_lastOf_X3_has : GoodIn wsX3_lastOf (wsV RX3 52 RX3 yX3_has wsX3_has) := goodIn_app (goodIn_of _ (by decide +kernel)) ggX3_lastOf_X3_has
theorem dX3_lastOf_0 : decode cX3_lastOf 0 = .ok (.aload_n 0, 1) := by decide +kernel
theorem dX3_lastOf_1 : decode cX3_lastOf 1 = .ok (.iload_n 1, 1) := by decide +kernel
theorem dX3_lastOf_2 : decode cX3_lastOf 2 = .ok (.invokevirtual 52, 3) := by decide +kernel
theorem dX3_lastOf_5 : decode cX3_lastOf 5 = .ok (.ifCond .eq 12, 3) := by decide +kernel
theorem dX3_lastOf_8 : decode cX3_lastOf 8 = .ok (.aload_n 0, 1) := by decide +kernel
theorem dX3_lastOf_9 : decode cX3_lastOf 9 = .ok (.getfield 21, 3) := by decide +kernel
theorem dX3_lastOf_12 : decode cX3_lastOf 12 = .ok (.iload_n 1, 1) := by decide +kernel
theorem dX3_lastOf_13 : decode cX3_lastOf 13 = .ok (.iaload, 1) := by decide +kernel
theorem dX3_lastOf_14 : decode cX3_lastOf 14 = .ok (.goto 4, 3) := by decide +kernel
theorem dX3_lastOf_17 : decode cX3_lastOf 17 = .ok (.iconst 0, 1) := by decide +kernel
theorem dX3_lastOf_18 : decode cX3_lastOf 18 = .ok (.ireturn, 1) := by decide +kernel
set_option maxRecDepth 20000 in
theorem ggX3_shiftOf_X3_has : GoodIn wsX3_shiftOf wsX3_has := goodIn_r _ [6, 7, 8, 9, 10, 11, 12, 13, 14] (by decide +kernel) (by decide +kernel)
set_option maxRecDepth 20000 in
theorem gX3_shiftOf_X3_has : GoodIn wsX3_shiftOf (wsV RX3 52 RX3 yX3_has wsX3_has) := goodIn_app (goodIn_of _ (by decide +kernel)) ggX3_shiftOf_X3_has
theorem dX3_shiftOf_0 : decode cX3_shiftOf 0 = .ok (.aload_n 0, 1) := by decide +kernel
theorem dX3_shiftOf_1 : decode cX3_shiftOf 1 = .ok (.iload_n 1, 1) := by decide +kernel
theorem dX3_shiftOf_2 : decode cX3_shiftOf 2 = .ok (.invokevirtual 52, 3) := by decide +kernel
theorem dX3_shiftOf_5 : decode cX3_shiftOf 5 = .ok (.ifCond .eq 12, 3) := by decide +kernel
theorem dX3_shiftOf_8 : decode cX3_shiftOf 8 = .ok (.aload_n 0, 1) := by decide +kernel
theorem dX3_shiftOf_9 : decode cX3_shiftOf 9 = .ok (.getfield 24, 3) := by decide +kernel
theorem dX3_shiftOf_12 : decode cX3_shiftOf 12 = .ok (.iload_n 1, 1) := by decide +kernel
theorem dX3_shiftOf_13 : decode cX3_shiftOf 13 = .ok (.iaload, 1) := by decide +kernel
theorem dX3_shiftOf_14 : decode cX3_shiftOf 14 = .ok (.goto 4, 3) := by decide +kernel
theorem dX3_shiftOf_17 : decode cX3_shiftOf 17 = .ok (.iconst 0, 1) := by decide +kernel
theorem dX3_shiftOf_18 : decode cX3_shiftOf 18 = .ok (.ireturn, 1) := by decide +kernel
set_option maxRecDepth 20000 in
theorem ggX3_hasAccent_X3_has : GoodIn wsX3_hasAccent wsX3_has := goodIn_r _ [6, 7, 8, 9, 10, 11, 12, 13, 14] (by decide +kernel) (by decide +kernel)
set_option maxRecDepth 20000 in
theorem gX3_hasAccent_X3_has : GoodIn wsX3_hasAccent (wsV RX3 52 RX3 yX3_has wsX3_has) := goodIn_app (goodIn_of _ (by decide +kernel)) ggX3_hasAccent_X3_has
theorem dX3_hasAccent_0 : decode cX3_hasAccent 0 = .ok (.aload_n 0, 1) := by decide +kernel
theorem dX3_hasAccent_1 : decode cX3_hasAccent 1 = .ok (.iload_n 1, 1) := by decide +kernel
theorem dX3_hasAccent_2 : decode cX3_hasAccent 2 = .ok (.invokevirtual 52, 3) := by decide +kernel
theorem dX3_hasAccent_5 : decode cX3_hasAccent 5 = .ok (.ifCond .eq 16, 3) := by decide +kernel
theorem dX3_hasAccent_8 : decode cX3_hasAccent 8 = .ok (.aload_n 0, 1) := by decide +kernel
theorem dX3_hasAccent_9 : decode cX3_hasAccent 9 = .ok (.getfield 27, 3) := by decide +kernel
theorem dX3_hasAccent_12 : decode cX3_hasAccent 12 = .ok (.iload_n 1, 1) := by decide +kernel
theorem dX3_hasAccent_13 : decode cX3_hasAccent 13 = .ok (.baload, 1) := by decide +kernel
theorem dX3_hasAccent_14 : decode cX3_hasAccent 14 = .ok (.ifCond .eq 7, 3) := by decide +kernel
theorem dX3_hasAccent_17 : decode cX3_hasAccent 17 = .ok (.iconst 1, 1) := by decide +kernel
theorem dX3_hasAccent_18 : decode cX3_hasAccent 18 = .ok (.goto 4, 3) := by decide +kernel
theorem dX3_hasAccent_21 : decode cX3_hasAccent 21 = .ok (.iconst 0, 1) := by decide +kernel
theorem dX3_hasAccent_22 : decode cX3_hasAccent 22 = .ok (.ireturn, 1) := by decide +kernel
set_option maxRecDepth 20000 in
theorem ggX3_giveShift_X3_has : GoodIn wsX3_giveShift wsX3_has := goodIn_r _ [6, 7, 8, 9, 10, 11, 12, 13, 14] (by decide +kernel) (by decide +kernel)
set_option maxRecDepth 20000 in
theorem gX3_giveShift_X3_has : GoodIn wsX3_giveShift (wsV RX3 52 RX3 yX3_has wsX3_has) := goodIn_app (goodIn_of _ (by decide +kernel)) ggX3_giveShift_X3_has
theorem dX3_giveShift_0 : decode cX3_giveShift 0 = .ok (.aload_n 0, 1) := by decide +kernel
theorem dX3_giveShift_1 : decode cX3_giveShift 1 = .ok (.iload_n 1, 1) := by decide +kernel
theorem dX3_giveShift_2 : decode cX3_giveShift 2 = .ok (.invokevirtual 52, 3) := by decide +kernel
theorem dX3_giveShift_5 : decode cX3_giveShift 5 = .ok (.ifCond .eq 10, 3) := by decide +kernel
theorem dX3_giveShift_8 : decode cX3_giveShift 8 = .ok (.aload_n 0, 1) := by decide +kernel
theorem dX3_giveShift_9 : decode cX3_giveShift 9 = .ok (.getfield 24, 3) := by decide +kernel
theorem dX3_giveShift_12 : decode cX3_giveShift 12 = .ok (.iload_n 1, 1) := by decide +kernel
theorem dX3_giveShift_13 : decode cX3_giveShift 13 = .ok (.iload_n 2, 1) := by decide +kernel
theorem dX3_giveShift_14 : decode cX3_giveShift 14 = .ok (.iastore, 1) := by decide +kernel
theorem dX3_giveShift_15 : decode cX3_giveShift 15 = .ok (.return_, 1) := by decide +kernel
set_option maxRecDepth 20000 in
theorem ggX3_giveAccent_X3_has : GoodIn wsX3_giveAccent wsX3_has := goodIn_r _ [6, 7, 8, 9, 10, 11, 12, 13, 14] (by decide +kernel) (by decide +kernel)
set_option maxRecDepth 20000 in
theorem gX3_giveAccent_X3_has : GoodIn wsX3_giveAccent (wsV RX3 52 RX3 yX3_has wsX3_has) := goodIn_app (goodIn_of _ (by decide +kernel)) ggX3_giveAccent_X3_has
theorem dX3_giveAccent_0 : decode cX3_giveAccent 0 = .ok (.aload_n 0, 1) := by decide +kernel
theorem dX3_giveAccent_1 : decode cX3_giveAccent 1 = .ok (.iload_n 1, 1) := by decide +kernel
theorem dX3_giveAccent_2 : decode cX3_giveAccent 2 = .ok (.invokevirtual 52, 3) := by decide +kernel
theorem dX3_giveAccent_5 : decode cX3_giveAccent 5 = .ok (.ifCond .eq 10, 3) := by decide +kernel
theorem dX3_giveAccent_8 : decode cX3_giveAccent 8 = .ok (.aload_n 0, 1) := by decide +kernel
theorem dX3_giveAccent_9 : decode cX3_giveAccent 9 = .ok (.getfield 27, 3) := by decide +kernel
theorem dX3_giveAccent_12 : decode cX3_giveAccent 12 = .ok (.iload_n 1, 1) := by decide +kernel
theorem dX3_giveAccent_13 : decode cX3_giveAccent 13 = .ok (.iload_n 2, 1) := by decide +kernel
theorem dX3_giveAccent_14 : decode cX3_giveAccent 14 = .ok (.bastore, 1) := by decide +kernel
theorem dX3_giveAccent_15 : decode cX3_giveAccent 15 = .ok (.return_, 1) := by decide +kernel
set_option maxRecDepth 20000 in
theorem ggX3_add_X3_placeFor : GoodIn wsX3_add wsX3_placeFor := goodIn_r _ [11, 1, 12, 13, 14, 10, 15, 3, 16, 17, 18, 19, 20, 21, 22, 23, 2, 31, 32, 33, 34, 35, 36, 37] (by decide +kernel) (by decide +kernel)
set_option maxRecDepth 20000 in
theorem gX3_add_X3_placeFor : GoodIn wsX3_add (wsV RX3 56 RX3 yX3_placeFor wsX3_placeFor) := goodIn_app (goodIn_of _ (by decide +kernel)) ggX3_add_X3_placeFor
set_option maxRecDepth 20000 in
theorem ggX3_add_X3_move : GoodIn wsX3_add wsX3_move := goodIn_r _ [27, 2, 3, 4, 5, 6, 28, 29, 30, 31, 32, 33, 34, 35, 36, 37] (by decide +kernel) (by decide +kernel)
set_option maxRecDepth 20000 in
theorem gX3_add_X3_move : GoodIn wsX3_add (wsV RX3 60 RX3 yX3_move wsX3_move) := goodIn_app (goodIn_of _ (by decide +kernel)) ggX3_add_X3_move
set_option maxRecDepth 20000 in
theorem ggX3_add_X4_isIn : GoodIn wsX3_add wsX4_isIn := goodIn_r _ [30] (by decide +kernel) (by decide +kernel)
set_option maxRecDepth 20000 in
theorem gX3_add_X4_isIn_n48 : GoodIn wsX3_add (wsX4_isIn) := ggX3_add_X4_isIn
theorem dX3_add_0 : decode cX3_add 0 = .ok (.aload_n 0, 1) := by decide +kernel
theorem dX3_add_1 : decode cX3_add 1 = .ok (.getfield 44, 3) := by decide +kernel
theorem dX3_add_4 : decode cX3_add 4 = .ok (.bipush 40, 2) := by decide +kernel
theorem dX3_add_6 : decode cX3_add 6 = .ok (.if_icmp .lt 6, 3) := by decide +kernel
theorem dX3_add_9 : decode cX3_add 9 = .ok (.bipush (-4), 2) := by decide +kernel
theorem dX3_add_11 : decode cX3_add 11 = .ok (.ireturn, 1) := by decide +kernel
theorem dX3_add_12 : decode cX3_add 12 = .ok (.aload_n 0, 1) := by decide +kernel
theorem dX3_add_13 : decode cX3_add 13 = .ok (.iload_n 1, 1) := by decide +kernel
theorem dX3_add_14 : decode cX3_add 14 = .ok (.iload_n 2, 1) := by decide +kernel
theorem dX3_add_15 : decode cX3_add 15 = .ok (.invokevirtual 56, 3) := by decide +kernel
theorem dX3_add_18 : decode cX3_add 18 = .ok (.istore 6, 2) := by decide +kernel
theorem dX3_add_20 : decode cX3_add 20 = .ok (.aload_n 0, 1) := by decide +kernel
theorem dX3_add_21 : decode cX3_add 21 = .ok (.getfield 44, 3) := by decide +kernel
theorem dX3_add_24 : decode cX3_add 24 = .ok (.istore 7, 2) := by decide +kernel
theorem dX3_add_26 : decode cX3_add 26 = .ok (.iload 7, 2) := by decide +kernel
theorem dX3_add_28 : decode cX3_add 28 = .ok (.iload 6, 2) := by decide +kernel
theorem dX3_add_30 : decode cX3_add 30 = .ok (.if_icmp .le 19, 3) := by decide +kernel
theorem dX3_add_33 : decode cX3_add 33 = .ok (.aload_n 0, 1) := by decide +kernel
theorem dX3_add_34 : decode cX3_add 34 = .ok (.iload 7, 2) := by decide +kernel
theorem dX3_add_36 : decode cX3_add 36 = .ok (.iconst 1, 1) := by decide +kernel
theorem dX3_add_37 : decode cX3_add 37 = .ok (.isub, 1) := by decide +kernel
theorem dX3_add_38 : decode cX3_add 38 = .ok (.iload 7, 2) := by decide +kernel
theorem dX3_add_40 : decode cX3_add 40 = .ok (.invokevirtual 60, 3) := by decide +kernel
theorem dX3_add_43 : decode cX3_add 43 = .ok (.iinc 7 (-1), 3) := by decide +kernel
theorem dX3_add_46 : decode cX3_add 46 = .ok (.goto (-20), 3) := by decide +kernel
theorem dX3_add_49 : decode cX3_add 49 = .ok (.iload 6, 2) := by decide +kernel
theorem dX3_add_51 : decode cX3_add 51 = .ok (.iconst 0, 1) := by decide +kernel
theorem dX3_add_52 : decode cX3_add 52 = .ok (.bipush 39, 2) := by decide +kernel
theorem dX3_add_54 : decode cX3_add 54 = .ok (.invokestatic 48, 3) := by decide +kernel
theorem dX3_add_57 : decode cX3_add 57 = .ok (.ifCond .eq 45, 3) := by decide +kernel
theorem dX3_add_60 : decode cX3_add 60 = .ok (.aload_n 0, 1) := by decide +kernel
theorem dX3_add_61 : decode cX3_add 61 = .ok (.getfield 15, 3) := by decide +kernel
theorem dX3_add_64 : decode cX3_add 64 = .ok (.iload 6, 2) := by decide +kernel
theorem dX3_add_66 : decode cX3_add 66 = .ok (.iload_n 1, 1) := by decide +kernel
theorem dX3_add_67 : decode cX3_add 67 = .ok (.iastore, 1) := by decide +kernel
theorem dX3_add_68 : decode cX3_add 68 = .ok (.aload_n 0, 1) := by decide +kernel
theorem dX3_add_69 : decode cX3_add 69 = .ok (.getfield 18, 3) := by decide +kernel
theorem dX3_add_72 : decode cX3_add 72 = .ok (.iload 6, 2) := by decide +kernel
theorem dX3_add_74 : decode cX3_add 74 = .ok (.iload_n 2, 1) := by decide +kernel
theorem dX3_add_75 : decode cX3_add 75 = .ok (.iastore, 1) := by decide +kernel
theorem dX3_add_76 : decode cX3_add 76 = .ok (.aload_n 0, 1) := by decide +kernel
theorem dX3_add_77 : decode cX3_add 77 = .ok (.getfield 21, 3) := by decide +kernel
theorem dX3_add_80 : decode cX3_add 80 = .ok (.iload 6, 2) := by decide +kernel
theorem dX3_add_82 : decode cX3_add 82 = .ok (.iload_n 3, 1) := by decide +kernel
theorem dX3_add_83 : decode cX3_add 83 = .ok (.iastore, 1) := by decide +kernel
theorem dX3_add_84 : decode cX3_add 84 = .ok (.aload_n 0, 1) := by decide +kernel
theorem dX3_add_85 : decode cX3_add 85 = .ok (.getfield 24, 3) := by decide +kernel
theorem dX3_add_88 : decode cX3_add 88 = .ok (.iload 6, 2) := by decide +kernel
theorem dX3_add_90 : decode cX3_add 90 = .ok (.iload 4, 2) := by decide +kernel
theorem dX3_add_92 : decode cX3_add 92 = .ok (.iastore, 1) := by decide +kernel
theorem dX3_add_93 : decode cX3_add 93 = .ok (.aload_n 0, 1) := by decide +kernel
theorem dX3_add_94 : decode cX3_add 94 = .ok (.getfield 27, 3) := by decide +kernel
theorem dX3_add_97 : decode cX3_add 97 = .ok (.iload 6, 2) := by decide +kernel
theorem dX3_add_99 : decode cX3_add 99 = .ok (.iload 5, 2) := by decide +kernel
theorem dX3_add_101 : decode cX3_add 101 = .ok (.bastore, 1) := by decide +kernel
theorem dX3_add_102 : decode cX3_add 102 = .ok (.aload_n 0, 1) := by decide +kernel
theorem dX3_add_103 : decode cX3_add 103 = .ok (.dup, 1) := by decide +kernel
theorem dX3_add_104 : decode cX3_add 104 = .ok (.getfield 44, 3) := by decide +kernel
theorem dX3_add_107 : decode cX3_add 107 = .ok (.iconst 1, 1) := by decide +kernel
theorem dX3_add_108 : decode cX3_add 108 = .ok (.iadd, 1) := by decide +kernel
theorem dX3_add_109 : decode cX3_add 109 = .ok (.putfield 44, 3) := by decide +kernel
theorem dX3_add_112 : decode cX3_add 112 = .ok (.iload 6, 2) := by decide +kernel
theorem dX3_add_114 : decode cX3_add 114 = .ok (.ireturn, 1) := by decide +kernel
set_option maxRecDepth 20000 in
theorem ggX3_placeFor_X3_firstOf : GoodIn wsX3_placeFor wsX3_firstOf := goodIn_r _ [6, 7, 8, 9, 10, 5, 11, 1, 17, 18, 19, 20, 21, 22, 23] (by decide +kernel) (by decide +kernel)
set_option maxRecDepth 20000 in
theorem gX3_placeFor_X3_firstOf : GoodIn wsX3_placeFor (wsV RX3 64 RX3 yX3_firstOf wsX3_firstOf) := goodIn_app (goodIn_of _ (by decide +kernel)) ggX3_placeFor_X3_firstOf
set_option maxRecDepth 20000 in
theorem ggX3_placeFor_X3_trackOf : GoodIn wsX3_placeFor wsX3_trackOf := goodIn_r _ [15, 16, 8, 9, 10, 5, 11, 1, 17, 18, 19, 20, 21, 22, 23] (by decide +kernel) (by decide +kernel)
set_option maxRecDepth 20000 in
theorem gX3_placeFor_X3_trackOf : GoodIn wsX3_placeFor (wsV RX3 68 RX3 yX3_trackOf wsX3_trackOf) := goodIn_app (goodIn_of _ (by decide +kernel)) ggX3_placeFor_X3_trackOf
theorem dX3_placeFor_0 : decode cX3_placeFor 0 = .ok (.iconst 0, 1) := by decide +kernel
theorem dX3_placeFor_1 : decode cX3_placeFor 1 = .ok (.istore_n 3, 1) := by decide +kernel
theorem dX3_placeFor_2 : decode cX3_placeFor 2 = .ok (.iconst 0, 1) := by decide +kernel
theorem dX3_placeFor_3 : decode cX3_placeFor 3 = .ok (.istore 4, 2) := by decide +kernel
theorem dX3_placeFor_5 : decode cX3_placeFor 5 = .ok (.iload 4, 2) := by decide +kernel
theorem dX3_placeFor_7 : decode cX3_placeFor 7 = .ok (.aload_n 0, 1) := by decide +kernel
theorem dX3_placeFor_8 : decode cX3_placeFor 8 = .ok (.getfield 44, 3) := by decide +kernel
theorem dX3_placeFor_11 : decode cX3_placeFor 11 = .ok (.if_icmp .ge 42, 3) := by decide +kernel
theorem dX3_placeFor_14 : decode cX3_placeFor 14 = .ok (.aload_n 0, 1) := by decide +kernel
theorem dX3_placeFor_15 : decode cX3_placeFor 15 = .ok (.iload 4, 2) := by decide +kernel
theorem dX3_placeFor_17 : decode cX3_placeFor 17 = .ok (.invokevirtual 64, 3) := by decide +kernel
theorem dX3_placeFor_20 : decode cX3_placeFor 20 = .ok (.iload_n 2, 1) := by decide +kernel
theorem dX3_placeFor_21 : decode cX3_placeFor 21 = .ok (.if_icmp .lt 23, 3) := by decide +kernel
theorem dX3_placeFor_24 : decode cX3_placeFor 24 = .ok (.aload_n 0, 1) := by decide +kernel
theorem dX3_placeFor_25 : decode cX3_placeFor 25 = .ok (.iload 4, 2) := by decide +kernel
theorem dX3_placeFor_27 : decode cX3_placeFor 27 = .ok (.invokevirtual 64, 3) := by decide +kernel
theorem dX3_placeFor_30 : decode cX3_placeFor 30 = .ok (.iload_n 2, 1) := by decide +kernel
theorem dX3_placeFor_31 : decode cX3_placeFor 31 = .ok (.if_icmp .ne 16, 3) := by decide +kernel
theorem dX3_placeFor_34 : decode cX3_placeFor 34 = .ok (.aload_n 0, 1) := by decide +kernel
theorem dX3_placeFor_35 : decode cX3_placeFor 35 = .ok (.iload 4, 2) := by decide +kernel
theorem dX3_placeFor_37 : decode cX3_placeFor 37 = .ok (.invokevirtual 68, 3) := by decide +kernel
theorem dX3_placeFor_40 : decode cX3_placeFor 40 = .ok (.iload_n 1, 1) := by decide +kernel
theorem dX3_placeFor_41 : decode cX3_placeFor 41 = .ok (.if_icmp .ge 6, 3) := by decide +kernel
theorem dX3_placeFor_44 : decode cX3_placeFor 44 = .ok (.iinc 3 1, 3) := by decide +kernel
theorem dX3_placeFor_47 : decode cX3_placeFor 47 = .ok (.iinc 4 1, 3) := by decide +kernel
theorem dX3_placeFor_50 : decode cX3_placeFor 50 = .ok (.goto (-45), 3) := by decide +kernel
theorem dX3_placeFor_53 : decode cX3_placeFor 53 = .ok (.iload_n 3, 1) := by decide +kernel
theorem dX3_placeFor_54 : decode cX3_placeFor 54 = .ok (.ireturn, 1) := by decide +kernel
set_option maxRecDepth 20000 in
theorem ggX3_move_X4_isIn : GoodIn wsX3_move wsX4_isIn := goodIn_r _ [8] (by decide +kernel) (by decide +kernel)
set_option maxRecDepth 20000 in
theorem gX3_move_X4_isIn_n48 : GoodIn wsX3_move (wsX4_isIn) := ggX3_move_X4_isIn
theorem dX3_move_0 : decode cX3_move 0 = .ok (.iload_n 1, 1) := by decide +kernel
theorem dX3_move_1 : decode cX3_move 1 = .ok (.iconst 0, 1) := by decide +kernel
theorem dX3_move_2 : decode cX3_move 2 = .ok (.bipush 39, 2) := by decide +kernel
theorem dX3_move_4 : decode cX3_move 4 = .ok (.invokestatic 48, 3) := by decide +kernel
theorem dX3_move_7 : decode cX3_move 7 = .ok (.ifCond .eq 73, 3) := by decide +kernel
theorem dX3_move_10 : decode cX3_move 10 = .ok (.iload_n 2, 1) := by decide +kernel
theorem dX3_move_11 : decode cX3_move 11 = .ok (.iconst 0, 1) := by decide +kernel
theorem dX3_move_12 : decode cX3_move 12 = .ok (.bipush 39, 2) := by decide +kernel
theorem dX3_move_14 : decode cX3_move 14 = .ok (.invokestatic 48, 3) := by decide +kernel
theorem dX3_move_17 : decode cX3_move 17 = .ok (.ifCond .eq 63, 3) := by decide +kernel
theorem dX3_move_20 : decode cX3_move 20 = .ok (.aload_n 0, 1) := by decide +kernel
theorem dX3_move_21 : decode cX3_move 21 = .ok (.getfield 15, 3) := by decide +kernel
theorem dX3_move_24 : decode cX3_move 24 = .ok (.iload_n 2, 1) := by decide +kernel
theorem dX3_move_25 : decode cX3_move 25 = .ok (.aload_n 0, 1) := by decide +kernel
theorem dX3_move_26 : decode cX3_move 26 = .ok (.getfield 15, 3) := by decide +kernel
theorem dX3_move_29 : decode cX3_move 29 = .ok (.iload_n 1, 1) := by decide +kernel
theorem dX3_move_30 : decode cX3_move 30 = .ok (.iaload, 1) := by decide +kernel
theorem dX3_move_31 : decode cX3_move 31 = .ok (.iastore, 1) := by decide +kernel
theorem dX3_move_32 : decode cX3_move 32 = .ok (.aload_n 0, 1) := by decide +kernel
theorem dX3_move_33 : decode cX3_move 33 = .ok (.getfield 18, 3) := by decide +kernel
theorem dX3_move_36 : decode cX3_move 36 = .ok (.iload_n 2, 1) := by decide +kernel
theorem dX3_move_37 : decode cX3_move 37 = .ok (.aload_n 0, 1) := by decide +kernel
theorem dX3_move_38 : decode cX3_move 38 = .ok (.getfield 18, 3) := by decide +kernel
theorem dX3_move_41 : decode cX3_move 41 = .ok (.iload_n 1, 1) := by decide +kernel
theorem dX3_move_42 : decode cX3_move 42 = .ok (.iaload, 1) := by decide +kernel
theorem dX3_move_43 : decode cX3_move 43 = .ok (.iastore, 1) := by decide +kernel
theorem dX3_move_44 : decode cX3_move 44 = .ok (.aload_n 0, 1) := by decide +kernel
theorem dX3_move_45 : decode cX3_move 45 = .ok (.getfield 21, 3) := by decide +kernel
theorem dX3_move_48 : decode cX3_move 48 = .ok (.iload_n 2, 1) := by decide +kernel
theorem dX3_move_49 : decode cX3_move 49 = .ok (.aload_n 0, 1) := by decide +kernel
theorem dX3_move_50 : decode cX3_move 50 = .ok (.getfield 21, 3) := by decide +kernel
theorem dX3_move_53 : decode cX3_move 53 = .ok (.iload_n 1, 1) := by decide +kernel
theorem dX3_move_54 : decode cX3_move 54 = .ok (.iaload, 1) := by decide +kernel
theorem dX3_move_55 : decode cX3_move 55 = .ok (.iastore, 1) := by decide +kernel
theorem dX3_move_56 : decode cX3_move 56 = .ok (.aload_n 0, 1) := by decide +kernel
theorem dX3_move_57 : decode cX3_move 57 = .ok (.getfield 24, 3) := by decide +kernel
theorem dX3_move_60 : decode cX3_move 60 = .ok (.iload_n 2, 1) := by decide +kernel
theorem dX3_move_61 : decode cX3_move 61 = .ok (.aload_n 0, 1) := by decide +kernel
theorem dX3_move_62 : decode cX3_move 62 = .ok (.getfield 24, 3) := by decide +kernel
theorem dX3_move_65 : decode cX3_move 65 = .ok (.iload_n 1, 1) := by decide +kernel
theorem dX3_move_66 : decode cX3_move 66 = .ok (.iaload, 1) := by decide +kernel
theorem dX3_move_67 : decode cX3_move 67 = .ok (.iastore, 1) := by decide +kernel
theorem dX3_move_68 : decode cX3_move 68 = .ok (.aload_n 0, 1) := by decide +kernel
theorem dX3_move_69 : decode cX3_move 69 = .ok (.getfield 27, 3) := by decide +kernel
theorem dX3_move_72 : decode cX3_move 72 = .ok (.iload_n 2, 1) := by decide +kernel
theorem dX3_move_73 : decode cX3_move 73 = .ok (.aload_n 0, 1) := by decide +kernel
theorem dX3_move_74 : decode cX3_move 74 = .ok (.getfield 27, 3) := by decide +kernel
theorem dX3_move_77 : decode cX3_move 77 = .ok (.iload_n 1, 1) := by decide +kernel
theorem dX3_move_78 : decode cX3_move 78 = .ok (.baload, 1) := by decide +kernel
theorem dX3_move_79 : decode cX3_move 79 = .ok (.bastore, 1) := by decide +kernel
theorem dX3_move_80 : decode cX3_move 80 = .ok (.return_, 1) := by decide +kernel
set_option maxRecDepth 20000 in
theorem ggX3_remove_X3_has : GoodIn wsX3_remove wsX3_has := goodIn_r _ [6, 1, 19, 20, 21, 22, 23, 24, 25] (by decide +kernel) (by decide +kernel)
set_option maxRecDepth 20000 in
theorem gX3_remove_X3_has : GoodIn wsX3_remove (wsV RX3 52 RX3 yX3_has wsX3_has) := goodIn_app (goodIn_of _ (by decide +kernel)) ggX3_remove_X3_has
set_option maxRecDepth 20000 in
theorem ggX3_remove_X3_move : GoodIn wsX3_remove wsX3_move := goodIn_r _ [10, 11, 12, 13, 14, 15, 16, 17, 18, 19, 20, 21, 22, 23, 24, 25] (by decide +kernel) (by decide +kernel)
set_option maxRecDepth 20000 in
theorem gX3_remove_X3_move : GoodIn wsX3_remove (wsV RX3 60 RX3 yX3_move wsX3_move) := goodIn_app (goodIn_of _ (by decide +kernel)) ggX3_remove_X3_move
theorem dX3_remove_0 : decode cX3_remove 0 = .ok (.aload_n 0, 1) := by decide +kernel
theorem dX3_remove_1 : decode cX3_remove 1 = .ok (.iload_n 1, 1) := by decide +kernel
theorem dX3_remove_2 : decode cX3_remove 2 = .ok (.invokevirtual 52, 3) := by decide +kernel
theorem dX3_remove_5 : decode cX3_remove 5 = .ok (.ifCond .eq 39, 3) := by decide +kernel
theorem dX3_remove_8 : decode cX3_remove 8 = .ok (.iload_n 1, 1) := by decide +kernel
theorem dX3_remove_9 : decode cX3_remove 9 = .ok (.iconst 1, 1) := by decide +kernel
theorem dX3_remove_10 : decode cX3_remove 10 = .ok (.iadd, 1) := by decide +kernel
theorem dX3_remove_11 : decode cX3_remove 11 = .ok (.istore_n 2, 1) := by decide +kernel
theorem dX3_remove_12 : decode cX3_remove 12 = .ok (.iload_n 2, 1) := by decide +kernel
theorem dX3_remove_13 : decode cX3_remove 13 = .ok (.aload_n 0, 1) := by decide +kernel
theorem dX3_remove_14 : decode cX3_remove 14 = .ok (.getfield 44, 3) := by decide +kernel
theorem dX3_remove_17 : decode cX3_remove 17 = .ok (.if_icmp .ge 17, 3) := by decide +kernel
theorem dX3_remove_20 : decode cX3_remove 20 = .ok (.aload_n 0, 1) := by decide +kernel
theorem dX3_remove_21 : decode cX3_remove 21 = .ok (.iload_n 2, 1) := by decide +kernel
theorem dX3_remove_22 : decode cX3_remove 22 = .ok (.iload_n 2, 1) := by decide +kernel
theorem dX3_remove_23 : decode cX3_remove 23 = .ok (.iconst 1, 1) := by decide +kernel
theorem dX3_remove_24 : decode cX3_remove 24 = .ok (.isub, 1) := by decide +kernel
theorem dX3_remove_25 : decode cX3_remove 25 = .ok (.invokevirtual 60, 3) := by decide +kernel
theorem dX3_remove_28 : decode cX3_remove 28 = .ok (.iinc 2 1, 3) := by decide +kernel
theorem dX3_remove_31 : decode cX3_remove 31 = .ok (.goto (-19), 3) := by decide +kernel
theorem dX3_remove_34 : decode cX3_remove 34 = .ok (.aload_n 0, 1) := by decide +kernel
theorem dX3_remove_35 : decode cX3_remove 35 = .ok (.dup, 1) := by decide +kernel
theorem dX3_remove_36 : decode cX3_remove 36 = .ok (.getfield 44, 3) := by decide +kernel
theorem dX3_remove_39 : decode cX3_remove 39 = .ok (.iconst 1, 1) := by decide +kernel
theorem dX3_remove_40 : decode cX3_remove 40 = .ok (.isub, 1) := by decide +kernel
theorem dX3_remove_41 : decode cX3_remove 41 = .ok (.putfield 44, 3) := by decide +kernel
theorem dX3_remove_44 : decode cX3_remove 44 = .ok (.return_, 1) := by decide +kernel
set_option maxRecDepth 20000 in
theorem ggX3_isTaken_X3_touching : GoodIn wsX3_isTaken wsX3_touching := goodIn_r _ [5, 6, 7, 8, 9, 4, 10, 11, 12, 13, 14, 15, 16, 17, 18, 19, 20, 21, 22, 23, 24, 25, 26, 27, 28, 29, 30, 31, 32] (by decide +kernel) (by decide +kernel)
set_option maxRecDepth 20000 in
theorem gX3_isTaken_X3_touching : GoodIn wsX3_isTaken (wsV RX3 71 RX3 yX3_touching wsX3_touching) := goodIn_app (goodIn_of _ (by decide +kernel)) ggX3_isTaken_X3_touching
theorem dX3_isTaken_0 : decode cX3_isTaken 0 = .ok (.aload_n 0, 1) := by decide +kernel
theorem dX3_isTaken_1 : decode cX3_isTaken 1 = .ok (.iload_n 1, 1) := by decide +kernel
theorem dX3_isTaken_2 : decode cX3_isTaken 2 = .ok (.iload_n 2, 1) := by decide +kernel
theorem dX3_isTaken_3 : decode cX3_isTaken 3 = .ok (.iload_n 3, 1) := by decide +kernel
theorem dX3_isTaken_4 : decode cX3_isTaken 4 = .ok (.invokevirtual 71, 3) := by decide +kernel
theorem dX3_isTaken_7 : decode cX3_isTaken 7 = .ok (.ifCond .le 7, 3) := by decide +kernel
theorem dX3_isTaken_10 : decode cX3_isTaken 10 = .ok (.iconst 1, 1) := by decide +kernel
theorem dX3_isTaken_11 : decode cX3_isTaken 11 = .ok (.goto 4, 3) := by decide +kernel
theorem dX3_isTaken_14 : decode cX3_isTaken 14 = .ok (.iconst 0, 1) := by decide +kernel
theorem dX3_isTaken_15 : decode cX3_isTaken 15 = .ok (.ireturn, 1) := by decide +kernel
set_option maxRecDepth 20000 in
theorem ggX3_touching_X3_trackOf : GoodIn wsX3_touching wsX3_trackOf := goodIn_r _ [6, 7, 8, 9, 10, 5, 11, 1, 22, 23, 24, 25, 26, 27, 28] (by decide +kernel) (by decide +kernel)
set_option maxRecDepth 20000 in
theorem gX3_touching_X3_trackOf : GoodIn wsX3_touching (wsV RX3 68 RX3 yX3_trackOf wsX3_trackOf) := goodIn_app (goodIn_of _ (by decide +kernel)) ggX3_touching_X3_trackOf
set_option maxRecDepth 20000 in
theorem ggX3_touching_X3_firstOf : GoodIn wsX3_touching wsX3_firstOf := goodIn_r _ [15, 16, 8, 9, 10, 5, 11, 1, 22, 23, 24, 25, 26, 27, 28] (by decide +kernel) (by decide +kernel)
set_option maxRecDepth 20000 in
theorem gX3_touching_X3_firstOf : GoodIn wsX3_touching (wsV RX3 64 RX3 yX3_firstOf wsX3_firstOf) := goodIn_app (goodIn_of _ (by decide +kernel)) ggX3_touching_X3_firstOf
set_option maxRecDepth 20000 in
theorem ggX3_touching_X3_lastOf : GoodIn wsX3_touching wsX3_lastOf := goodIn_r _ [20, 21, 8, 9, 10, 5, 11, 1, 22, 23, 24, 25, 26, 27, 28] (by decide +kernel) (by decide +kernel)
set_option maxRecDepth 20000 in
theorem gX3_touching_X3_lastOf : GoodIn wsX3_touching (wsV RX3 75 RX3 yX3_lastOf wsX3_lastOf) := goodIn_app (goodIn_of _ (by decide +kernel)) ggX3_touching_X3_lastOf
theorem dX3_touching_0 : decode cX3_touching 0 = .ok (.iconst 0, 1) := by decide +kernel
theorem dX3_touching_1 : decode cX3_touching 1 = .ok (.istore 4, 2) := by decide +kernel
theorem dX3_touching_3 : decode cX3_touching 3 = .ok (.iconst 0, 1) := by decide +kernel
theorem dX3_touching_4 : decode cX3_touching 4 = .ok (.istore 5, 2) := by decide +kernel
theorem dX3_touching_6 : decode cX3_touching 6 = .ok (.iload 5, 2) := by decide +kernel
theorem dX3_touching_8 : decode cX3_touching 8 = .ok (.aload_n 0, 1) := by decide +kernel
theorem dX3_touching_9 : decode cX3_touching 9 = .ok (.getfield 44, 3) := by decide +kernel
theorem dX3_touching_12 : decode cX3_touching 12 = .ok (.if_icmp .ge 42, 3) := by decide +kernel
theorem dX3_touching_15 : decode cX3_touching 15 = .ok (.aload_n 0, 1) := by decide +kernel
theorem dX3_touching_16 : decode cX3_touching 16 = .ok (.iload 5, 2) := by decide +kernel
theorem dX3_touching_18 : decode cX3_touching 18 = .ok (.invokevirtual 68, 3) := by decide +kernel
theorem dX3_touching_21 : decode cX3_touching 21 = .ok (.iload_n 1, 1) := by decide +kernel
theorem dX3_touching_22 : decode cX3_touching 22 = .ok (.if_icmp .ne 26, 3) := by decide +kernel
theorem dX3_touching_25 : decode cX3_touching 25 = .ok (.aload_n 0, 1) := by decide +kernel
theorem dX3_touching_26 : decode cX3_touching 26 = .ok (.iload 5, 2) := by decide +kernel
theorem dX3_touching_28 : decode cX3_touching 28 = .ok (.invokevirtual 64, 3) := by decide +kernel
theorem dX3_touching_31 : decode cX3_touching 31 = .ok (.iload_n 3, 1) := by decide +kernel
theorem dX3_touching_32 : decode cX3_touching 32 = .ok (.if_icmp .gt 16, 3) := by decide +kernel
theorem dX3_touching_35 : decode cX3_touching 35 = .ok (.aload_n 0, 1) := by decide +kernel
theorem dX3_touching_36 : decode cX3_touching 36 = .ok (.iload 5, 2) := by decide +kernel
theorem dX3_touching_38 : decode cX3_touching 38 = .ok (.invokevirtual 75, 3) := by decide +kernel
theorem dX3_touching_41 : decode cX3_touching 41 = .ok (.iload_n 2, 1) := by decide +kernel
theorem dX3_touching_42 : decode cX3_touching 42 = .ok (.if_icmp .lt 6, 3) := by decide +kernel
theorem dX3_touching_45 : decode cX3_touching 45 = .ok (.iinc 4 1, 3) := by decide +kernel
theorem dX3_touching_48 : decode cX3_touching 48 = .ok (.iinc 5 1, 3) := by decide +kernel
theorem dX3_touching_51 : decode cX3_touching 51 = .ok (.goto (-45), 3) := by decide +kernel
theorem dX3_touching_54 : decode cX3_touching 54 = .ok (.iload 4, 2) := by decide +kernel
theorem dX3_touching_56 : decode cX3_touching 56 = .ok (.ireturn, 1) := by decide +kernel
set_option maxRecDepth 20000 in
theorem ggX3_tracksAt_X3_firstOf : GoodIn wsX3_tracksAt wsX3_firstOf := goodIn_r _ [6, 7, 8, 9, 10, 5, 11, 1, 22, 23, 24, 25, 26, 27, 28] (by decide +kernel) (by decide +kernel)
set_option maxRecDepth 20000 in
theorem gX3_tracksAt_X3_firstOf : GoodIn wsX3_tracksAt (wsV RX3 64 RX3 yX3_firstOf wsX3_firstOf) := goodIn_app (goodIn_of _ (by decide +kernel)) ggX3_tracksAt_X3_firstOf
set_option maxRecDepth 20000 in
theorem ggX3_tracksAt_X3_lastOf : GoodIn wsX3_tracksAt wsX3_lastOf := goodIn_r _ [15, 16, 8, 9, 10, 5, 11, 1, 22, 23, 24, 25, 26, 27, 28] (by decide +kernel) (by decide +kernel)
set_option maxRecDepth 20000 in
theorem gX3_tracksAt_X3_lastOf : GoodIn wsX3_tracksAt (wsV RX3 75 RX3 yX3_lastOf wsX3_lastOf) := goodIn_app (goodIn_of _ (by decide +kernel)) ggX3_tracksAt_X3_lastOf
set_option maxRecDepth 20000 in
theorem ggX3_tracksAt_X3_trackOf : GoodIn wsX3_tracksAt wsX3_trackOf := goodIn_r _ [20, 21, 8, 9, 10, 5, 11, 1, 22, 23, 24, 25, 26, 27, 28] (by decide +kernel) (by decide +kernel)
set_option maxRecDepth 20000 in
theorem gX3_tracksAt_X3_trackOf : GoodIn wsX3_tracksAt (wsV RX3 68 RX3 yX3_trackOf wsX3_trackOf) := goodIn_app (goodIn_of _ (by decide +kernel)) ggX3_tracksAt_X3_trackOf
theorem dX3_tracksAt_0 : decode cX3_tracksAt 0 = .ok (.iconst 0, 1) := by decide +kernel
theorem dX3_tracksAt_1 : decode cX3_tracksAt 1 = .ok (.istore_n 2, 1) := by decide +kernel
theorem dX3_tracksAt_2 : decode cX3_tracksAt 2 = .ok (.iconst 0, 1) := by decide +kernel
theorem dX3_tracksAt_3 : decode cX3_tracksAt 3 = .ok (.istore_n 3, 1) := by decide +kernel
theorem dX3_tracksAt_4 : decode cX3_tracksAt 4 = .ok (.iload_n 3, 1) := by decide +kernel
theorem dX3_tracksAt_5 : decode cX3_tracksAt 5 = .ok (.aload_n 0, 1) := by decide +kernel
theorem dX3_tracksAt_6 : decode cX3_tracksAt 6 = .ok (.getfield 44, 3) := by decide +kernel
theorem dX3_tracksAt_9 : decode cX3_tracksAt 9 = .ok (.if_icmp .ge 37, 3) := by decide +kernel
theorem dX3_tracksAt_12 : decode cX3_tracksAt 12 = .ok (.aload_n 0, 1) := by decide +kernel
theorem dX3_tracksAt_13 : decode cX3_tracksAt 13 = .ok (.iload_n 3, 1) := by decide +kernel
theorem dX3_tracksAt_14 : decode cX3_tracksAt 14 = .ok (.invokevirtual 64, 3) := by decide +kernel
theorem dX3_tracksAt_17 : decode cX3_tracksAt 17 = .ok (.iload_n 1, 1) := by decide +kernel
theorem dX3_tracksAt_18 : decode cX3_tracksAt 18 = .ok (.if_icmp .gt 22, 3) := by decide +kernel
theorem dX3_tracksAt_21 : decode cX3_tracksAt 21 = .ok (.aload_n 0, 1) := by decide +kernel
theorem dX3_tracksAt_22 : decode cX3_tracksAt 22 = .ok (.iload_n 3, 1) := by decide +kernel
theorem dX3_tracksAt_23 : decode cX3_tracksAt 23 = .ok (.invokevirtual 75, 3) := by decide +kernel
theorem dX3_tracksAt_26 : decode cX3_tracksAt 26 = .ok (.iload_n 1, 1) := by decide +kernel
theorem dX3_tracksAt_27 : decode cX3_tracksAt 27 = .ok (.if_icmp .lt 13, 3) := by decide +kernel
theorem dX3_tracksAt_30 : decode cX3_tracksAt 30 = .ok (.iload_n 2, 1) := by decide +kernel
theorem dX3_tracksAt_31 : decode cX3_tracksAt 31 = .ok (.iconst 1, 1) := by decide +kernel
theorem dX3_tracksAt_32 : decode cX3_tracksAt 32 = .ok (.aload_n 0, 1) := by decide +kernel
theorem dX3_tracksAt_33 : decode cX3_tracksAt 33 = .ok (.iload_n 3, 1) := by decide +kernel
theorem dX3_tracksAt_34 : decode cX3_tracksAt 34 = .ok (.invokevirtual 68, 3) := by decide +kernel
theorem dX3_tracksAt_37 : decode cX3_tracksAt 37 = .ok (.ishl, 1) := by decide +kernel
theorem dX3_tracksAt_38 : decode cX3_tracksAt 38 = .ok (.ior, 1) := by decide +kernel
theorem dX3_tracksAt_39 : decode cX3_tracksAt 39 = .ok (.istore_n 2, 1) := by decide +kernel
theorem dX3_tracksAt_40 : decode cX3_tracksAt 40 = .ok (.iinc 3 1, 3) := by decide +kernel
theorem dX3_tracksAt_43 : decode cX3_tracksAt 43 = .ok (.goto (-39), 3) := by decide +kernel
theorem dX3_tracksAt_46 : decode cX3_tracksAt 46 = .ok (.iload_n 2, 1) := by decide +kernel
theorem dX3_tracksAt_47 : decode cX3_tracksAt 47 = .ok (.ireturn, 1) := by decide +kernel
set_option maxRecDepth 20000 in
theorem ggX3_greatestLast_X3_lastOf : GoodIn wsX3_greatestLast wsX3_lastOf := goodIn_r _ [10, 11, 12, 13, 14, 9, 15, 1, 16, 17, 18, 19, 20, 21, 22] (by decide +kernel) (by decide +kernel)
set_option maxRecDepth 20000 in
theorem gX3_greatestLast_X3_lastOf : GoodIn wsX3_greatestLast (wsV RX3 75 RX3 yX3_lastOf wsX3_lastOf) := goodIn_app (goodIn_of _ (by decide +kernel)) ggX3_greatestLast_X3_lastOf
theorem dX3_greatestLast_0 : decode cX3_greatestLast 0 = .ok (.iconst (-1), 1) := by decide +kernel
theorem dX3_greatestLast_1 : decode cX3_greatestLast 1 = .ok (.istore_n 1, 1) := by decide +kernel
theorem dX3_greatestLast_2 : decode cX3_greatestLast 2 = .ok (.iconst 0, 1) := by decide +kernel
theorem dX3_greatestLast_3 : decode cX3_greatestLast 3 = .ok (.istore_n 2, 1) := by decide +kernel
theorem dX3_greatestLast_4 : decode cX3_greatestLast 4 = .ok (.iload_n 2, 1) := by decide +kernel
theorem dX3_greatestLast_5 : decode cX3_greatestLast 5 = .ok (.aload_n 0, 1) := by decide +kernel
theorem dX3_greatestLast_6 : decode cX3_greatestLast 6 = .ok (.getfield 44, 3) := by decide +kernel
theorem dX3_greatestLast_9 : decode cX3_greatestLast 9 = .ok (.if_icmp .ge 19, 3) := by decide +kernel
theorem dX3_greatestLast_12 : decode cX3_greatestLast 12 = .ok (.iload_n 1, 1) := by decide +kernel
theorem dX3_greatestLast_13 : decode cX3_greatestLast 13 = .ok (.aload_n 0, 1) := by decide +kernel
theorem dX3_greatestLast_14 : decode cX3_greatestLast 14 = .ok (.iload_n 2, 1) := by decide +kernel
theorem dX3_greatestLast_15 : decode cX3_greatestLast 15 = .ok (.invokevirtual 75, 3) := by decide +kernel
theorem dX3_greatestLast_18 : decode cX3_greatestLast 18 = .ok (.invokestatic 78, 3) := by decide +kernel
theorem dX3_greatestLast_21 : decode cX3_greatestLast 21 = .ok (.istore_n 1, 1) := by decide +kernel
theorem dX3_greatestLast_22 : decode cX3_greatestLast 22 = .ok (.iinc 2 1, 3) := by decide +kernel
theorem dX3_greatestLast_25 : decode cX3_greatestLast 25 = .ok (.goto (-21), 3) := by decide +kernel
theorem dX3_greatestLast_28 : decode cX3_greatestLast 28 = .ok (.iload_n 1, 1) := by decide +kernel
theorem dX3_greatestLast_29 : decode cX3_greatestLast 29 = .ok (.ireturn, 1) := by decide +kernel
theorem dX3_lengthen_0 : decode cX3_lengthen 0 = .ok (.iconst 0, 1) := by decide +kernel
theorem dX3_lengthen_1 : decode cX3_lengthen 1 = .ok (.istore_n 3, 1) := by decide +kernel
theorem dX3_lengthen_2 : decode cX3_lengthen 2 = .ok (.iconst 0, 1) := by decide +kernel
theorem dX3_lengthen_3 : decode cX3_lengthen 3 = .ok (.istore 4, 2) := by decide +kernel
theorem dX3_lengthen_5 : decode cX3_lengthen 5 = .ok (.iload 4, 2) := by decide +kernel
theorem dX3_lengthen_7 : decode cX3_lengthen 7 = .ok (.aload_n 0, 1) := by decide +kernel
theorem dX3_lengthen_8 : decode cX3_lengthen 8 = .ok (.getfield 44, 3) := by decide +kernel
theorem dX3_lengthen_11 : decode cX3_lengthen 11 = .ok (.if_icmp .ge 77, 3) := by decide +kernel
theorem dX3_lengthen_14 : decode cX3_lengthen 14 = .ok (.iload 4, 2) := by decide +kernel
theorem dX3_lengthen_16 : decode cX3_lengthen 16 = .ok (.bipush 40, 2) := by decide +kernel
theorem dX3_lengthen_18 : decode cX3_lengthen 18 = .ok (.if_icmp .ge 70, 3) := by decide +kernel
theorem dX3_lengthen_21 : decode cX3_lengthen 21 = .ok (.aload_n 0, 1) := by decide +kernel
theorem dX3_lengthen_22 : decode cX3_lengthen 22 = .ok (.getfield 18, 3) := by decide +kernel
theorem dX3_lengthen_25 : decode cX3_lengthen 25 = .ok (.iload 4, 2) := by decide +kernel
theorem dX3_lengthen_27 : decode cX3_lengthen 27 = .ok (.iaload, 1) := by decide +kernel
theorem dX3_lengthen_28 : decode cX3_lengthen 28 = .ok (.iload_n 1, 1) := by decide +kernel
theorem dX3_lengthen_29 : decode cX3_lengthen 29 = .ok (.if_icmp .lt 28, 3) := by decide +kernel
theorem dX3_lengthen_32 : decode cX3_lengthen 32 = .ok (.aload_n 0, 1) := by decide +kernel
theorem dX3_lengthen_33 : decode cX3_lengthen 33 = .ok (.getfield 18, 3) := by decide +kernel
theorem dX3_lengthen_36 : decode cX3_lengthen 36 = .ok (.iload 4, 2) := by decide +kernel
theorem dX3_lengthen_38 : decode cX3_lengthen 38 = .ok (.dup2, 1) := by decide +kernel
theorem dX3_lengthen_39 : decode cX3_lengthen 39 = .ok (.iaload, 1) := by decide +kernel
theorem dX3_lengthen_40 : decode cX3_lengthen 40 = .ok (.iload_n 2, 1) := by decide +kernel
theorem dX3_lengthen_41 : decode cX3_lengthen 41 = .ok (.iadd, 1) := by decide +kernel
theorem dX3_lengthen_42 : decode cX3_lengthen 42 = .ok (.iastore, 1) := by decide +kernel
theorem dX3_lengthen_43 : decode cX3_lengthen 43 = .ok (.aload_n 0, 1) := by decide +kernel
theorem dX3_lengthen_44 : decode cX3_lengthen 44 = .ok (.getfield 21, 3) := by decide +kernel
theorem dX3_lengthen_47 : decode cX3_lengthen 47 = .ok (.iload 4, 2) := by decide +kernel
theorem dX3_lengthen_49 : decode cX3_lengthen 49 = .ok (.dup2, 1) := by decide +kernel
theorem dX3_lengthen_50 : decode cX3_lengthen 50 = .ok (.iaload, 1) := by decide +kernel
theorem dX3_lengthen_51 : decode cX3_lengthen 51 = .ok (.iload_n 2, 1) := by decide +kernel
theorem dX3_lengthen_52 : decode cX3_lengthen 52 = .ok (.iadd, 1) := by decide +kernel
theorem dX3_lengthen_53 : decode cX3_lengthen 53 = .ok (.iastore, 1) := by decide +kernel
theorem dX3_lengthen_54 : decode cX3_lengthen 54 = .ok (.goto 28, 3) := by decide +kernel
theorem dX3_lengthen_57 : decode cX3_lengthen 57 = .ok (.aload_n 0, 1) := by decide +kernel
theorem dX3_lengthen_58 : decode cX3_lengthen 58 = .ok (.getfield 21, 3) := by decide +kernel
theorem dX3_lengthen_61 : decode cX3_lengthen 61 = .ok (.iload 4, 2) := by decide +kernel
theorem dX3_lengthen_63 : decode cX3_lengthen 63 = .ok (.iaload, 1) := by decide +kernel
theorem dX3_lengthen_64 : decode cX3_lengthen 64 = .ok (.iload_n 1, 1) := by decide +kernel
theorem dX3_lengthen_65 : decode cX3_lengthen 65 = .ok (.if_icmp .lt 17, 3) := by decide +kernel
theorem dX3_lengthen_68 : decode cX3_lengthen 68 = .ok (.aload_n 0, 1) := by decide +kernel
theorem dX3_lengthen_69 : decode cX3_lengthen 69 = .ok (.getfield 21, 3) := by decide +kernel
theorem dX3_lengthen_72 : decode cX3_lengthen 72 = .ok (.iload 4, 2) := by decide +kernel
theorem dX3_lengthen_74 : decode cX3_lengthen 74 = .ok (.dup2, 1) := by decide +kernel
theorem dX3_lengthen_75 : decode cX3_lengthen 75 = .ok (.iaload, 1) := by decide +kernel
theorem dX3_lengthen_76 : decode cX3_lengthen 76 = .ok (.iload_n 2, 1) := by decide +kernel
theorem dX3_lengthen_77 : decode cX3_lengthen 77 = .ok (.iadd, 1) := by decide +kernel
theorem dX3_lengthen_78 : decode cX3_lengthen 78 = .ok (.iastore, 1) := by decide +kernel
theorem dX3_lengthen_79 : decode cX3_lengthen 79 = .ok (.iinc 3 1, 3) := by decide +kernel
theorem dX3_lengthen_82 : decode cX3_lengthen 82 = .ok (.iinc 4 1, 3) := by decide +kernel
theorem dX3_lengthen_85 : decode cX3_lengthen 85 = .ok (.goto (-80), 3) := by decide +kernel
theorem dX3_lengthen_88 : decode cX3_lengthen 88 = .ok (.iload_n 3, 1) := by decide +kernel
theorem dX3_lengthen_89 : decode cX3_lengthen 89 = .ok (.ireturn, 1) := by decide +kernel
set_option maxRecDepth 20000 in
theorem ggX3_takeCut_X3_size : GoodIn wsX3_takeCut wsX3_size := goodIn_r _ [13, 1, 58, 59, 60, 61, 62, 63, 64] (by decide +kernel) (by decide +kernel)
set_option maxRecDepth 20000 in
theorem gX3_takeCut_X3_size : GoodIn wsX3_takeCut (wsV RX3 83 RX3 yX3_size wsX3_size) := goodIn_app (goodIn_of _ (by decide +kernel)) ggX3_takeCut_X3_size
set_option maxRecDepth 20000 in
theorem ggX3_takeCut_X3_firstOf : GoodIn wsX3_takeCut wsX3_firstOf := goodIn_r _ [17, 18, 19, 20, 21, 12, 22, 1, 58, 59, 60, 61, 62, 63, 64] (by decide +kernel) (by decide +kernel)
set_option maxRecDepth 20000 in
theorem gX3_takeCut_X3_firstOf : GoodIn wsX3_takeCut (wsV RX3 64 RX3 yX3_firstOf wsX3_firstOf) := goodIn_app (goodIn_of _ (by decide +kernel)) ggX3_takeCut_X3_firstOf
set_option maxRecDepth 20000 in
theorem ggX3_takeCut_X3_lastOf : GoodIn wsX3_takeCut wsX3_lastOf := goodIn_r _ [26, 27, 19, 20, 21, 12, 22, 1, 58, 59, 60, 61, 62, 63, 64] (by decide +kernel) (by decide +kernel)
set_option maxRecDepth 20000 in
theorem gX3_takeCut_X3_lastOf : GoodIn wsX3_takeCut (wsV RX3 75 RX3 yX3_lastOf wsX3_lastOf) := goodIn_app (goodIn_of _ (by decide +kernel)) ggX3_takeCut_X3_lastOf
set_option maxRecDepth 20000 in
theorem ggX3_takeCut_X3_trackOf : GoodIn wsX3_takeCut wsX3_trackOf := goodIn_r _ [31, 32, 19, 20, 21, 12, 22, 1, 58, 59, 60, 61, 62, 63, 64] (by decide +kernel) (by decide +kernel)
set_option maxRecDepth 20000 in
theorem gX3_takeCut_X3_trackOf : GoodIn wsX3_takeCut (wsV RX3 68 RX3 yX3_trackOf wsX3_trackOf) := goodIn_app (goodIn_of _ (by decide +kernel)) ggX3_takeCut_X3_trackOf
set_option maxRecDepth 20000 in
theorem ggX3_takeCut_X3_shiftOf : GoodIn wsX3_takeCut wsX3_shiftOf := goodIn_r _ [36, 37, 19, 20, 21, 12, 22, 1, 58, 59, 60, 61, 62, 63, 64] (by decide +kernel) (by decide +kernel)
set_option maxRecDepth 20000 in
theorem gX3_takeCut_X3_shiftOf : GoodIn wsX3_takeCut (wsV RX3 90 RX3 yX3_shiftOf wsX3_shiftOf) := goodIn_app (goodIn_of _ (by decide +kernel)) ggX3_takeCut_X3_shiftOf
set_option maxRecDepth 20000 in
theorem ggX3_takeCut_X3_hasAccent : GoodIn wsX3_takeCut wsX3_hasAccent := goodIn_r _ [41, 42, 19, 20, 21, 12, 22, 1, 58, 59, 60, 61, 62, 63, 64] (by decide +kernel) (by decide +kernel)
set_option maxRecDepth 20000 in
theorem gX3_takeCut_X3_hasAccent : GoodIn wsX3_takeCut (wsV RX3 93 RX3 yX3_hasAccent wsX3_hasAccent) := goodIn_app (goodIn_of _ (by decide +kernel)) ggX3_takeCut_X3_hasAccent
set_option maxRecDepth 20000 in
theorem ggX3_takeCut_X3_add : GoodIn wsX3_takeCut wsX3_add := goodIn_r _ [46, 1, 32, 18, 27, 37, 42, 47, 48, 49, 12, 50, 14, 15, 16, 17, 19, 20, 21, 22, 28, 29, 30, 31, 51, 52, 53, 54, 55, 56, 57, 58, 59, 60, 61, 62, 63, 64] (by decide +kernel) (by decide +kernel)
set_option maxRecDepth 20000 in
theorem gX3_takeCut_X3_add : GoodIn wsX3_takeCut (wsV RX3 96 RX3 yX3_add wsX3_add) := goodIn_app (goodIn_of _ (by decide +kernel)) ggX3_takeCut_X3_add
theorem dX3_takeCut_0 : decode cX3_takeCut 0 = .ok (.iload_n 2, 1) := by decide +kernel
theorem dX3_takeCut_1 : decode cX3_takeCut 1 = .ok (.iload_n 3, 1) := by decide +kernel
theorem dX3_takeCut_2 : decode cX3_takeCut 2 = .ok (.iadd, 1) := by decide +kernel
theorem dX3_takeCut_3 : decode cX3_takeCut 3 = .ok (.istore 4, 2) := by decide +kernel
theorem dX3_takeCut_5 : decode cX3_takeCut 5 = .ok (.aload_n 0, 1) := by decide +kernel
theorem dX3_takeCut_6 : decode cX3_takeCut 6 = .ok (.iconst 0, 1) := by decide +kernel
theorem dX3_takeCut_7 : decode cX3_takeCut 7 = .ok (.putfield 44, 3) := by decide +kernel
theorem dX3_takeCut_10 : decode cX3_takeCut 10 = .ok (.iconst 0, 1) := by decide +kernel
theorem dX3_takeCut_11 : decode cX3_takeCut 11 = .ok (.istore 5, 2) := by decide +kernel
theorem dX3_takeCut_13 : decode cX3_takeCut 13 = .ok (.iload 5, 2) := by decide +kernel
theorem dX3_takeCut_15 : decode cX3_takeCut 15 = .ok (.aload_n 1, 1) := by decide +kernel
theorem dX3_takeCut_16 : decode cX3_takeCut 16 = .ok (.invokevirtual 83, 3) := by decide +kernel
theorem dX3_takeCut_19 : decode cX3_takeCut 19 = .ok (.if_icmp .ge 111, 3) := by decide +kernel
theorem dX3_takeCut_22 : decode cX3_takeCut 22 = .ok (.aload_n 1, 1) := by decide +kernel
theorem dX3_takeCut_23 : decode cX3_takeCut 23 = .ok (.iload 5, 2) := by decide +kernel
theorem dX3_takeCut_25 : decode cX3_takeCut 25 = .ok (.invokevirtual 64, 3) := by decide +kernel
theorem dX3_takeCut_28 : decode cX3_takeCut 28 = .ok (.istore 6, 2) := by decide +kernel
theorem dX3_takeCut_30 : decode cX3_takeCut 30 = .ok (.aload_n 1, 1) := by decide +kernel
theorem dX3_takeCut_31 : decode cX3_takeCut 31 = .ok (.iload 5, 2) := by decide +kernel
theorem dX3_takeCut_33 : decode cX3_takeCut 33 = .ok (.invokevirtual 75, 3) := by decide +kernel
theorem dX3_takeCut_36 : decode cX3_takeCut 36 = .ok (.istore 7, 2) := by decide +kernel
theorem dX3_takeCut_38 : decode cX3_takeCut 38 = .ok (.iload 6, 2) := by decide +kernel
theorem dX3_takeCut_40 : decode cX3_takeCut 40 = .ok (.iload_n 2, 1) := by decide +kernel
theorem dX3_takeCut_41 : decode cX3_takeCut 41 = .ok (.if_icmp .lt 10, 3) := by decide +kernel
theorem dX3_takeCut_44 : decode cX3_takeCut 44 = .ok (.iload 7, 2) := by decide +kernel
theorem dX3_takeCut_46 : decode cX3_takeCut 46 = .ok (.iload 4, 2) := by decide +kernel
theorem dX3_takeCut_48 : decode cX3_takeCut 48 = .ok (.if_icmp .lt 76, 3) := by decide +kernel
theorem dX3_takeCut_51 : decode cX3_takeCut 51 = .ok (.iload 6, 2) := by decide +kernel
theorem dX3_takeCut_53 : decode cX3_takeCut 53 = .ok (.iload_n 2, 1) := by decide +kernel
theorem dX3_takeCut_54 : decode cX3_takeCut 54 = .ok (.if_icmp .ge 8, 3) := by decide +kernel
theorem dX3_takeCut_57 : decode cX3_takeCut 57 = .ok (.iload 6, 2) := by decide +kernel
theorem dX3_takeCut_59 : decode cX3_takeCut 59 = .ok (.goto 12, 3) := by decide +kernel
theorem dX3_takeCut_62 : decode cX3_takeCut 62 = .ok (.iload 6, 2) := by decide +kernel
theorem dX3_takeCut_64 : decode cX3_takeCut 64 = .ok (.iload 4, 2) := by decide +kernel
theorem dX3_takeCut_66 : decode cX3_takeCut 66 = .ok (.invokestatic 78, 3) := by decide +kernel
theorem dX3_takeCut_69 : decode cX3_takeCut 69 = .ok (.iload_n 3, 1) := by decide +kernel
theorem dX3_takeCut_70 : decode cX3_takeCut 70 = .ok (.isub, 1) := by decide +kernel
theorem dX3_takeCut_71 : decode cX3_takeCut 71 = .ok (.istore 8, 2) := by decide +kernel
theorem dX3_takeCut_73 : decode cX3_takeCut 73 = .ok (.iload 7, 2) := by decide +kernel
theorem dX3_takeCut_75 : decode cX3_takeCut 75 = .ok (.iload 4, 2) := by decide +kernel
theorem dX3_takeCut_77 : decode cX3_takeCut 77 = .ok (.if_icmp .ge 14, 3) := by decide +kernel
theorem dX3_takeCut_80 : decode cX3_takeCut 80 = .ok (.iload 7, 2) := by decide +kernel
theorem dX3_takeCut_82 : decode cX3_takeCut 82 = .ok (.iload_n 2, 1) := by decide +kernel
theorem dX3_takeCut_83 : decode cX3_takeCut 83 = .ok (.iconst 1, 1) := by decide +kernel
theorem dX3_takeCut_84 : decode cX3_takeCut 84 = .ok (.isub, 1) := by decide +kernel
theorem dX3_takeCut_85 : decode cX3_takeCut 85 = .ok (.invokestatic 87, 3) := by decide +kernel
theorem dX3_takeCut_88 : decode cX3_takeCut 88 = .ok (.goto 7, 3) := by decide +kernel
theorem dX3_takeCut_91 : decode cX3_takeCut 91 = .ok (.iload 7, 2) := by decide +kernel
theorem dX3_takeCut_93 : decode cX3_takeCut 93 = .ok (.iload_n 3, 1) := by decide +kernel
theorem dX3_takeCut_94 : decode cX3_takeCut 94 = .ok (.isub, 1) := by decide +kernel
theorem dX3_takeCut_95 : decode cX3_takeCut 95 = .ok (.istore 9, 2) := by decide +kernel
theorem dX3_takeCut_97 : decode cX3_takeCut 97 = .ok (.aload_n 0, 1) := by decide +kernel
theorem dX3_takeCut_98 : decode cX3_takeCut 98 = .ok (.aload_n 1, 1) := by decide +kernel
theorem dX3_takeCut_99 : decode cX3_takeCut 99 = .ok (.iload 5, 2) := by decide +kernel
theorem dX3_takeCut_101 : decode cX3_takeCut 101 = .ok (.invokevirtual 68, 3) := by decide +kernel
theorem dX3_takeCut_104 : decode cX3_takeCut 104 = .ok (.iload 8, 2) := by decide +kernel
theorem dX3_takeCut_106 : decode cX3_takeCut 106 = .ok (.iload 9, 2) := by decide +kernel
theorem dX3_takeCut_108 : decode cX3_takeCut 108 = .ok (.aload_n 1, 1) := by decide +kernel
theorem dX3_takeCut_109 : decode cX3_takeCut 109 = .ok (.iload 5, 2) := by decide +kernel
theorem dX3_takeCut_111 : decode cX3_takeCut 111 = .ok (.invokevirtual 90, 3) := by decide +kernel
theorem dX3_takeCut_114 : decode cX3_takeCut 114 = .ok (.aload_n 1, 1) := by decide +kernel
theorem dX3_takeCut_115 : decode cX3_takeCut 115 = .ok (.iload 5, 2) := by decide +kernel
theorem dX3_takeCut_117 : decode cX3_takeCut 117 = .ok (.invokevirtual 93, 3) := by decide +kernel
theorem dX3_takeCut_120 : decode cX3_takeCut 120 = .ok (.invokevirtual 96, 3) := by decide +kernel
theorem dX3_takeCut_123 : decode cX3_takeCut 123 = .ok (.pop, 1) := by decide +kernel
theorem dX3_takeCut_124 : decode cX3_takeCut 124 = .ok (.iinc 5 1, 3) := by decide +kernel
theorem dX3_takeCut_127 : decode cX3_takeCut 127 = .ok (.goto (-114), 3) := by decide +kernel
theorem dX3_takeCut_130 : decode cX3_takeCut 130 = .ok (.return_, 1) := by decide +kernel
set_option maxRecDepth 20000 in
theorem ggX3_liesWithin_X3_has : GoodIn wsX3_liesWithin wsX3_has := goodIn_r _ [5, 6, 17, 18, 19, 20, 21, 22, 23] (by decide +kernel) (by decide +kernel)
set_option maxRecDepth 20000 in
theorem gX3_liesWithin_X3_has : GoodIn wsX3_liesWithin (wsV RX3 52 RX3 yX3_has wsX3_has) := goodIn_app (goodIn_of _ (by decide +kernel)) ggX3_liesWithin_X3_has
set_option maxRecDepth 20000 in
theorem ggX3_liesWithin_X3_firstOf : GoodIn wsX3_liesWithin wsX3_firstOf := goodIn_r _ [10, 11, 1, 2, 3, 4, 5, 6, 17, 18, 19, 20, 21, 22, 23] (by decide +kernel) (by decide +kernel)
set_option maxRecDepth 20000 in
theorem gX3_liesWithin_X3_firstOf : GoodIn wsX3_liesWithin (wsV RX3 64 RX3 yX3_firstOf wsX3_firstOf) := goodIn_app (goodIn_of _ (by decide +kernel)) ggX3_liesWithin_X3_firstOf
set_option maxRecDepth 20000 in
theorem ggX3_liesWithin_X3_lastOf : GoodIn wsX3_liesWithin wsX3_lastOf := goodIn_r _ [15, 16, 1, 2, 3, 4, 5, 6, 17, 18, 19, 20, 21, 22, 23] (by decide +kernel) (by decide +kernel)
set_option maxRecDepth 20000 in
theorem gX3_liesWithin_X3_lastOf : GoodIn wsX3_liesWithin (wsV RX3 75 RX3 yX3_lastOf wsX3_lastOf) := goodIn_app (goodIn_of _ (by decide +kernel)) ggX3_liesWithin_X3_lastOf
theorem dX3_liesWithin_0 : decode cX3_liesWithin 0 = .ok (.aload_n 0, 1) := by decide +kernel
theorem dX3_liesWithin_1 : decode cX3_liesWithin 1 = .ok (.iload_n 1, 1) := by decide +kernel
theorem dX3_liesWithin_2 : decode cX3_liesWithin 2 = .ok (.invokevirtual 52, 3) := by decide +kernel
theorem dX3_liesWithin_5 : decode cX3_liesWithin 5 = .ok (.ifCond .eq 25, 3) := by decide +kernel
theorem dX3_liesWithin_8 : decode cX3_liesWithin 8 = .ok (.aload_n 0, 1) := by decide +kernel
theorem dX3_liesWithin_9 : decode cX3_liesWithin 9 = .ok (.iload_n 1, 1) := by decide +kernel
theorem dX3_liesWithin_10 : decode cX3_liesWithin 10 = .ok (.invokevirtual 64, 3) := by decide +kernel
theorem dX3_liesWithin_13 : decode cX3_liesWithin 13 = .ok (.iload_n 2, 1) := by decide +kernel
theorem dX3_liesWithin_14 : decode cX3_liesWithin 14 = .ok (.if_icmp .lt 16, 3) := by decide +kernel
theorem dX3_liesWithin_17 : decode cX3_liesWithin 17 = .ok (.aload_n 0, 1) := by decide +kernel
theorem dX3_liesWithin_18 : decode cX3_liesWithin 18 = .ok (.iload_n 1, 1) := by decide +kernel
theorem dX3_liesWithin_19 : decode cX3_liesWithin 19 = .ok (.invokevirtual 75, 3) := by decide +kernel
theorem dX3_liesWithin_22 : decode cX3_liesWithin 22 = .ok (.iload_n 3, 1) := by decide +kernel
theorem dX3_liesWithin_23 : decode cX3_liesWithin 23 = .ok (.if_icmp .gt 7, 3) := by decide +kernel
theorem dX3_liesWithin_26 : decode cX3_liesWithin 26 = .ok (.iconst 1, 1) := by decide +kernel
theorem dX3_liesWithin_27 : decode cX3_liesWithin 27 = .ok (.goto 4, 3) := by decide +kernel
theorem dX3_liesWithin_30 : decode cX3_liesWithin 30 = .ok (.iconst 0, 1) := by decide +kernel
theorem dX3_liesWithin_31 : decode cX3_liesWithin 31 = .ok (.ireturn, 1) := by decide +kernel
set_option maxRecDepth 20000 in
theorem ggX3_within_X3_liesWithin : GoodIn wsX3_within wsX3_liesWithin := goodIn_r _ [6, 7, 8, 9, 5, 10, 1, 11, 12, 13, 14, 15, 16, 17, 18, 19, 20, 21, 22, 23, 24, 25, 26, 27] (by decide +kernel) (by decide +kernel)
set_option maxRecDepth 20000 in
theorem gX3_within_X3_liesWithin : GoodIn wsX3_within (wsV RX3 100 RX3 yX3_liesWithin wsX3_liesWithin) := goodIn_app (goodIn_of _ (by decide +kernel)) ggX3_within_X3_liesWithin
theorem dX3_within_0 : decode cX3_within 0 = .ok (.iconst 0, 1) := by decide +kernel
theorem dX3_within_1 : decode cX3_within 1 = .ok (.istore_n 3, 1) := by decide +kernel
theorem dX3_within_2 : decode cX3_within 2 = .ok (.iconst 0, 1) := by decide +kernel
theorem dX3_within_3 : decode cX3_within 3 = .ok (.istore 4, 2) := by decide +kernel
theorem dX3_within_5 : decode cX3_within 5 = .ok (.iload 4, 2) := by decide +kernel
theorem dX3_within_7 : decode cX3_within 7 = .ok (.aload_n 0, 1) := by decide +kernel
theorem dX3_within_8 : decode cX3_within 8 = .ok (.getfield 44, 3) := by decide +kernel
theorem dX3_within_11 : decode cX3_within 11 = .ok (.if_icmp .ge 23, 3) := by decide +kernel
theorem dX3_within_14 : decode cX3_within 14 = .ok (.aload_n 0, 1) := by decide +kernel
theorem dX3_within_15 : decode cX3_within 15 = .ok (.iload 4, 2) := by decide +kernel
theorem dX3_within_17 : decode cX3_within 17 = .ok (.iload_n 1, 1) := by decide +kernel
theorem dX3_within_18 : decode cX3_within 18 = .ok (.iload_n 2, 1) := by decide +kernel
theorem dX3_within_19 : decode cX3_within 19 = .ok (.invokevirtual 100, 3) := by decide +kernel
theorem dX3_within_22 : decode cX3_within 22 = .ok (.ifCond .eq 6, 3) := by decide +kernel
theorem dX3_within_25 : decode cX3_within 25 = .ok (.iinc 3 1, 3) := by decide +kernel
theorem dX3_within_28 : decode cX3_within 28 = .ok (.iinc 4 1, 3) := by decide +kernel
theorem dX3_within_31 : decode cX3_within 31 = .ok (.goto (-26), 3) := by decide +kernel
theorem dX3_within_34 : decode cX3_within 34 = .ok (.iload_n 3, 1) := by decide +kernel
theorem dX3_within_35 : decode cX3_within 35 = .ok (.ireturn, 1) := by decide +kernel
set_option maxRecDepth 20000 in
theorem ggX3_addPassage_X3_size : GoodIn wsX3_addPassage wsX3_size := goodIn_r _ [5, 6, 55, 56, 57, 58, 59, 60, 61] (by decide +kernel) (by decide +kernel)
set_option maxRecDepth 20000 in
theorem gX3_addPassage_X3_size : GoodIn wsX3_addPassage (wsV RX3 83 RX3 yX3_size wsX3_size) := goodIn_app (goodIn_of _ (by decide +kernel)) ggX3_addPassage_X3_size
set_option maxRecDepth 20000 in
theorem ggX3_addPassage_X3_liesWithin : GoodIn wsX3_addPassage wsX3_liesWithin := goodIn_r _ [10, 11, 12, 13, 4, 14, 6, 15, 16, 17, 18, 19, 20, 21, 22, 23, 24, 55, 56, 57, 58, 59, 60, 61] (by decide +kernel) (by decide +kernel)
set_option maxRecDepth 20000 in
theorem gX3_addPassage_X3_liesWithin : GoodIn wsX3_addPassage (wsV RX3 100 RX3 yX3_liesWithin wsX3_liesWithin) := goodIn_app (goodIn_of _ (by decide +kernel)) ggX3_addPassage_X3_liesWithin
set_option maxRecDepth 20000 in
theorem ggX3_addPassage_X3_firstOf : GoodIn wsX3_addPassage wsX3_firstOf := goodIn_r _ [18, 19, 11, 12, 13, 4, 14, 6, 55, 56, 57, 58, 59, 60, 61] (by decide +kernel) (by decide +kernel)
set_option maxRecDepth 20000 in
theorem gX3_addPassage_X3_firstOf : GoodIn wsX3_addPassage (wsV RX3 64 RX3 yX3_firstOf wsX3_firstOf) := goodIn_app (goodIn_of _ (by decide +kernel)) ggX3_addPassage_X3_firstOf
set_option maxRecDepth 20000 in
theorem ggX3_addPassage_X3_lastOf : GoodIn wsX3_addPassage wsX3_lastOf := goodIn_r _ [23, 24, 11, 12, 13, 4, 14, 6, 55, 56, 57, 58, 59, 60, 61] (by decide +kernel) (by decide +kernel)
set_option maxRecDepth 20000 in
theorem gX3_addPassage_X3_lastOf : GoodIn wsX3_addPassage (wsV RX3 75 RX3 yX3_lastOf wsX3_lastOf) := goodIn_app (goodIn_of _ (by decide +kernel)) ggX3_addPassage_X3_lastOf
set_option maxRecDepth 20000 in
theorem ggX3_addPassage_X3_trackOf : GoodIn wsX3_addPassage wsX3_trackOf := goodIn_r _ [28, 29, 11, 12, 13, 4, 14, 6, 55, 56, 57, 58, 59, 60, 61] (by decide +kernel) (by decide +kernel)
set_option maxRecDepth 20000 in
theorem gX3_addPassage_X3_trackOf : GoodIn wsX3_addPassage (wsV RX3 68 RX3 yX3_trackOf wsX3_trackOf) := goodIn_app (goodIn_of _ (by decide +kernel)) ggX3_addPassage_X3_trackOf
set_option maxRecDepth 20000 in
theorem ggX3_addPassage_X3_shiftOf : GoodIn wsX3_addPassage wsX3_shiftOf := goodIn_r _ [33, 34, 11, 12, 13, 4, 14, 6, 55, 56, 57, 58, 59, 60, 61] (by decide +kernel) (by decide +kernel)
set_option maxRecDepth 20000 in
theorem gX3_addPassage_X3_shiftOf : GoodIn wsX3_addPassage (wsV RX3 90 RX3 yX3_shiftOf wsX3_shiftOf) := goodIn_app (goodIn_of _ (by decide +kernel)) ggX3_addPassage_X3_shiftOf
set_option maxRecDepth 20000 in
theorem ggX3_addPassage_X3_hasAccent : GoodIn wsX3_addPassage wsX3_hasAccent := goodIn_r _ [38, 39, 11, 12, 13, 4, 14, 6, 55, 56, 57, 58, 59, 60, 61] (by decide +kernel) (by decide +kernel)
set_option maxRecDepth 20000 in
theorem gX3_addPassage_X3_hasAccent : GoodIn wsX3_addPassage (wsV RX3 93 RX3 yX3_hasAccent wsX3_hasAccent) := goodIn_app (goodIn_of _ (by decide +kernel)) ggX3_addPassage_X3_hasAccent
set_option maxRecDepth 20000 in
theorem ggX3_addPassage_X3_add : GoodIn wsX3_addPassage wsX3_add := goodIn_r _ [43, 6, 29, 19, 24, 34, 39, 44, 45, 46, 4, 47, 15, 16, 17, 18, 11, 12, 13, 14, 25, 26, 27, 28, 48, 49, 50, 51, 52, 53, 54, 55, 56, 57, 58, 59, 60, 61] (by decide +kernel) (by decide +kernel)
set_option maxRecDepth 20000 in
theorem gX3_addPassage_X3_add : GoodIn wsX3_addPassage (wsV RX3 96 RX3 yX3_add wsX3_add) := goodIn_app (goodIn_of _ (by decide +kernel)) ggX3_addPassage_X3_add
theorem dX3_addPassage_0 : decode cX3_addPassage 0 = .ok (.iconst 0, 1) := by decide +kernel
theorem dX3_addPassage_1 : decode cX3_addPassage 1 = .ok (.istore 5, 2) := by decide +kernel
theorem dX3_addPassage_3 : decode cX3_addPassage 3 = .ok (.iload 5, 2) := by decide +kernel
theorem dX3_addPassage_5 : decode cX3_addPassage 5 = .ok (.aload_n 1, 1) := by decide +kernel
theorem dX3_addPassage_6 : decode cX3_addPassage 6 = .ok (.invokevirtual 83, 3) := by decide +kernel
theorem dX3_addPassage_9 : decode cX3_addPassage 9 = .ok (.if_icmp .ge 73, 3) := by decide +kernel
theorem dX3_addPassage_12 : decode cX3_addPassage 12 = .ok (.aload_n 1, 1) := by decide +kernel
theorem dX3_addPassage_13 : decode cX3_addPassage 13 = .ok (.iload 5, 2) := by decide +kernel
theorem dX3_addPassage_15 : decode cX3_addPassage 15 = .ok (.iload_n 2, 1) := by decide +kernel
theorem dX3_addPassage_16 : decode cX3_addPassage 16 = .ok (.iload_n 3, 1) := by decide +kernel
theorem dX3_addPassage_17 : decode cX3_addPassage 17 = .ok (.invokevirtual 100, 3) := by decide +kernel
theorem dX3_addPassage_20 : decode cX3_addPassage 20 = .ok (.ifCond .eq 56, 3) := by decide +kernel
theorem dX3_addPassage_23 : decode cX3_addPassage 23 = .ok (.aload_n 1, 1) := by decide +kernel
theorem dX3_addPassage_24 : decode cX3_addPassage 24 = .ok (.iload 5, 2) := by decide +kernel
theorem dX3_addPassage_26 : decode cX3_addPassage 26 = .ok (.invokevirtual 64, 3) := by decide +kernel
theorem dX3_addPassage_29 : decode cX3_addPassage 29 = .ok (.iload_n 2, 1) := by decide +kernel
theorem dX3_addPassage_30 : decode cX3_addPassage 30 = .ok (.isub, 1) := by decide +kernel
theorem dX3_addPassage_31 : decode cX3_addPassage 31 = .ok (.iload 4, 2) := by decide +kernel
theorem dX3_addPassage_33 : decode cX3_addPassage 33 = .ok (.iadd, 1) := by decide +kernel
theorem dX3_addPassage_34 : decode cX3_addPassage 34 = .ok (.istore 6, 2) := by decide +kernel
theorem dX3_addPassage_36 : decode cX3_addPassage 36 = .ok (.aload_n 1, 1) := by decide +kernel
theorem dX3_addPassage_37 : decode cX3_addPassage 37 = .ok (.iload 5, 2) := by decide +kernel
theorem dX3_addPassage_39 : decode cX3_addPassage 39 = .ok (.invokevirtual 75, 3) := by decide +kernel
theorem dX3_addPassage_42 : decode cX3_addPassage 42 = .ok (.iload_n 2, 1) := by decide +kernel
theorem dX3_addPassage_43 : decode cX3_addPassage 43 = .ok (.isub, 1) := by decide +kernel
theorem dX3_addPassage_44 : decode cX3_addPassage 44 = .ok (.iload 4, 2) := by decide +kernel
theorem dX3_addPassage_46 : decode cX3_addPassage 46 = .ok (.iadd, 1) := by decide +kernel
theorem dX3_addPassage_47 : decode cX3_addPassage 47 = .ok (.istore 7, 2) := by decide +kernel
theorem dX3_addPassage_49 : decode cX3_addPassage 49 = .ok (.aload_n 0, 1) := by decide +kernel
theorem dX3_addPassage_50 : decode cX3_addPassage 50 = .ok (.aload_n 1, 1) := by decide +kernel
theorem dX3_addPassage_51 : decode cX3_addPassage 51 = .ok (.iload 5, 2) := by decide +kernel
theorem dX3_addPassage_53 : decode cX3_addPassage 53 = .ok (.invokevirtual 68, 3) := by decide +kernel
theorem dX3_addPassage_56 : decode cX3_addPassage 56 = .ok (.iload 6, 2) := by decide +kernel
theorem dX3_addPassage_58 : decode cX3_addPassage 58 = .ok (.iload 7, 2) := by decide +kernel
theorem dX3_addPassage_60 : decode cX3_addPassage 60 = .ok (.aload_n 1, 1) := by decide +kernel
theorem dX3_addPassage_61 : decode cX3_addPassage 61 = .ok (.iload 5, 2) := by decide +kernel
theorem dX3_addPassage_63 : decode cX3_addPassage 63 = .ok (.invokevirtual 90, 3) := by decide +kernel
theorem dX3_addPassage_66 : decode cX3_addPassage 66 = .ok (.aload_n 1, 1) := by decide +kernel
theorem dX3_addPassage_67 : decode cX3_addPassage 67 = .ok (.iload 5, 2) := by decide +kernel
theorem dX3_addPassage_69 : decode cX3_addPassage 69 = .ok (.invokevirtual 93, 3) := by decide +kernel
theorem dX3_addPassage_72 : decode cX3_addPassage 72 = .ok (.invokevirtual 96, 3) := by decide +kernel
theorem dX3_addPassage_75 : decode cX3_addPassage 75 = .ok (.pop, 1) := by decide +kernel
theorem dX3_addPassage_76 : decode cX3_addPassage 76 = .ok (.iinc 5 1, 3) := by decide +kernel
theorem dX3_addPassage_79 : decode cX3_addPassage 79 = .ok (.goto (-76), 3) := by decide +kernel
theorem dX3_addPassage_82 : decode cX3_addPassage 82 = .ok (.return_, 1) := by decide +kernel
set_option maxRecDepth 20000 in
theorem ggX3_isHole_X3_firstOf : GoodIn wsX3_isHole wsX3_firstOf := goodIn_r _ [6, 7, 8, 9, 10, 5, 11, 12, 23, 24, 25, 26, 27, 28, 29] (by decide +kernel) (by decide +kernel)
set_option maxRecDepth 20000 in
theorem gX3_isHole_X3_firstOf : GoodIn wsX3_isHole (wsV RX3 64 RX3 yX3_firstOf wsX3_firstOf) := goodIn_app (goodIn_of _ (by decide +kernel)) ggX3_isHole_X3_firstOf
set_option maxRecDepth 20000 in
theorem ggX3_isHole_X3_lastOf : GoodIn wsX3_isHole wsX3_lastOf := goodIn_r _ [16, 17, 8, 9, 10, 5, 11, 12, 23, 24, 25, 26, 27, 28, 29] (by decide +kernel) (by decide +kernel)
set_option maxRecDepth 20000 in
theorem gX3_isHole_X3_lastOf : GoodIn wsX3_isHole (wsV RX3 75 RX3 yX3_lastOf wsX3_lastOf) := goodIn_app (goodIn_of _ (by decide +kernel)) ggX3_isHole_X3_lastOf
set_option maxRecDepth 20000 in
theorem ggX3_isHole_X3_shiftOf : GoodIn wsX3_isHole wsX3_shiftOf := goodIn_r _ [21, 22, 8, 9, 10, 5, 11, 12, 23, 24, 25, 26, 27, 28, 29] (by decide +kernel) (by decide +kernel)
set_option maxRecDepth 20000 in
theorem gX3_isHole_X3_shiftOf : GoodIn wsX3_isHole (wsV RX3 90 RX3 yX3_shiftOf wsX3_shiftOf) := goodIn_app (goodIn_of _ (by decide +kernel)) ggX3_isHole_X3_shiftOf
theorem dX3_isHole_0 : decode cX3_isHole 0 = .ok (.iload_n 2, 1) := by decide +kernel
theorem dX3_isHole_1 : decode cX3_isHole 1 = .ok (.aload_n 0, 1) := by decide +kernel
theorem dX3_isHole_2 : decode cX3_isHole 2 = .ok (.iload_n 1, 1) := by decide +kernel
theorem dX3_isHole_3 : decode cX3_isHole 3 = .ok (.invokevirtual 64, 3) := by decide +kernel
theorem dX3_isHole_6 : decode cX3_isHole 6 = .ok (.if_icmp .eq 12, 3) := by decide +kernel
theorem dX3_isHole_9 : decode cX3_isHole 9 = .ok (.iload_n 2, 1) := by decide +kernel
theorem dX3_isHole_10 : decode cX3_isHole 10 = .ok (.aload_n 0, 1) := by decide +kernel
theorem dX3_isHole_11 : decode cX3_isHole 11 = .ok (.iload_n 1, 1) := by decide +kernel
theorem dX3_isHole_12 : decode cX3_isHole 12 = .ok (.invokevirtual 75, 3) := by decide +kernel
theorem dX3_isHole_15 : decode cX3_isHole 15 = .ok (.if_icmp .ne 5, 3) := by decide +kernel
theorem dX3_isHole_18 : decode cX3_isHole 18 = .ok (.iconst 1, 1) := by decide +kernel
theorem dX3_isHole_19 : decode cX3_isHole 19 = .ok (.ireturn, 1) := by decide +kernel
theorem dX3_isHole_20 : decode cX3_isHole 20 = .ok (.aload_n 0, 1) := by decide +kernel
theorem dX3_isHole_21 : decode cX3_isHole 21 = .ok (.getfield 9, 3) := by decide +kernel
theorem dX3_isHole_24 : decode cX3_isHole 24 = .ok (.iconst 0, 1) := by decide +kernel
theorem dX3_isHole_25 : decode cX3_isHole 25 = .ok (.iaload, 1) := by decide +kernel
theorem dX3_isHole_26 : decode cX3_isHole 26 = .ok (.aload_n 0, 1) := by decide +kernel
theorem dX3_isHole_27 : decode cX3_isHole 27 = .ok (.getfield 9, 3) := by decide +kernel
theorem dX3_isHole_30 : decode cX3_isHole 30 = .ok (.iconst 1, 1) := by decide +kernel
theorem dX3_isHole_31 : decode cX3_isHole 31 = .ok (.iaload, 1) := by decide +kernel
theorem dX3_isHole_32 : decode cX3_isHole 32 = .ok (.iadd, 1) := by decide +kernel
theorem dX3_isHole_33 : decode cX3_isHole 33 = .ok (.istore_n 3, 1) := by decide +kernel
theorem dX3_isHole_34 : decode cX3_isHole 34 = .ok (.iload_n 2, 1) := by decide +kernel
theorem dX3_isHole_35 : decode cX3_isHole 35 = .ok (.aload_n 0, 1) := by decide +kernel
theorem dX3_isHole_36 : decode cX3_isHole 36 = .ok (.iload_n 1, 1) := by decide +kernel
theorem dX3_isHole_37 : decode cX3_isHole 37 = .ok (.invokevirtual 64, 3) := by decide +kernel
theorem dX3_isHole_40 : decode cX3_isHole 40 = .ok (.isub, 1) := by decide +kernel
theorem dX3_isHole_41 : decode cX3_isHole 41 = .ok (.aload_n 0, 1) := by decide +kernel
theorem dX3_isHole_42 : decode cX3_isHole 42 = .ok (.iload_n 1, 1) := by decide +kernel
theorem dX3_isHole_43 : decode cX3_isHole 43 = .ok (.invokevirtual 90, 3) := by decide +kernel
theorem dX3_isHole_46 : decode cX3_isHole 46 = .ok (.iadd, 1) := by decide +kernel
theorem dX3_isHole_47 : decode cX3_isHole 47 = .ok (.istore 4, 2) := by decide +kernel
theorem dX3_isHole_49 : decode cX3_isHole 49 = .ok (.iload_n 3, 1) := by decide +kernel
theorem dX3_isHole_50 : decode cX3_isHole 50 = .ok (.ifCond .le 20, 3) := by decide +kernel
theorem dX3_isHole_53 : decode cX3_isHole 53 = .ok (.iload 4, 2) := by decide +kernel
theorem dX3_isHole_55 : decode cX3_isHole 55 = .ok (.iload_n 3, 1) := by decide +kernel
theorem dX3_isHole_56 : decode cX3_isHole 56 = .ok (.irem, 1) := by decide +kernel
theorem dX3_isHole_57 : decode cX3_isHole 57 = .ok (.aload_n 0, 1) := by decide +kernel
theorem dX3_isHole_58 : decode cX3_isHole 58 = .ok (.getfield 9, 3) := by decide +kernel
theorem dX3_isHole_61 : decode cX3_isHole 61 = .ok (.iconst 0, 1) := by decide +kernel
theorem dX3_isHole_62 : decode cX3_isHole 62 = .ok (.iaload, 1) := by decide +kernel
theorem dX3_isHole_63 : decode cX3_isHole 63 = .ok (.if_icmp .ge 7, 3) := by decide +kernel
theorem dX3_isHole_66 : decode cX3_isHole 66 = .ok (.iconst 1, 1) := by decide +kernel
theorem dX3_isHole_67 : decode cX3_isHole 67 = .ok (.goto 4, 3) := by decide +kernel
theorem dX3_isHole_70 : decode cX3_isHole 70 = .ok (.iconst 0, 1) := by decide +kernel
theorem dX3_isHole_71 : decode cX3_isHole 71 = .ok (.ireturn, 1) := by decide +kernel
set_option maxRecDepth 20000 in
theorem ggX3_bridges_X3_firstOf : GoodIn wsX3_bridges wsX3_firstOf := goodIn_r _ [5, 6, 7, 8, 9, 4, 10, 11, 27, 28, 29, 30, 31, 32, 33] (by decide +kernel) (by decide +kernel)
set_option maxRecDepth 20000 in
theorem gX3_bridges_X3_firstOf : GoodIn wsX3_bridges (wsV RX3 64 RX3 yX3_firstOf wsX3_firstOf) := goodIn_app (goodIn_of _ (by decide +kernel)) ggX3_bridges_X3_firstOf
set_option maxRecDepth 20000 in
theorem ggX3_bridges_X3_lastOf : GoodIn wsX3_bridges wsX3_lastOf := goodIn_r _ [15, 16, 7, 8, 9, 4, 10, 11, 27, 28, 29, 30, 31, 32, 33] (by decide +kernel) (by decide +kernel)
set_option maxRecDepth 20000 in
theorem gX3_bridges_X3_lastOf : GoodIn wsX3_bridges (wsV RX3 75 RX3 yX3_lastOf wsX3_lastOf) := goodIn_app (goodIn_of _ (by decide +kernel)) ggX3_bridges_X3_lastOf
set_option maxRecDepth 20000 in
theorem ggX3_bridges_X3_isHole : GoodIn wsX3_bridges wsX3_isHole := goodIn_r _ [20, 21, 1, 2, 3, 4, 5, 6, 7, 8, 9, 10, 11, 12, 13, 14, 15, 16, 22, 23, 24, 25, 26, 27, 28, 29, 30, 31, 32, 33] (by decide +kernel) (by decide +kernel)
set_option maxRecDepth 20000 in
theorem gX3_bridges_X3_isHole : GoodIn wsX3_bridges (wsV RX3 103 RX3 yX3_isHole wsX3_isHole) := goodIn_app (goodIn_of _ (by decide +kernel)) ggX3_bridges_X3_isHole
theorem dX3_bridges_0 : decode cX3_bridges 0 = .ok (.iconst 0, 1) := by decide +kernel
theorem dX3_bridges_1 : decode cX3_bridges 1 = .ok (.istore_n 2, 1) := by decide +kernel
theorem dX3_bridges_2 : decode cX3_bridges 2 = .ok (.aload_n 0, 1) := by decide +kernel
theorem dX3_bridges_3 : decode cX3_bridges 3 = .ok (.iload_n 1, 1) := by decide +kernel
theorem dX3_bridges_4 : decode cX3_bridges 4 = .ok (.invokevirtual 64, 3) := by decide +kernel
theorem dX3_bridges_7 : decode cX3_bridges 7 = .ok (.istore_n 3, 1) := by decide +kernel
theorem dX3_bridges_8 : decode cX3_bridges 8 = .ok (.iload_n 3, 1) := by decide +kernel
theorem dX3_bridges_9 : decode cX3_bridges 9 = .ok (.aload_n 0, 1) := by decide +kernel
theorem dX3_bridges_10 : decode cX3_bridges 10 = .ok (.iload_n 1, 1) := by decide +kernel
theorem dX3_bridges_11 : decode cX3_bridges 11 = .ok (.invokevirtual 75, 3) := by decide +kernel
theorem dX3_bridges_14 : decode cX3_bridges 14 = .ok (.if_icmp .gt 21, 3) := by decide +kernel
theorem dX3_bridges_17 : decode cX3_bridges 17 = .ok (.aload_n 0, 1) := by decide +kernel
theorem dX3_bridges_18 : decode cX3_bridges 18 = .ok (.iload_n 1, 1) := by decide +kernel
theorem dX3_bridges_19 : decode cX3_bridges 19 = .ok (.iload_n 3, 1) := by decide +kernel
theorem dX3_bridges_20 : decode cX3_bridges 20 = .ok (.invokevirtual 103, 3) := by decide +kernel
theorem dX3_bridges_23 : decode cX3_bridges 23 = .ok (.ifCond .ne 6, 3) := by decide +kernel
theorem dX3_bridges_26 : decode cX3_bridges 26 = .ok (.iinc 2 1, 3) := by decide +kernel
theorem dX3_bridges_29 : decode cX3_bridges 29 = .ok (.iinc 3 1, 3) := by decide +kernel
theorem dX3_bridges_32 : decode cX3_bridges 32 = .ok (.goto (-24), 3) := by decide +kernel
theorem dX3_bridges_35 : decode cX3_bridges 35 = .ok (.iload_n 2, 1) := by decide +kernel
theorem dX3_bridges_36 : decode cX3_bridges 36 = .ok (.ireturn, 1) := by decide +kernel
set_option maxRecDepth 20000 in
theorem ggX3_longestBridge_X3_firstOf : GoodIn wsX3_longestBridge wsX3_firstOf := goodIn_r _ [9, 10, 11, 12, 13, 8, 14, 15, 31, 32, 33, 34, 35, 36, 37] (by decide +kernel) (by decide +kernel)
set_option maxRecDepth 20000 in
theorem gX3_longestBridge_X3_firstOf : GoodIn wsX3_longestBridge (wsV RX3 64 RX3 yX3_firstOf wsX3_firstOf) := goodIn_app (goodIn_of _ (by decide +kernel)) ggX3_longestBridge_X3_firstOf
set_option maxRecDepth 20000 in
theorem ggX3_longestBridge_X3_lastOf : GoodIn wsX3_longestBridge wsX3_lastOf := goodIn_r _ [19, 20, 11, 12, 13, 8, 14, 15, 31, 32, 33, 34, 35, 36, 37] (by decide +kernel) (by decide +kernel)
set_option maxRecDepth 20000 in
theorem gX3_longestBridge_X3_lastOf : GoodIn wsX3_longestBridge (wsV RX3 75 RX3 yX3_lastOf wsX3_lastOf) := goodIn_app (goodIn_of _ (by decide +kernel)) ggX3_longestBridge_X3_lastOf
set_option maxRecDepth 20000 in
theorem ggX3_longestBridge_X3_isHole : GoodIn wsX3_longestBridge wsX3_isHole := goodIn_r _ [24, 25, 5, 6, 7, 8, 9, 10, 11, 12, 13, 14, 15, 16, 17, 18, 19, 20, 26, 27, 28, 29, 30, 31, 32, 33, 34, 35, 36, 37] (by decide +kernel) (by decide +kernel)
set_option maxRecDepth 20000 in
theorem gX3_longestBridge_X3_isHole : GoodIn wsX3_longestBridge (wsV RX3 103 RX3 yX3_isHole wsX3_isHole) := goodIn_app (goodIn_of _ (by decide +kernel)) ggX3_longestBridge_X3_isHole
theorem dX3_longestBridge_0 : decode cX3_longestBridge 0 = .ok (.iconst 0, 1) := by decide +kernel
theorem dX3_longestBridge_1 : decode cX3_longestBridge 1 = .ok (.istore_n 2, 1) := by decide +kernel
theorem dX3_longestBridge_2 : decode cX3_longestBridge 2 = .ok (.iconst 0, 1) := by decide +kernel
theorem dX3_longestBridge_3 : decode cX3_longestBridge 3 = .ok (.istore_n 3, 1) := by decide +kernel
theorem dX3_longestBridge_4 : decode cX3_longestBridge 4 = .ok (.aload_n 0, 1) := by decide +kernel
theorem dX3_longestBridge_5 : decode cX3_longestBridge 5 = .ok (.iload_n 1, 1) := by decide +kernel
theorem dX3_longestBridge_6 : decode cX3_longestBridge 6 = .ok (.invokevirtual 64, 3) := by decide +kernel
theorem dX3_longestBridge_9 : decode cX3_longestBridge 9 = .ok (.istore 4, 2) := by decide +kernel
theorem dX3_longestBridge_11 : decode cX3_longestBridge 11 = .ok (.iload 4, 2) := by decide +kernel
theorem dX3_longestBridge_13 : decode cX3_longestBridge 13 = .ok (.aload_n 0, 1) := by decide +kernel
theorem dX3_longestBridge_14 : decode cX3_longestBridge 14 = .ok (.iload_n 1, 1) := by decide +kernel
theorem dX3_longestBridge_15 : decode cX3_longestBridge 15 = .ok (.invokevirtual 75, 3) := by decide +kernel
theorem dX3_longestBridge_18 : decode cX3_longestBridge 18 = .ok (.if_icmp .gt 33, 3) := by decide +kernel
theorem dX3_longestBridge_21 : decode cX3_longestBridge 21 = .ok (.aload_n 0, 1) := by decide +kernel
theorem dX3_longestBridge_22 : decode cX3_longestBridge 22 = .ok (.iload_n 1, 1) := by decide +kernel
theorem dX3_longestBridge_23 : decode cX3_longestBridge 23 = .ok (.iload 4, 2) := by decide +kernel
theorem dX3_longestBridge_25 : decode cX3_longestBridge 25 = .ok (.invokevirtual 103, 3) := by decide +kernel
theorem dX3_longestBridge_28 : decode cX3_longestBridge 28 = .ok (.ifCond .eq 7, 3) := by decide +kernel
theorem dX3_longestBridge_31 : decode cX3_longestBridge 31 = .ok (.iconst 0, 1) := by decide +kernel
theorem dX3_longestBridge_32 : decode cX3_longestBridge 32 = .ok (.goto 6, 3) := by decide +kernel
theorem dX3_longestBridge_35 : decode cX3_longestBridge 35 = .ok (.iload_n 3, 1) := by decide +kernel
theorem dX3_longestBridge_36 : decode cX3_longestBridge 36 = .ok (.iconst 1, 1) := by decide +kernel
theorem dX3_longestBridge_37 : decode cX3_longestBridge 37 = .ok (.iadd, 1) := by decide +kernel
theorem dX3_longestBridge_38 : decode cX3_longestBridge 38 = .ok (.istore_n 3, 1) := by decide +kernel
theorem dX3_longestBridge_39 : decode cX3_longestBridge 39 = .ok (.iload_n 2, 1) := by decide +kernel
theorem dX3_longestBridge_40 : decode cX3_longestBridge 40 = .ok (.iload_n 3, 1) := by decide +kernel
theorem dX3_longestBridge_41 : decode cX3_longestBridge 41 = .ok (.invokestatic 78, 3) := by decide +kernel
theorem dX3_longestBridge_44 : decode cX3_longestBridge 44 = .ok (.istore_n 2, 1) := by decide +kernel
theorem dX3_longestBridge_45 : decode cX3_longestBridge 45 = .ok (.iinc 4 1, 3) := by decide +kernel
theorem dX3_longestBridge_48 : decode cX3_longestBridge 48 = .ok (.goto (-37), 3) := by decide +kernel
theorem dX3_longestBridge_51 : decode cX3_longestBridge 51 = .ok (.iload_n 2, 1) := by decide +kernel
theorem dX3_longestBridge_52 : decode cX3_longestBridge 52 = .ok (.ireturn, 1) := by decide +kernel
set_option maxRecDepth 20000 in
theorem ggX4_init_X3_init : GoodIn wsX4_init wsX3_init := goodIn_r _ [26, 27, 2, 3, 28, 29, 30, 31, 32, 33, 22, 34, 35, 36, 37, 38, 60, 61, 62, 63, 64, 65, 66] (by decide +kernel) (by decide +kernel)
set_option maxRecDepth 20000 in
theorem gX4_init_X3_init : GoodIn wsX4_init (wsX3_init) := ggX4_init_X3_init
set_option maxRecDepth 20000 in
theorem ggX4_init_X2_init : GoodIn wsX4_init wsX2_init := goodIn_r _ [40, 41, 2, 3, 28, 42, 43, 74, 75, 76] (by decide +kernel) (by decide +kernel)
set_option maxRecDepth 20000 in
theorem gX4_init_X2_init_n21 : GoodIn wsX4_init (wsX2_init) := ggX4_init_X2_init
set_option maxRecDepth 20000 in
theorem ggX4_init_X1_init : GoodIn wsX4_init wsX1_init := goodIn_r _ [45, 46, 2, 3, 47, 48, 28, 49, 50, 51, 22, 52, 77, 78, 79, 80, 81, 82, 83, 84] (by decide +kernel) (by decide +kernel)
set_option maxRecDepth 20000 in
theorem gX4_init_X1_init_n28 : GoodIn wsX4_init (wsX1_init) := ggX4_init_X1_init
set_option maxRecDepth 20000 in
theorem ggX4_init_X0_init : GoodIn wsX4_init wsX0_init := goodIn_r _ [55, 56, 2, 3, 57, 58, 5, 6, 59, 25, 26, 27, 28, 29, 30, 31, 32, 33, 22, 34, 35, 36, 37, 38, 85, 86, 87, 60, 61, 62, 63, 64, 65, 66] (by decide +kernel) (by decide +kernel)
set_option maxRecDepth 20000 in
theorem gX4_init_X0_init : GoodIn wsX4_init (wsX0_init) := ggX4_init_X0_init
theorem dX4_init_0 : decode cX4_init 0 = .ok (.aload_n 0, 1) := by decide +kernel
theorem dX4_init_1 : decode cX4_init 1 = .ok (.invokespecial 1, 3) := by decide +kernel
theorem dX4_init_4 : decode cX4_init 4 = .ok (.aload_n 0, 1) := by decide +kernel
theorem dX4_init_5 : decode cX4_init 5 = .ok (.new 7, 3) := by decide +kernel
theorem dX4_init_8 : decode cX4_init 8 = .ok (.dup, 1) := by decide +kernel
theorem dX4_init_9 : decode cX4_init 9 = .ok (.invokespecial 9, 3) := by decide +kernel
theorem dX4_init_12 : decode cX4_init 12 = .ok (.putfield 10, 3) := by decide +kernel
theorem dX4_init_15 : decode cX4_init 15 = .ok (.aload_n 0, 1) := by decide +kernel
theorem dX4_init_16 : decode cX4_init 16 = .ok (.new 7, 3) := by decide +kernel
theorem dX4_init_19 : decode cX4_init 19 = .ok (.dup, 1) := by decide +kernel
theorem dX4_init_20 : decode cX4_init 20 = .ok (.invokespecial 9, 3) := by decide +kernel
theorem dX4_init_23 : decode cX4_init 23 = .ok (.putfield 16, 3) := by decide +kernel
theorem dX4_init_26 : decode cX4_init 26 = .ok (.aload_n 0, 1) := by decide +kernel
theorem dX4_init_27 : decode cX4_init 27 = .ok (.new 19, 3) := by decide +kernel
theorem dX4_init_30 : decode cX4_init 30 = .ok (.dup, 1) := by decide +kernel
theorem dX4_init_31 : decode cX4_init 31 = .ok (.invokespecial 21, 3) := by decide +kernel
theorem dX4_init_34 : decode cX4_init 34 = .ok (.putfield 22, 3) := by decide +kernel
theorem dX4_init_37 : decode cX4_init 37 = .ok (.aload_n 0, 1) := by decide +kernel
theorem dX4_init_38 : decode cX4_init 38 = .ok (.new 26, 3) := by decide +kernel
theorem dX4_init_41 : decode cX4_init 41 = .ok (.dup, 1) := by decide +kernel
theorem dX4_init_42 : decode cX4_init 42 = .ok (.invokespecial 28, 3) := by decide +kernel
theorem dX4_init_45 : decode cX4_init 45 = .ok (.putfield 29, 3) := by decide +kernel
theorem dX4_init_48 : decode cX4_init 48 = .ok (.aload_n 0, 1) := by decide +kernel
theorem dX4_init_49 : decode cX4_init 49 = .ok (.new 33, 3) := by decide +kernel
theorem dX4_init_52 : decode cX4_init 52 = .ok (.dup, 1) := by decide +kernel
theorem dX4_init_53 : decode cX4_init 53 = .ok (.invokespecial 35, 3) := by decide +kernel
theorem dX4_init_56 : decode cX4_init 56 = .ok (.putfield 36, 3) := by decide +kernel
theorem dX4_init_59 : decode cX4_init 59 = .ok (.aload_n 0, 1) := by decide +kernel
theorem dX4_init_60 : decode cX4_init 60 = .ok (.iconst 2, 1) := by decide +kernel
theorem dX4_init_61 : decode cX4_init 61 = .ok (.anewarray 7, 3) := by decide +kernel
theorem dX4_init_64 : decode cX4_init 64 = .ok (.putfield 40, 3) := by decide +kernel
theorem dX4_init_67 : decode cX4_init 67 = .ok (.aload_n 0, 1) := by decide +kernel
theorem dX4_init_68 : decode cX4_init 68 = .ok (.iconst 2, 1) := by decide +kernel
theorem dX4_init_69 : decode cX4_init 69 = .ok (.newarray .boolean, 2) := by decide +kernel
theorem dX4_init_71 : decode cX4_init 71 = .ok (.putfield 44, 3) := by decide +kernel
theorem dX4_init_74 : decode cX4_init 74 = .ok (.iconst 0, 1) := by decide +kernel
theorem dX4_init_75 : decode cX4_init 75 = .ok (.istore_n 1, 1) := by decide +kernel
theorem dX4_init_76 : decode cX4_init 76 = .ok (.iload_n 1, 1) := by decide +kernel
theorem dX4_init_77 : decode cX4_init 77 = .ok (.iconst 2, 1) := by decide +kernel
theorem dX4_init_78 : decode cX4_init 78 = .ok (.if_icmp .ge 22, 3) := by decide +kernel
theorem dX4_init_81 : decode cX4_init 81 = .ok (.aload_n 0, 1) := by decide +kernel
theorem dX4_init_82 : decode cX4_init 82 = .ok (.getfield 40, 3) := by decide +kernel
theorem dX4_init_85 : decode cX4_init 85 = .ok (.iload_n 1, 1) := by decide +kernel
theorem dX4_init_86 : decode cX4_init 86 = .ok (.new 7, 3) := by decide +kernel
theorem dX4_init_89 : decode cX4_init 89 = .ok (.dup, 1) := by decide +kernel
theorem dX4_init_90 : decode cX4_init 90 = .ok (.invokespecial 9, 3) := by decide +kernel
theorem dX4_init_93 : decode cX4_init 93 = .ok (.aastore, 1) := by decide +kernel
theorem dX4_init_94 : decode cX4_init 94 = .ok (.iinc 1 1, 3) := by decide +kernel
theorem dX4_init_97 : decode cX4_init 97 = .ok (.goto (-21), 3) := by decide +kernel
theorem dX4_init_100 : decode cX4_init 100 = .ok (.return_, 1) := by decide +kernel
set_option maxRecDepth 20000 in
theorem ggX4_set_X4_isIn : GoodIn wsX4_set wsX4_isIn := goodIn_r _ [8] (by decide +kernel) (by decide +kernel)
set_option maxRecDepth 20000 in
theorem gX4_set_X4_isIn : GoodIn wsX4_set (va_wsS RX4 48 yX4_isIn wsX4_isIn) := goodIn_app (goodIn_of _ (by decide +kernel)) ggX4_set_X4_isIn
set_option maxRecDepth 20000 in
theorem ggX4_set_X3_settingOf : GoodIn wsX4_set wsX3_settingOf := goodIn_r _ [13, 14, 6, 7, 8, 60, 61, 62, 63, 64, 65, 66] (by decide +kernel) (by decide +kernel)
set_option maxRecDepth 20000 in
theorem gX4_set_X3_settingOf : GoodIn wsX4_set (wsV RX4 59 RX3 yX3_settingOf wsX3_settingOf) := goodIn_app (goodIn_of _ (by decide +kernel)) ggX4_set_X3_settingOf
set_option maxRecDepth 20000 in
theorem ggX4_set_X0_record : GoodIn wsX4_set wsX0_record := goodIn_r _ [19, 20, 21, 22, 23, 24, 25, 18, 26, 27, 28, 29, 30, 31, 32, 33, 12, 34, 35, 36, 37, 38, 39, 40, 41, 42, 43, 44, 14, 45, 46, 47, 48, 67, 68, 69, 60, 61, 62, 63, 64, 65, 66] (by decide +kernel) (by decide +kernel)
set_option maxRecDepth 20000 in
theorem gX4_set_X0_record : GoodIn wsX4_set (wsV RX4 63 RX0 yX0_record wsX0_record) := goodIn_app (goodIn_of _ (by decide +kernel)) ggX4_set_X0_record
set_option maxRecDepth 20000 in
theorem ggX4_set_X3_giveSetting : GoodIn wsX4_set wsX3_giveSetting := goodIn_r _ [52, 14, 6, 7, 8, 60, 61, 62, 63, 64, 65, 66] (by decide +kernel) (by decide +kernel)
set_option maxRecDepth 20000 in
theorem gX4_set_X3_giveSetting : GoodIn wsX4_set (wsV RX4 67 RX3 yX3_giveSetting wsX3_giveSetting) := goodIn_app (goodIn_of _ (by decide +kernel)) ggX4_set_X3_giveSetting
theorem dX4_set_0 : decode cX4_set 0 = .ok (.iload_n 1, 1) := by decide +kernel
theorem dX4_set_1 : decode cX4_set 1 = .ok (.iconst 0, 1) := by decide +kernel
theorem dX4_set_2 : decode cX4_set 2 = .ok (.iconst 3, 1) := by decide +kernel
theorem dX4_set_3 : decode cX4_set 3 = .ok (.invokestatic 48, 3) := by decide +kernel
theorem dX4_set_6 : decode cX4_set 6 = .ok (.ifCond .eq 20, 3) := by decide +kernel
theorem dX4_set_9 : decode cX4_set 9 = .ok (.iload_n 2, 1) := by decide +kernel
theorem dX4_set_10 : decode cX4_set 10 = .ok (.getstatic 52, 3) := by decide +kernel
theorem dX4_set_13 : decode cX4_set 13 = .ok (.iload_n 1, 1) := by decide +kernel
theorem dX4_set_14 : decode cX4_set 14 = .ok (.iaload, 1) := by decide +kernel
theorem dX4_set_15 : decode cX4_set 15 = .ok (.getstatic 56, 3) := by decide +kernel
theorem dX4_set_18 : decode cX4_set 18 = .ok (.iload_n 1, 1) := by decide +kernel
theorem dX4_set_19 : decode cX4_set 19 = .ok (.iaload, 1) := by decide +kernel
theorem dX4_set_20 : decode cX4_set 20 = .ok (.invokestatic 48, 3) := by decide +kernel
theorem dX4_set_23 : decode cX4_set 23 = .ok (.ifCond .ne 6, 3) := by decide +kernel
theorem dX4_set_26 : decode cX4_set 26 = .ok (.bipush (-2), 2) := by decide +kernel
theorem dX4_set_28 : decode cX4_set 28 = .ok (.ireturn, 1) := by decide +kernel
theorem dX4_set_29 : decode cX4_set 29 = .ok (.aload_n 0, 1) := by decide +kernel
theorem dX4_set_30 : decode cX4_set 30 = .ok (.getfield 10, 3) := by decide +kernel
theorem dX4_set_33 : decode cX4_set 33 = .ok (.iload_n 1, 1) := by decide +kernel
theorem dX4_set_34 : decode cX4_set 34 = .ok (.invokevirtual 59, 3) := by decide +kernel
theorem dX4_set_37 : decode cX4_set 37 = .ok (.istore_n 3, 1) := by decide +kernel
theorem dX4_set_38 : decode cX4_set 38 = .ok (.aload_n 0, 1) := by decide +kernel
theorem dX4_set_39 : decode cX4_set 39 = .ok (.getfield 36, 3) := by decide +kernel
theorem dX4_set_42 : decode cX4_set 42 = .ok (.aload_n 0, 1) := by decide +kernel
theorem dX4_set_43 : decode cX4_set 43 = .ok (.getfield 10, 3) := by decide +kernel
theorem dX4_set_46 : decode cX4_set 46 = .ok (.invokevirtual 63, 3) := by decide +kernel
theorem dX4_set_49 : decode cX4_set 49 = .ok (.aload_n 0, 1) := by decide +kernel
theorem dX4_set_50 : decode cX4_set 50 = .ok (.getfield 10, 3) := by decide +kernel
theorem dX4_set_53 : decode cX4_set 53 = .ok (.iload_n 1, 1) := by decide +kernel
theorem dX4_set_54 : decode cX4_set 54 = .ok (.iload_n 2, 1) := by decide +kernel
theorem dX4_set_55 : decode cX4_set 55 = .ok (.invokevirtual 67, 3) := by decide +kernel
theorem dX4_set_58 : decode cX4_set 58 = .ok (.iload_n 3, 1) := by decide +kernel
theorem dX4_set_59 : decode cX4_set 59 = .ok (.ireturn, 1) := by decide +kernel
set_option maxRecDepth 20000 in
theorem ggX4_note_X4_isTrack : GoodIn wsX4_note wsX4_isTrack := goodIn_r _ [6, 7, 8, 5, 9] (by decide +kernel) (by decide +kernel)
set_option maxRecDepth 20000 in
theorem gX4_note_X4_isTrack : GoodIn wsX4_note (va_wsS RX4 71 yX4_isTrack wsX4_isTrack) := goodIn_app (goodIn_of _ (by decide +kernel)) ggX4_note_X4_isTrack
set_option maxRecDepth 20000 in
theorem ggX4_note_X4_isStep : GoodIn wsX4_note wsX4_isStep := goodIn_r _ [12, 7, 8, 5, 9] (by decide +kernel) (by decide +kernel)
set_option maxRecDepth 20000 in
theorem gX4_note_X4_isStep : GoodIn wsX4_note (va_wsS RX4 75 yX4_isStep wsX4_isStep) := goodIn_app (goodIn_of _ (by decide +kernel)) ggX4_note_X4_isStep
set_option maxRecDepth 20000 in
theorem ggX4_note_X3_size : GoodIn wsX4_note wsX3_size := goodIn_r _ [17, 18, 96, 97, 98, 99, 100, 101, 102] (by decide +kernel) (by decide +kernel)
set_option maxRecDepth 20000 in
theorem gX4_note_X3_size : GoodIn wsX4_note (wsV RX4 78 RX3 yX3_size wsX3_size) := goodIn_app (goodIn_of _ (by decide +kernel)) ggX4_note_X3_size
set_option maxRecDepth 20000 in
theorem ggX4_note_X3_isTaken : GoodIn wsX4_note wsX3_isTaken := goodIn_r _ [22, 23, 24, 25, 16, 26, 18, 27, 28, 29, 30, 31, 32, 33, 34, 35, 36, 37, 38, 39, 40, 41, 42, 43, 44, 45, 96, 97, 98, 99, 100, 101, 102] (by decide +kernel) (by decide +kernel)
set_option maxRecDepth 20000 in
theorem gX4_note_X3_isTaken : GoodIn wsX4_note (wsV RX4 82 RX3 yX3_isTaken wsX3_isTaken) := goodIn_app (goodIn_of _ (by decide +kernel)) ggX4_note_X3_isTaken
set_option maxRecDepth 20000 in
theorem ggX4_note_X0_record : GoodIn wsX4_note wsX0_record := goodIn_r _ [50, 51, 52, 53, 54, 55, 56, 49, 57, 58, 59, 60, 61, 62, 63, 64, 16, 65, 18, 31, 40, 45, 66, 67, 68, 69, 70, 71, 72, 73, 74, 75, 76, 103, 104, 105, 96, 97, 98, 99, 100, 101, 102] (by decide +kernel) (by decide +kernel)
set_option maxRecDepth 20000 in
theorem gX4_note_X0_record : GoodIn wsX4_note (wsV RX4 63 RX0 yX0_record wsX0_record) := goodIn_app (goodIn_of _ (by decide +kernel)) ggX4_note_X0_record
set_option maxRecDepth 20000 in
theorem ggX4_note_X3_add : GoodIn wsX4_note wsX3_add := goodIn_r _ [80, 18, 31, 40, 45, 66, 67, 81, 82, 83, 16, 84, 36, 37, 38, 39, 32, 33, 34, 35, 27, 28, 29, 30, 85, 86, 87, 88, 8, 5, 9, 96, 97, 98, 99, 100, 101, 102] (by decide +kernel) (by decide +kernel)
set_option maxRecDepth 20000 in
theorem gX4_note_X3_add : GoodIn wsX4_note (wsV RX4 85 RX3 yX3_add wsX3_add) := goodIn_app (goodIn_of _ (by decide +kernel)) ggX4_note_X3_add
theorem dX4_note_0 : decode cX4_note 0 = .ok (.iload_n 1, 1) := by decide +kernel
theorem dX4_note_1 : decode cX4_note 1 = .ok (.invokestatic 71, 3) := by decide +kernel
theorem dX4_note_4 : decode cX4_note 4 = .ok (.ifCond .ne 5, 3) := by decide +kernel
theorem dX4_note_7 : decode cX4_note 7 = .ok (.iconst (-1), 1) := by decide +kernel
theorem dX4_note_8 : decode cX4_note 8 = .ok (.ireturn, 1) := by decide +kernel
theorem dX4_note_9 : decode cX4_note 9 = .ok (.iload_n 2, 1) := by decide +kernel
theorem dX4_note_10 : decode cX4_note 10 = .ok (.invokestatic 75, 3) := by decide +kernel
theorem dX4_note_13 : decode cX4_note 13 = .ok (.ifCond .eq 15, 3) := by decide +kernel
theorem dX4_note_16 : decode cX4_note 16 = .ok (.iload_n 3, 1) := by decide +kernel
theorem dX4_note_17 : decode cX4_note 17 = .ok (.invokestatic 75, 3) := by decide +kernel
theorem dX4_note_20 : decode cX4_note 20 = .ok (.ifCond .eq 8, 3) := by decide +kernel
theorem dX4_note_23 : decode cX4_note 23 = .ok (.iload_n 3, 1) := by decide +kernel
theorem dX4_note_24 : decode cX4_note 24 = .ok (.iload_n 2, 1) := by decide +kernel
theorem dX4_note_25 : decode cX4_note 25 = .ok (.if_icmp .ge 6, 3) := by decide +kernel
theorem dX4_note_28 : decode cX4_note 28 = .ok (.bipush (-2), 2) := by decide +kernel
theorem dX4_note_30 : decode cX4_note 30 = .ok (.ireturn, 1) := by decide +kernel
theorem dX4_note_31 : decode cX4_note 31 = .ok (.aload_n 0, 1) := by decide +kernel
