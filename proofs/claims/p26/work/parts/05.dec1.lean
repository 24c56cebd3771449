theorem dX4_note_32 : decode cX4_note 32 = .ok (.getfield 10, 3) := by decide +kernel
theorem dX4_note_35 : decode cX4_note 35 = .ok (.invokevirtual 78, 3) := by decide +kernel
theorem dX4_note_38 : decode cX4_note 38 = .ok (.bipush 40, 2) := by decide +kernel
theorem dX4_note_40 : decode cX4_note 40 = .ok (.if_icmp .lt 6, 3) := by decide +kernel
theorem dX4_note_43 : decode cX4_note 43 = .ok (.bipush (-4), 2) := by decide +kernel
theorem dX4_note_45 : decode cX4_note 45 = .ok (.ireturn, 1) := by decide +kernel
theorem dX4_note_46 : decode cX4_note 46 = .ok (.aload_n 0, 1) := by decide +kernel
theorem dX4_note_47 : decode cX4_note 47 = .ok (.getfield 10, 3) := by decide +kernel
theorem dX4_note_50 : decode cX4_note 50 = .ok (.iload_n 1, 1) := by decide +kernel
theorem dX4_note_51 : decode cX4_note 51 = .ok (.iload_n 2, 1) := by decide +kernel
theorem dX4_note_52 : decode cX4_note 52 = .ok (.iload_n 3, 1) := by decide +kernel
theorem dX4_note_53 : decode cX4_note 53 = .ok (.invokevirtual 82, 3) := by decide +kernel
theorem dX4_note_56 : decode cX4_note 56 = .ok (.ifCond .eq 6, 3) := by decide +kernel
theorem dX4_note_59 : decode cX4_note 59 = .ok (.bipush (-5), 2) := by decide +kernel
theorem dX4_note_61 : decode cX4_note 61 = .ok (.ireturn, 1) := by decide +kernel
theorem dX4_note_62 : decode cX4_note 62 = .ok (.aload_n 0, 1) := by decide +kernel
theorem dX4_note_63 : decode cX4_note 63 = .ok (.getfield 36, 3) := by decide +kernel
theorem dX4_note_66 : decode cX4_note 66 = .ok (.aload_n 0, 1) := by decide +kernel
theorem dX4_note_67 : decode cX4_note 67 = .ok (.getfield 10, 3) := by decide +kernel
theorem dX4_note_70 : decode cX4_note 70 = .ok (.invokevirtual 63, 3) := by decide +kernel
theorem dX4_note_73 : decode cX4_note 73 = .ok (.aload_n 0, 1) := by decide +kernel
theorem dX4_note_74 : decode cX4_note 74 = .ok (.getfield 10, 3) := by decide +kernel
theorem dX4_note_77 : decode cX4_note 77 = .ok (.iload_n 1, 1) := by decide +kernel
theorem dX4_note_78 : decode cX4_note 78 = .ok (.iload_n 2, 1) := by decide +kernel
theorem dX4_note_79 : decode cX4_note 79 = .ok (.iload_n 3, 1) := by decide +kernel
theorem dX4_note_80 : decode cX4_note 80 = .ok (.iconst 0, 1) := by decide +kernel
theorem dX4_note_81 : decode cX4_note 81 = .ok (.iconst 0, 1) := by decide +kernel
theorem dX4_note_82 : decode cX4_note 82 = .ok (.invokevirtual 85, 3) := by decide +kernel
theorem dX4_note_85 : decode cX4_note 85 = .ok (.ireturn, 1) := by decide +kernel
set_option maxRecDepth 20000 in
theorem ggX4_drop_X3_has : GoodIn wsX4_drop wsX3_has := goodIn_r _ [7, 8, 66, 67, 68, 69, 70, 71, 72] (by decide +kernel) (by decide +kernel)
set_option maxRecDepth 20000 in
theorem gX4_drop_X3_has : GoodIn wsX4_drop (wsV RX4 89 RX3 yX3_has wsX3_has) := goodIn_app (goodIn_of _ (by decide +kernel)) ggX4_drop_X3_has
set_option maxRecDepth 20000 in
theorem ggX4_drop_X0_record : GoodIn wsX4_drop wsX0_record := goodIn_r _ [13, 14, 15, 16, 17, 18, 19, 12, 20, 21, 22, 23, 24, 25, 26, 27, 6, 28, 8, 29, 30, 31, 32, 33, 34, 35, 36, 37, 38, 39, 40, 41, 42, 73, 74, 75, 66, 67, 68, 69, 70, 71, 72] (by decide +kernel) (by decide +kernel)
set_option maxRecDepth 20000 in
theorem gX4_drop_X0_record : GoodIn wsX4_drop (wsV RX4 63 RX0 yX0_record wsX0_record) := goodIn_app (goodIn_of _ (by decide +kernel)) ggX4_drop_X0_record
set_option maxRecDepth 20000 in
theorem ggX4_drop_X3_remove : GoodIn wsX4_drop wsX3_remove := goodIn_r _ [46, 8, 47, 4, 5, 6, 7, 48, 49, 50, 51, 29, 30, 31, 32, 33, 52, 53, 54, 66, 67, 68, 69, 70, 71, 72] (by decide +kernel) (by decide +kernel)
set_option maxRecDepth 20000 in
theorem gX4_drop_X3_remove : GoodIn wsX4_drop (wsV RX4 92 RX3 yX3_remove wsX3_remove) := goodIn_app (goodIn_of _ (by decide +kernel)) ggX4_drop_X3_remove
set_option maxRecDepth 20000 in
theorem ggX4_drop_X3_size : GoodIn wsX4_drop wsX3_size := goodIn_r _ [58, 8, 66, 67, 68, 69, 70, 71, 72] (by decide +kernel) (by decide +kernel)
set_option maxRecDepth 20000 in
theorem gX4_drop_X3_size : GoodIn wsX4_drop (wsV RX4 78 RX3 yX3_size wsX3_size) := goodIn_app (goodIn_of _ (by decide +kernel)) ggX4_drop_X3_size
theorem dX4_drop_0 : decode cX4_drop 0 = .ok (.aload_n 0, 1) := by decide +kernel
theorem dX4_drop_1 : decode cX4_drop 1 = .ok (.getfield 10, 3) := by decide +kernel
theorem dX4_drop_4 : decode cX4_drop 4 = .ok (.iload_n 1, 1) := by decide +kernel
theorem dX4_drop_5 : decode cX4_drop 5 = .ok (.invokevirtual 89, 3) := by decide +kernel
theorem dX4_drop_8 : decode cX4_drop 8 = .ok (.ifCond .ne 5, 3) := by decide +kernel
theorem dX4_drop_11 : decode cX4_drop 11 = .ok (.iconst (-1), 1) := by decide +kernel
theorem dX4_drop_12 : decode cX4_drop 12 = .ok (.ireturn, 1) := by decide +kernel
theorem dX4_drop_13 : decode cX4_drop 13 = .ok (.aload_n 0, 1) := by decide +kernel
theorem dX4_drop_14 : decode cX4_drop 14 = .ok (.getfield 36, 3) := by decide +kernel
theorem dX4_drop_17 : decode cX4_drop 17 = .ok (.aload_n 0, 1) := by decide +kernel
theorem dX4_drop_18 : decode cX4_drop 18 = .ok (.getfield 10, 3) := by decide +kernel
theorem dX4_drop_21 : decode cX4_drop 21 = .ok (.invokevirtual 63, 3) := by decide +kernel
theorem dX4_drop_24 : decode cX4_drop 24 = .ok (.aload_n 0, 1) := by decide +kernel
theorem dX4_drop_25 : decode cX4_drop 25 = .ok (.getfield 10, 3) := by decide +kernel
theorem dX4_drop_28 : decode cX4_drop 28 = .ok (.iload_n 1, 1) := by decide +kernel
theorem dX4_drop_29 : decode cX4_drop 29 = .ok (.invokevirtual 92, 3) := by decide +kernel
theorem dX4_drop_32 : decode cX4_drop 32 = .ok (.aload_n 0, 1) := by decide +kernel
theorem dX4_drop_33 : decode cX4_drop 33 = .ok (.getfield 10, 3) := by decide +kernel
theorem dX4_drop_36 : decode cX4_drop 36 = .ok (.invokevirtual 78, 3) := by decide +kernel
theorem dX4_drop_39 : decode cX4_drop 39 = .ok (.ireturn, 1) := by decide +kernel
set_option maxRecDepth 20000 in
theorem ggX4_shift_X3_has : GoodIn wsX4_shift wsX3_has := goodIn_r _ [7, 8, 63, 64, 65, 66, 67, 68, 69] (by decide +kernel) (by decide +kernel)
set_option maxRecDepth 20000 in
theorem gX4_shift_X3_has : GoodIn wsX4_shift (wsV RX4 89 RX3 yX3_has wsX3_has) := goodIn_app (goodIn_of _ (by decide +kernel)) ggX4_shift_X3_has
set_option maxRecDepth 20000 in
theorem ggX4_shift_X4_isIn : GoodIn wsX4_shift wsX4_isIn := goodIn_r _ [12] (by decide +kernel) (by decide +kernel)
set_option maxRecDepth 20000 in
theorem gX4_shift_X4_isIn : GoodIn wsX4_shift (va_wsS RX4 48 yX4_isIn wsX4_isIn) := goodIn_app (goodIn_of _ (by decide +kernel)) ggX4_shift_X4_isIn
set_option maxRecDepth 20000 in
theorem ggX4_shift_X3_shiftOf : GoodIn wsX4_shift wsX3_shiftOf := goodIn_r _ [16, 17, 18, 4, 5, 6, 7, 8, 63, 64, 65, 66, 67, 68, 69] (by decide +kernel) (by decide +kernel)
set_option maxRecDepth 20000 in
theorem gX4_shift_X3_shiftOf : GoodIn wsX4_shift (wsV RX4 96 RX3 yX3_shiftOf wsX3_shiftOf) := goodIn_app (goodIn_of _ (by decide +kernel)) ggX4_shift_X3_shiftOf
set_option maxRecDepth 20000 in
theorem ggX4_shift_X0_record : GoodIn wsX4_shift wsX0_record := goodIn_r _ [23, 24, 25, 26, 27, 28, 29, 22, 30, 31, 32, 33, 34, 35, 36, 37, 6, 38, 8, 39, 40, 41, 17, 42, 43, 44, 45, 46, 47, 48, 49, 50, 51, 70, 71, 72, 63, 64, 65, 66, 67, 68, 69] (by decide +kernel) (by decide +kernel)
set_option maxRecDepth 20000 in
theorem gX4_shift_X0_record : GoodIn wsX4_shift (wsV RX4 63 RX0 yX0_record wsX0_record) := goodIn_app (goodIn_of _ (by decide +kernel)) ggX4_shift_X0_record
set_option maxRecDepth 20000 in
theorem ggX4_shift_X3_giveShift : GoodIn wsX4_shift wsX3_giveShift := goodIn_r _ [55, 17, 18, 4, 5, 6, 7, 8, 63, 64, 65, 66, 67, 68, 69] (by decide +kernel) (by decide +kernel)
set_option maxRecDepth 20000 in
theorem gX4_shift_X3_giveShift : GoodIn wsX4_shift (wsV RX4 99 RX3 yX3_giveShift wsX3_giveShift) := goodIn_app (goodIn_of _ (by decide +kernel)) ggX4_shift_X3_giveShift
theorem dX4_shift_0 : decode cX4_shift 0 = .ok (.aload_n 0, 1) := by decide +kernel
theorem dX4_shift_1 : decode cX4_shift 1 = .ok (.getfield 10, 3) := by decide +kernel
theorem dX4_shift_4 : decode cX4_shift 4 = .ok (.iload_n 1, 1) := by decide +kernel
theorem dX4_shift_5 : decode cX4_shift 5 = .ok (.invokevirtual 89, 3) := by decide +kernel
theorem dX4_shift_8 : decode cX4_shift 8 = .ok (.ifCond .ne 5, 3) := by decide +kernel
theorem dX4_shift_11 : decode cX4_shift 11 = .ok (.iconst (-1), 1) := by decide +kernel
theorem dX4_shift_12 : decode cX4_shift 12 = .ok (.ireturn, 1) := by decide +kernel
theorem dX4_shift_13 : decode cX4_shift 13 = .ok (.iload_n 2, 1) := by decide +kernel
theorem dX4_shift_14 : decode cX4_shift 14 = .ok (.iconst 0, 1) := by decide +kernel
theorem dX4_shift_15 : decode cX4_shift 15 = .ok (.bipush 12, 2) := by decide +kernel
theorem dX4_shift_17 : decode cX4_shift 17 = .ok (.invokestatic 48, 3) := by decide +kernel
theorem dX4_shift_20 : decode cX4_shift 20 = .ok (.ifCond .ne 6, 3) := by decide +kernel
theorem dX4_shift_23 : decode cX4_shift 23 = .ok (.bipush (-2), 2) := by decide +kernel
theorem dX4_shift_25 : decode cX4_shift 25 = .ok (.ireturn, 1) := by decide +kernel
theorem dX4_shift_26 : decode cX4_shift 26 = .ok (.aload_n 0, 1) := by decide +kernel
theorem dX4_shift_27 : decode cX4_shift 27 = .ok (.getfield 10, 3) := by decide +kernel
theorem dX4_shift_30 : decode cX4_shift 30 = .ok (.iload_n 1, 1) := by decide +kernel
theorem dX4_shift_31 : decode cX4_shift 31 = .ok (.invokevirtual 96, 3) := by decide +kernel
theorem dX4_shift_34 : decode cX4_shift 34 = .ok (.istore_n 3, 1) := by decide +kernel
theorem dX4_shift_35 : decode cX4_shift 35 = .ok (.aload_n 0, 1) := by decide +kernel
theorem dX4_shift_36 : decode cX4_shift 36 = .ok (.getfield 36, 3) := by decide +kernel
theorem dX4_shift_39 : decode cX4_shift 39 = .ok (.aload_n 0, 1) := by decide +kernel
theorem dX4_shift_40 : decode cX4_shift 40 = .ok (.getfield 10, 3) := by decide +kernel
theorem dX4_shift_43 : decode cX4_shift 43 = .ok (.invokevirtual 63, 3) := by decide +kernel
theorem dX4_shift_46 : decode cX4_shift 46 = .ok (.aload_n 0, 1) := by decide +kernel
theorem dX4_shift_47 : decode cX4_shift 47 = .ok (.getfield 10, 3) := by decide +kernel
theorem dX4_shift_50 : decode cX4_shift 50 = .ok (.iload_n 1, 1) := by decide +kernel
theorem dX4_shift_51 : decode cX4_shift 51 = .ok (.iload_n 2, 1) := by decide +kernel
theorem dX4_shift_52 : decode cX4_shift 52 = .ok (.invokevirtual 99, 3) := by decide +kernel
theorem dX4_shift_55 : decode cX4_shift 55 = .ok (.iload_n 3, 1) := by decide +kernel
theorem dX4_shift_56 : decode cX4_shift 56 = .ok (.ireturn, 1) := by decide +kernel
set_option maxRecDepth 20000 in
theorem ggX4_accent_X3_has : GoodIn wsX4_accent wsX3_has := goodIn_r _ [7, 8, 63, 64, 65, 66, 67, 68, 69] (by decide +kernel) (by decide +kernel)
set_option maxRecDepth 20000 in
theorem gX4_accent_X3_has : GoodIn wsX4_accent (wsV RX4 89 RX3 yX3_has wsX3_has) := goodIn_app (goodIn_of _ (by decide +kernel)) ggX4_accent_X3_has
set_option maxRecDepth 20000 in
theorem ggX4_accent_X3_hasAccent : GoodIn wsX4_accent wsX3_hasAccent := goodIn_r _ [12, 13, 14, 4, 5, 6, 7, 8, 63, 64, 65, 66, 67, 68, 69] (by decide +kernel) (by decide +kernel)
set_option maxRecDepth 20000 in
theorem gX4_accent_X3_hasAccent : GoodIn wsX4_accent (wsV RX4 102 RX3 yX3_hasAccent wsX3_hasAccent) := goodIn_app (goodIn_of _ (by decide +kernel)) ggX4_accent_X3_hasAccent
set_option maxRecDepth 20000 in
theorem ggX4_accent_X0_record : GoodIn wsX4_accent wsX0_record := goodIn_r _ [19, 20, 21, 22, 23, 24, 25, 18, 26, 27, 28, 29, 30, 31, 32, 33, 6, 34, 8, 35, 36, 37, 38, 13, 39, 40, 41, 42, 43, 44, 45, 46, 47, 70, 71, 72, 63, 64, 65, 66, 67, 68, 69] (by decide +kernel) (by decide +kernel)
set_option maxRecDepth 20000 in
theorem gX4_accent_X0_record : GoodIn wsX4_accent (wsV RX4 63 RX0 yX0_record wsX0_record) := goodIn_app (goodIn_of _ (by decide +kernel)) ggX4_accent_X0_record
set_option maxRecDepth 20000 in
theorem ggX4_accent_X3_giveAccent : GoodIn wsX4_accent wsX3_giveAccent := goodIn_r _ [51, 13, 14, 4, 5, 6, 7, 8, 63, 64, 65, 66, 67, 68, 69] (by decide +kernel) (by decide +kernel)
set_option maxRecDepth 20000 in
theorem gX4_accent_X3_giveAccent : GoodIn wsX4_accent (wsV RX4 105 RX3 yX3_giveAccent wsX3_giveAccent) := goodIn_app (goodIn_of _ (by decide +kernel)) ggX4_accent_X3_giveAccent
set_option maxRecDepth 20000 in
theorem ggX4_accent_X4_asNumber : GoodIn wsX4_accent wsX4_asNumber := goodIn_r _ [55] (by decide +kernel) (by decide +kernel)
set_option maxRecDepth 20000 in
theorem gX4_accent_X4_asNumber : GoodIn wsX4_accent (va_wsS RX4 109 yX4_asNumber wsX4_asNumber) := goodIn_app (goodIn_of _ (by decide +kernel)) ggX4_accent_X4_asNumber
theorem dX4_accent_0 : decode cX4_accent 0 = .ok (.aload_n 0, 1) := by decide +kernel
theorem dX4_accent_1 : decode cX4_accent 1 = .ok (.getfield 10, 3) := by decide +kernel
theorem dX4_accent_4 : decode cX4_accent 4 = .ok (.iload_n 1, 1) := by decide +kernel
theorem dX4_accent_5 : decode cX4_accent 5 = .ok (.invokevirtual 89, 3) := by decide +kernel
theorem dX4_accent_8 : decode cX4_accent 8 = .ok (.ifCond .ne 5, 3) := by decide +kernel
theorem dX4_accent_11 : decode cX4_accent 11 = .ok (.iconst (-1), 1) := by decide +kernel
theorem dX4_accent_12 : decode cX4_accent 12 = .ok (.ireturn, 1) := by decide +kernel
theorem dX4_accent_13 : decode cX4_accent 13 = .ok (.aload_n 0, 1) := by decide +kernel
theorem dX4_accent_14 : decode cX4_accent 14 = .ok (.getfield 10, 3) := by decide +kernel
theorem dX4_accent_17 : decode cX4_accent 17 = .ok (.iload_n 1, 1) := by decide +kernel
theorem dX4_accent_18 : decode cX4_accent 18 = .ok (.invokevirtual 102, 3) := by decide +kernel
theorem dX4_accent_21 : decode cX4_accent 21 = .ok (.istore_n 3, 1) := by decide +kernel
theorem dX4_accent_22 : decode cX4_accent 22 = .ok (.aload_n 0, 1) := by decide +kernel
theorem dX4_accent_23 : decode cX4_accent 23 = .ok (.getfield 36, 3) := by decide +kernel
theorem dX4_accent_26 : decode cX4_accent 26 = .ok (.aload_n 0, 1) := by decide +kernel
theorem dX4_accent_27 : decode cX4_accent 27 = .ok (.getfield 10, 3) := by decide +kernel
theorem dX4_accent_30 : decode cX4_accent 30 = .ok (.invokevirtual 63, 3) := by decide +kernel
theorem dX4_accent_33 : decode cX4_accent 33 = .ok (.aload_n 0, 1) := by decide +kernel
theorem dX4_accent_34 : decode cX4_accent 34 = .ok (.getfield 10, 3) := by decide +kernel
theorem dX4_accent_37 : decode cX4_accent 37 = .ok (.iload_n 1, 1) := by decide +kernel
theorem dX4_accent_38 : decode cX4_accent 38 = .ok (.iload_n 2, 1) := by decide +kernel
theorem dX4_accent_39 : decode cX4_accent 39 = .ok (.invokevirtual 105, 3) := by decide +kernel
theorem dX4_accent_42 : decode cX4_accent 42 = .ok (.iload_n 3, 1) := by decide +kernel
theorem dX4_accent_43 : decode cX4_accent 43 = .ok (.invokestatic 109, 3) := by decide +kernel
theorem dX4_accent_46 : decode cX4_accent 46 = .ok (.ireturn, 1) := by decide +kernel
set_option maxRecDepth 20000 in
theorem ggX4_insert_X4_isStep : GoodIn wsX4_insert wsX4_isStep := goodIn_r _ [6, 7, 8, 5, 9] (by decide +kernel) (by decide +kernel)
set_option maxRecDepth 20000 in
theorem gX4_insert_X4_isStep : GoodIn wsX4_insert (va_wsS RX4 75 yX4_isStep wsX4_isStep) := goodIn_app (goodIn_of _ (by decide +kernel)) ggX4_insert_X4_isStep
set_option maxRecDepth 20000 in
theorem ggX4_insert_X4_isIn : GoodIn wsX4_insert wsX4_isIn := goodIn_r _ [9] (by decide +kernel) (by decide +kernel)
set_option maxRecDepth 20000 in
theorem gX4_insert_X4_isIn : GoodIn wsX4_insert (va_wsS RX4 48 yX4_isIn wsX4_isIn) := goodIn_app (goodIn_of _ (by decide +kernel)) ggX4_insert_X4_isIn
set_option maxRecDepth 20000 in
theorem ggX4_insert_X3_greatestLast : GoodIn wsX4_insert wsX3_greatestLast := goodIn_r _ [14, 15, 16, 17, 18, 19, 20, 21, 22, 13, 23, 24, 25, 26, 27, 28, 73, 74, 75, 76, 77, 78, 79] (by decide +kernel) (by decide +kernel)
set_option maxRecDepth 20000 in
theorem gX4_insert_X3_greatestLast : GoodIn wsX4_insert (wsV RX4 113 RX3 yX3_greatestLast wsX3_greatestLast) := goodIn_app (goodIn_of _ (by decide +kernel)) ggX4_insert_X3_greatestLast
set_option maxRecDepth 20000 in
theorem ggX4_insert_X0_record : GoodIn wsX4_insert wsX0_record := goodIn_r _ [33, 34, 35, 36, 37, 38, 39, 32, 40, 41, 42, 43, 44, 45, 46, 47, 13, 48, 15, 49, 50, 24, 51, 52, 53, 54, 55, 56, 57, 58, 59, 60, 61, 80, 81, 82, 73, 74, 75, 76, 77, 78, 79] (by decide +kernel) (by decide +kernel)
set_option maxRecDepth 20000 in
theorem gX4_insert_X0_record : GoodIn wsX4_insert (wsV RX4 63 RX0 yX0_record wsX0_record) := goodIn_app (goodIn_of _ (by decide +kernel)) ggX4_insert_X0_record
set_option maxRecDepth 20000 in
theorem ggX4_insert_X3_lengthen : GoodIn wsX4_insert wsX3_lengthen := goodIn_r _ [65, 15, 50, 24, 73, 74, 75, 76, 77, 78, 79] (by decide +kernel) (by decide +kernel)
set_option maxRecDepth 20000 in
theorem gX4_insert_X3_lengthen : GoodIn wsX4_insert (wsV RX4 116 RX3 yX3_lengthen wsX3_lengthen) := goodIn_app (goodIn_of _ (by decide +kernel)) ggX4_insert_X3_lengthen
theorem dX4_insert_0 : decode cX4_insert 0 = .ok (.iload_n 1, 1) := by decide +kernel
theorem dX4_insert_1 : decode cX4_insert 1 = .ok (.invokestatic 75, 3) := by decide +kernel
theorem dX4_insert_4 : decode cX4_insert 4 = .ok (.ifCond .eq 13, 3) := by decide +kernel
theorem dX4_insert_7 : decode cX4_insert 7 = .ok (.iload_n 2, 1) := by decide +kernel
theorem dX4_insert_8 : decode cX4_insert 8 = .ok (.iconst 1, 1) := by decide +kernel
theorem dX4_insert_9 : decode cX4_insert 9 = .ok (.bipush 50, 2) := by decide +kernel
theorem dX4_insert_11 : decode cX4_insert 11 = .ok (.invokestatic 48, 3) := by decide +kernel
theorem dX4_insert_14 : decode cX4_insert 14 = .ok (.ifCond .ne 6, 3) := by decide +kernel
theorem dX4_insert_17 : decode cX4_insert 17 = .ok (.bipush (-2), 2) := by decide +kernel
theorem dX4_insert_19 : decode cX4_insert 19 = .ok (.ireturn, 1) := by decide +kernel
theorem dX4_insert_20 : decode cX4_insert 20 = .ok (.aload_n 0, 1) := by decide +kernel
theorem dX4_insert_21 : decode cX4_insert 21 = .ok (.getfield 10, 3) := by decide +kernel
theorem dX4_insert_24 : decode cX4_insert 24 = .ok (.invokevirtual 113, 3) := by decide +kernel
theorem dX4_insert_27 : decode cX4_insert 27 = .ok (.istore_n 3, 1) := by decide +kernel
theorem dX4_insert_28 : decode cX4_insert 28 = .ok (.iload_n 3, 1) := by decide +kernel
theorem dX4_insert_29 : decode cX4_insert 29 = .ok (.iload_n 1, 1) := by decide +kernel
theorem dX4_insert_30 : decode cX4_insert 30 = .ok (.if_icmp .lt 14, 3) := by decide +kernel
theorem dX4_insert_33 : decode cX4_insert 33 = .ok (.iload_n 3, 1) := by decide +kernel
theorem dX4_insert_34 : decode cX4_insert 34 = .ok (.iload_n 2, 1) := by decide +kernel
theorem dX4_insert_35 : decode cX4_insert 35 = .ok (.iadd, 1) := by decide +kernel
theorem dX4_insert_36 : decode cX4_insert 36 = .ok (.bipush 100, 2) := by decide +kernel
theorem dX4_insert_38 : decode cX4_insert 38 = .ok (.if_icmp .lt 6, 3) := by decide +kernel
theorem dX4_insert_41 : decode cX4_insert 41 = .ok (.bipush (-5), 2) := by decide +kernel
theorem dX4_insert_43 : decode cX4_insert 43 = .ok (.ireturn, 1) := by decide +kernel
theorem dX4_insert_44 : decode cX4_insert 44 = .ok (.aload_n 0, 1) := by decide +kernel
theorem dX4_insert_45 : decode cX4_insert 45 = .ok (.getfield 36, 3) := by decide +kernel
theorem dX4_insert_48 : decode cX4_insert 48 = .ok (.aload_n 0, 1) := by decide +kernel
theorem dX4_insert_49 : decode cX4_insert 49 = .ok (.getfield 10, 3) := by decide +kernel
theorem dX4_insert_52 : decode cX4_insert 52 = .ok (.invokevirtual 63, 3) := by decide +kernel
theorem dX4_insert_55 : decode cX4_insert 55 = .ok (.aload_n 0, 1) := by decide +kernel
theorem dX4_insert_56 : decode cX4_insert 56 = .ok (.getfield 10, 3) := by decide +kernel
theorem dX4_insert_59 : decode cX4_insert 59 = .ok (.iload_n 1, 1) := by decide +kernel
theorem dX4_insert_60 : decode cX4_insert 60 = .ok (.iload_n 2, 1) := by decide +kernel
theorem dX4_insert_61 : decode cX4_insert 61 = .ok (.invokevirtual 116, 3) := by decide +kernel
theorem dX4_insert_64 : decode cX4_insert 64 = .ok (.ireturn, 1) := by decide +kernel
set_option maxRecDepth 20000 in
theorem ggX4_cut_X4_isStep : GoodIn wsX4_cut wsX4_isStep := goodIn_r _ [7, 8, 9, 6, 10] (by decide +kernel) (by decide +kernel)
set_option maxRecDepth 20000 in
theorem gX4_cut_X4_isStep : GoodIn wsX4_cut (va_wsS RX4 75 yX4_isStep wsX4_isStep) := goodIn_app (goodIn_of _ (by decide +kernel)) ggX4_cut_X4_isStep
set_option maxRecDepth 20000 in
theorem ggX4_cut_X4_isIn : GoodIn wsX4_cut wsX4_isIn := goodIn_r _ [10] (by decide +kernel) (by decide +kernel)
set_option maxRecDepth 20000 in
theorem gX4_cut_X4_isIn : GoodIn wsX4_cut (va_wsS RX4 48 yX4_isIn wsX4_isIn) := goodIn_app (goodIn_of _ (by decide +kernel)) ggX4_cut_X4_isIn
set_option maxRecDepth 20000 in
theorem ggX4_cut_X3_size : GoodIn wsX4_cut wsX3_size := goodIn_r _ [15, 16, 108, 109, 110, 111, 112, 113, 114] (by decide +kernel) (by decide +kernel)
set_option maxRecDepth 20000 in
theorem gX4_cut_X3_size : GoodIn wsX4_cut (wsV RX4 78 RX3 yX3_size wsX3_size) := goodIn_app (goodIn_of _ (by decide +kernel)) ggX4_cut_X3_size
set_option maxRecDepth 20000 in
theorem ggX4_cut_X0_record : GoodIn wsX4_cut wsX0_record := goodIn_r _ [21, 22, 23, 24, 25, 26, 27, 20, 28, 29, 30, 31, 32, 33, 34, 35, 14, 36, 16, 37, 38, 39, 40, 41, 42, 43, 44, 45, 46, 47, 48, 49, 50, 115, 116, 117, 108, 109, 110, 111, 112, 113, 114] (by decide +kernel) (by decide +kernel)
set_option maxRecDepth 20000 in
theorem gX4_cut_X0_record : GoodIn wsX4_cut (wsV RX4 63 RX0 yX0_record wsX0_record) := goodIn_app (goodIn_of _ (by decide +kernel)) ggX4_cut_X0_record
set_option maxRecDepth 20000 in
theorem ggX4_cut_X3_takeSettings : GoodIn wsX4_cut wsX3_takeSettings := goodIn_r _ [45, 46, 47, 48, 49, 50, 108, 109, 110, 111, 112, 113, 114] (by decide +kernel) (by decide +kernel)
set_option maxRecDepth 20000 in
theorem gX4_cut_X3_takeSettings : GoodIn wsX4_cut (wsV RX4 120 RX3 yX3_takeSettings wsX3_takeSettings) := goodIn_app (goodIn_of _ (by decide +kernel)) ggX4_cut_X3_takeSettings
set_option maxRecDepth 20000 in
theorem ggX4_cut_X3_takeCut : GoodIn wsX4_cut wsX3_takeCut := goodIn_r _ [55, 16, 56, 57, 58, 59, 60, 61, 62, 63, 12, 13, 14, 15, 64, 65, 66, 67, 38, 68, 69, 70, 71, 72, 73, 74, 75, 39, 76, 77, 78, 79, 37, 80, 81, 82, 83, 40, 84, 85, 86, 87, 41, 88, 89, 90, 91, 92, 93, 94, 95, 96, 97, 98, 99, 9, 6, 10, 108, 109, 110, 111, 112, 113, 114] (by decide +kernel) (by decide +kernel)
set_option maxRecDepth 20000 in
theorem gX4_cut_X3_takeCut : GoodIn wsX4_cut (wsV RX4 123 RX3 yX3_takeCut wsX3_takeCut) := goodIn_app (goodIn_of _ (by decide +kernel)) ggX4_cut_X3_takeCut
set_option maxRecDepth 20000 in
theorem ggX4_cut_X3_become : GoodIn wsX4_cut wsX3_become := goodIn_r _ [36, 16, 37, 38, 39, 40, 41, 42, 43, 44, 14, 45, 46, 47, 48, 49, 50, 108, 109, 110, 111, 112, 113, 114] (by decide +kernel) (by decide +kernel)
set_option maxRecDepth 20000 in
theorem gX4_cut_X3_become : GoodIn wsX4_cut (wsV RX4 127 RX3 yX3_become wsX3_become) := goodIn_app (goodIn_of _ (by decide +kernel)) ggX4_cut_X3_become
theorem dX4_cut_0 : decode cX4_cut 0 = .ok (.iload_n 1, 1) := by decide +kernel
theorem dX4_cut_1 : decode cX4_cut 1 = .ok (.invokestatic 75, 3) := by decide +kernel
theorem dX4_cut_4 : decode cX4_cut 4 = .ok (.ifCond .eq 15, 3) := by decide +kernel
theorem dX4_cut_7 : decode cX4_cut 7 = .ok (.iload_n 2, 1) := by decide +kernel
theorem dX4_cut_8 : decode cX4_cut 8 = .ok (.iconst 1, 1) := by decide +kernel
theorem dX4_cut_9 : decode cX4_cut 9 = .ok (.bipush 100, 2) := by decide +kernel
theorem dX4_cut_11 : decode cX4_cut 11 = .ok (.iload_n 1, 1) := by decide +kernel
theorem dX4_cut_12 : decode cX4_cut 12 = .ok (.isub, 1) := by decide +kernel
theorem dX4_cut_13 : decode cX4_cut 13 = .ok (.invokestatic 48, 3) := by decide +kernel
theorem dX4_cut_16 : decode cX4_cut 16 = .ok (.ifCond .ne 6, 3) := by decide +kernel
theorem dX4_cut_19 : decode cX4_cut 19 = .ok (.bipush (-2), 2) := by decide +kernel
theorem dX4_cut_21 : decode cX4_cut 21 = .ok (.ireturn, 1) := by decide +kernel
theorem dX4_cut_22 : decode cX4_cut 22 = .ok (.aload_n 0, 1) := by decide +kernel
theorem dX4_cut_23 : decode cX4_cut 23 = .ok (.getfield 10, 3) := by decide +kernel
theorem dX4_cut_26 : decode cX4_cut 26 = .ok (.invokevirtual 78, 3) := by decide +kernel
theorem dX4_cut_29 : decode cX4_cut 29 = .ok (.istore_n 3, 1) := by decide +kernel
theorem dX4_cut_30 : decode cX4_cut 30 = .ok (.aload_n 0, 1) := by decide +kernel
theorem dX4_cut_31 : decode cX4_cut 31 = .ok (.getfield 36, 3) := by decide +kernel
theorem dX4_cut_34 : decode cX4_cut 34 = .ok (.aload_n 0, 1) := by decide +kernel
theorem dX4_cut_35 : decode cX4_cut 35 = .ok (.getfield 10, 3) := by decide +kernel
theorem dX4_cut_38 : decode cX4_cut 38 = .ok (.invokevirtual 63, 3) := by decide +kernel
theorem dX4_cut_41 : decode cX4_cut 41 = .ok (.aload_n 0, 1) := by decide +kernel
theorem dX4_cut_42 : decode cX4_cut 42 = .ok (.getfield 16, 3) := by decide +kernel
theorem dX4_cut_45 : decode cX4_cut 45 = .ok (.aload_n 0, 1) := by decide +kernel
theorem dX4_cut_46 : decode cX4_cut 46 = .ok (.getfield 10, 3) := by decide +kernel
theorem dX4_cut_49 : decode cX4_cut 49 = .ok (.invokevirtual 120, 3) := by decide +kernel
theorem dX4_cut_52 : decode cX4_cut 52 = .ok (.aload_n 0, 1) := by decide +kernel
theorem dX4_cut_53 : decode cX4_cut 53 = .ok (.getfield 16, 3) := by decide +kernel
theorem dX4_cut_56 : decode cX4_cut 56 = .ok (.aload_n 0, 1) := by decide +kernel
theorem dX4_cut_57 : decode cX4_cut 57 = .ok (.getfield 10, 3) := by decide +kernel
theorem dX4_cut_60 : decode cX4_cut 60 = .ok (.iload_n 1, 1) := by decide +kernel
theorem dX4_cut_61 : decode cX4_cut 61 = .ok (.iload_n 2, 1) := by decide +kernel
theorem dX4_cut_62 : decode cX4_cut 62 = .ok (.invokevirtual 123, 3) := by decide +kernel
theorem dX4_cut_65 : decode cX4_cut 65 = .ok (.aload_n 0, 1) := by decide +kernel
theorem dX4_cut_66 : decode cX4_cut 66 = .ok (.getfield 10, 3) := by decide +kernel
theorem dX4_cut_69 : decode cX4_cut 69 = .ok (.aload_n 0, 1) := by decide +kernel
theorem dX4_cut_70 : decode cX4_cut 70 = .ok (.getfield 16, 3) := by decide +kernel
theorem dX4_cut_73 : decode cX4_cut 73 = .ok (.invokevirtual 127, 3) := by decide +kernel
theorem dX4_cut_76 : decode cX4_cut 76 = .ok (.iload_n 3, 1) := by decide +kernel
theorem dX4_cut_77 : decode cX4_cut 77 = .ok (.aload_n 0, 1) := by decide +kernel
theorem dX4_cut_78 : decode cX4_cut 78 = .ok (.getfield 10, 3) := by decide +kernel
theorem dX4_cut_81 : decode cX4_cut 81 = .ok (.invokevirtual 78, 3) := by decide +kernel
theorem dX4_cut_84 : decode cX4_cut 84 = .ok (.isub, 1) := by decide +kernel
theorem dX4_cut_85 : decode cX4_cut 85 = .ok (.ireturn, 1) := by decide +kernel
set_option maxRecDepth 20000 in
theorem ggX4_copy_X4_isPassage : GoodIn wsX4_copy wsX4_isPassage := goodIn_r _ [7, 8, 9, 6, 10, 11, 12, 13] (by decide +kernel) (by decide +kernel)
set_option maxRecDepth 20000 in
theorem gX4_copy_X4_isPassage : GoodIn wsX4_copy (va_wsS RX4 130 yX4_isPassage wsX4_isPassage) := goodIn_app (goodIn_of _ (by decide +kernel)) ggX4_copy_X4_isPassage
set_option maxRecDepth 20000 in
theorem ggX4_copy_X4_isStep : GoodIn wsX4_copy wsX4_isStep := goodIn_r _ [10, 11, 12, 6, 13] (by decide +kernel) (by decide +kernel)
set_option maxRecDepth 20000 in
theorem gX4_copy_X4_isStep : GoodIn wsX4_copy (va_wsS RX4 75 yX4_isStep wsX4_isStep) := goodIn_app (goodIn_of _ (by decide +kernel)) ggX4_copy_X4_isStep
set_option maxRecDepth 20000 in
theorem ggX4_copy_X3_within : GoodIn wsX4_copy wsX3_within := goodIn_r _ [18, 19, 20, 21, 22, 17, 23, 24, 25, 26, 27, 28, 29, 30, 31, 32, 33, 34, 35, 36, 37, 127, 128, 129, 130, 131, 132, 133] (by decide +kernel) (by decide +kernel)
set_option maxRecDepth 20000 in
theorem gX4_copy_X3_within : GoodIn wsX4_copy (wsV RX4 134 RX3 yX3_within wsX3_within) := goodIn_app (goodIn_of _ (by decide +kernel)) ggX4_copy_X3_within
set_option maxRecDepth 20000 in
theorem ggX4_copy_X3_size : GoodIn wsX4_copy wsX3_size := goodIn_r _ [41, 19, 127, 128, 129, 130, 131, 132, 133] (by decide +kernel) (by decide +kernel)
set_option maxRecDepth 20000 in
theorem gX4_copy_X3_size : GoodIn wsX4_copy (wsV RX4 78 RX3 yX3_size wsX3_size) := goodIn_app (goodIn_of _ (by decide +kernel)) ggX4_copy_X3_size
set_option maxRecDepth 20000 in
theorem ggX4_copy_X4_isFreeAt : GoodIn wsX4_copy wsX4_isFreeAt := goodIn_r _ [45, 1, 38, 39, 40, 17, 41, 19, 46, 21, 22, 23, 24, 25, 26, 27, 28, 29, 30, 31, 32, 33, 34, 35, 36, 37, 47, 48, 49, 50, 51, 52, 53, 54, 55, 56, 57, 58, 59, 60, 61, 62, 120, 121, 122, 123, 124, 125, 126, 127, 128, 129, 130, 131, 132, 133] (by decide +kernel) (by decide +kernel)
set_option maxRecDepth 20000 in
theorem gX4_copy_X4_isFreeAt : GoodIn wsX4_copy (wsV RX4 137 RX4 yX4_isFreeAt wsX4_isFreeAt) := goodIn_app (goodIn_of _ (by decide +kernel)) ggX4_copy_X4_isFreeAt
set_option maxRecDepth 20000 in
theorem ggX4_copy_X0_record : GoodIn wsX4_copy wsX0_record := goodIn_r _ [67, 68, 69, 70, 71, 72, 73, 66, 74, 75, 76, 77, 78, 79, 80, 81, 17, 82, 19, 53, 32, 37, 83, 84, 85, 86, 87, 88, 89, 90, 91, 92, 93, 134, 135, 136, 127, 128, 129, 130, 131, 132, 133] (by decide +kernel) (by decide +kernel)
set_option maxRecDepth 20000 in
theorem gX4_copy_X0_record : GoodIn wsX4_copy (wsV RX4 63 RX0 yX0_record wsX0_record) := goodIn_app (goodIn_of _ (by decide +kernel)) ggX4_copy_X0_record
set_option maxRecDepth 20000 in
theorem ggX4_copy_X3_become : GoodIn wsX4_copy wsX3_become := goodIn_r _ [82, 19, 53, 32, 37, 83, 84, 85, 86, 87, 17, 88, 89, 90, 91, 92, 93, 127, 128, 129, 130, 131, 132, 133] (by decide +kernel) (by decide +kernel)
set_option maxRecDepth 20000 in
theorem gX4_copy_X3_become : GoodIn wsX4_copy (wsV RX4 127 RX3 yX3_become wsX3_become) := goodIn_app (goodIn_of _ (by decide +kernel)) ggX4_copy_X3_become
set_option maxRecDepth 20000 in
theorem ggX4_copy_X3_addPassage : GoodIn wsX4_copy wsX3_addPassage := goodIn_r _ [98, 99, 39, 40, 17, 41, 19, 20, 21, 22, 23, 24, 25, 26, 27, 28, 29, 30, 31, 32, 33, 34, 35, 36, 37, 62, 50, 51, 52, 53, 100, 101, 102, 103, 83, 104, 105, 106, 107, 84, 108, 109, 110, 111, 112, 113, 114, 115, 116, 117, 118, 119, 12, 6, 13, 127, 128, 129, 130, 131, 132, 133] (by decide +kernel) (by decide +kernel)
set_option maxRecDepth 20000 in
theorem gX4_copy_X3_addPassage : GoodIn wsX4_copy (wsV RX4 140 RX3 yX3_addPassage wsX3_addPassage) := goodIn_app (goodIn_of _ (by decide +kernel)) ggX4_copy_X3_addPassage
theorem dX4_copy_0 : decode cX4_copy 0 = .ok (.iload_n 1, 1) := by decide +kernel
theorem dX4_copy_1 : decode cX4_copy 1 = .ok (.iload_n 2, 1) := by decide +kernel
theorem dX4_copy_2 : decode cX4_copy 2 = .ok (.invokestatic 130, 3) := by decide +kernel
theorem dX4_copy_5 : decode cX4_copy 5 = .ok (.ifCond .eq 10, 3) := by decide +kernel
theorem dX4_copy_8 : decode cX4_copy 8 = .ok (.iload_n 3, 1) := by decide +kernel
theorem dX4_copy_9 : decode cX4_copy 9 = .ok (.invokestatic 75, 3) := by decide +kernel
theorem dX4_copy_12 : decode cX4_copy 12 = .ok (.ifCond .ne 6, 3) := by decide +kernel
theorem dX4_copy_15 : decode cX4_copy 15 = .ok (.bipush (-2), 2) := by decide +kernel
theorem dX4_copy_17 : decode cX4_copy 17 = .ok (.ireturn, 1) := by decide +kernel
theorem dX4_copy_18 : decode cX4_copy 18 = .ok (.aload_n 0, 1) := by decide +kernel
theorem dX4_copy_19 : decode cX4_copy 19 = .ok (.getfield 10, 3) := by decide +kernel
theorem dX4_copy_22 : decode cX4_copy 22 = .ok (.iload_n 1, 1) := by decide +kernel
theorem dX4_copy_23 : decode cX4_copy 23 = .ok (.iload_n 2, 1) := by decide +kernel
theorem dX4_copy_24 : decode cX4_copy 24 = .ok (.invokevirtual 134, 3) := by decide +kernel
theorem dX4_copy_27 : decode cX4_copy 27 = .ok (.istore 4, 2) := by decide +kernel
theorem dX4_copy_29 : decode cX4_copy 29 = .ok (.aload_n 0, 1) := by decide +kernel
theorem dX4_copy_30 : decode cX4_copy 30 = .ok (.getfield 10, 3) := by decide +kernel
theorem dX4_copy_33 : decode cX4_copy 33 = .ok (.invokevirtual 78, 3) := by decide +kernel
theorem dX4_copy_36 : decode cX4_copy 36 = .ok (.iload 4, 2) := by decide +kernel
theorem dX4_copy_38 : decode cX4_copy 38 = .ok (.iadd, 1) := by decide +kernel
theorem dX4_copy_39 : decode cX4_copy 39 = .ok (.bipush 40, 2) := by decide +kernel
theorem dX4_copy_41 : decode cX4_copy 41 = .ok (.if_icmp .le 6, 3) := by decide +kernel
theorem dX4_copy_44 : decode cX4_copy 44 = .ok (.bipush (-4), 2) := by decide +kernel
theorem dX4_copy_46 : decode cX4_copy 46 = .ok (.ireturn, 1) := by decide +kernel
theorem dX4_copy_47 : decode cX4_copy 47 = .ok (.aload_n 0, 1) := by decide +kernel
theorem dX4_copy_48 : decode cX4_copy 48 = .ok (.iload_n 1, 1) := by decide +kernel
theorem dX4_copy_49 : decode cX4_copy 49 = .ok (.iload_n 2, 1) := by decide +kernel
theorem dX4_copy_50 : decode cX4_copy 50 = .ok (.iload_n 3, 1) := by decide +kernel
theorem dX4_copy_51 : decode cX4_copy 51 = .ok (.invokevirtual 137, 3) := by decide +kernel
theorem dX4_copy_54 : decode cX4_copy 54 = .ok (.ifCond .ne 6, 3) := by decide +kernel
theorem dX4_copy_57 : decode cX4_copy 57 = .ok (.bipush (-5), 2) := by decide +kernel
theorem dX4_copy_59 : decode cX4_copy 59 = .ok (.ireturn, 1) := by decide +kernel
theorem dX4_copy_60 : decode cX4_copy 60 = .ok (.aload_n 0, 1) := by decide +kernel
theorem dX4_copy_61 : decode cX4_copy 61 = .ok (.getfield 36, 3) := by decide +kernel
theorem dX4_copy_64 : decode cX4_copy 64 = .ok (.aload_n 0, 1) := by decide +kernel
theorem dX4_copy_65 : decode cX4_copy 65 = .ok (.getfield 10, 3) := by decide +kernel
theorem dX4_copy_68 : decode cX4_copy 68 = .ok (.invokevirtual 63, 3) := by decide +kernel
theorem dX4_copy_71 : decode cX4_copy 71 = .ok (.aload_n 0, 1) := by decide +kernel
theorem dX4_copy_72 : decode cX4_copy 72 = .ok (.getfield 16, 3) := by decide +kernel
theorem dX4_copy_75 : decode cX4_copy 75 = .ok (.aload_n 0, 1) := by decide +kernel
theorem dX4_copy_76 : decode cX4_copy 76 = .ok (.getfield 10, 3) := by decide +kernel
theorem dX4_copy_79 : decode cX4_copy 79 = .ok (.invokevirtual 127, 3) := by decide +kernel
theorem dX4_copy_82 : decode cX4_copy 82 = .ok (.aload_n 0, 1) := by decide +kernel
theorem dX4_copy_83 : decode cX4_copy 83 = .ok (.getfield 16, 3) := by decide +kernel
theorem dX4_copy_86 : decode cX4_copy 86 = .ok (.aload_n 0, 1) := by decide +kernel
theorem dX4_copy_87 : decode cX4_copy 87 = .ok (.getfield 10, 3) := by decide +kernel
theorem dX4_copy_90 : decode cX4_copy 90 = .ok (.iload_n 1, 1) := by decide +kernel
theorem dX4_copy_91 : decode cX4_copy 91 = .ok (.iload_n 2, 1) := by decide +kernel
theorem dX4_copy_92 : decode cX4_copy 92 = .ok (.iload_n 3, 1) := by decide +kernel
theorem dX4_copy_93 : decode cX4_copy 93 = .ok (.invokevirtual 140, 3) := by decide +kernel
theorem dX4_copy_96 : decode cX4_copy 96 = .ok (.aload_n 0, 1) := by decide +kernel
theorem dX4_copy_97 : decode cX4_copy 97 = .ok (.getfield 10, 3) := by decide +kernel
theorem dX4_copy_100 : decode cX4_copy 100 = .ok (.aload_n 0, 1) := by decide +kernel
theorem dX4_copy_101 : decode cX4_copy 101 = .ok (.getfield 16, 3) := by decide +kernel
theorem dX4_copy_104 : decode cX4_copy 104 = .ok (.invokevirtual 127, 3) := by decide +kernel
theorem dX4_copy_107 : decode cX4_copy 107 = .ok (.iload 4, 2) := by decide +kernel
theorem dX4_copy_109 : decode cX4_copy 109 = .ok (.ireturn, 1) := by decide +kernel
set_option maxRecDepth 20000 in
theorem ggX4_of_X3_has : GoodIn wsX4_of wsX3_has := goodIn_r _ [7, 8, 123, 124, 125, 126, 127, 128, 129] (by decide +kernel) (by decide +kernel)
set_option maxRecDepth 20000 in
theorem gX4_of_X3_has : GoodIn wsX4_of (wsV RX4 89 RX3 yX3_has wsX3_has) := goodIn_app (goodIn_of _ (by decide +kernel)) ggX4_of_X3_has
set_option maxRecDepth 20000 in
theorem ggX4_of_X3_trackOf : GoodIn wsX4_of wsX3_trackOf := goodIn_r _ [12, 13, 14, 4, 5, 6, 7, 8, 123, 124, 125, 126, 127, 128, 129] (by decide +kernel) (by decide +kernel)
set_option maxRecDepth 20000 in
theorem gX4_of_X3_trackOf : GoodIn wsX4_of (wsV RX4 160 RX3 yX3_trackOf wsX3_trackOf) := goodIn_app (goodIn_of _ (by decide +kernel)) ggX4_of_X3_trackOf
set_option maxRecDepth 20000 in
theorem ggX4_of_X3_firstOf : GoodIn wsX4_of wsX3_firstOf := goodIn_r _ [18, 19, 14, 4, 5, 6, 7, 8, 123, 124, 125, 126, 127, 128, 129] (by decide +kernel) (by decide +kernel)
set_option maxRecDepth 20000 in
theorem gX4_of_X3_firstOf : GoodIn wsX4_of (wsV RX4 163 RX3 yX3_firstOf wsX3_firstOf) := goodIn_app (goodIn_of _ (by decide +kernel)) ggX4_of_X3_firstOf
set_option maxRecDepth 20000 in
theorem ggX4_of_X3_lastOf : GoodIn wsX4_of wsX3_lastOf := goodIn_r _ [23, 24, 14, 4, 5, 6, 7, 8, 123, 124, 125, 126, 127, 128, 129] (by decide +kernel) (by decide +kernel)
set_option maxRecDepth 20000 in
theorem gX4_of_X3_lastOf : GoodIn wsX4_of (wsV RX4 166 RX3 yX3_lastOf wsX3_lastOf) := goodIn_app (goodIn_of _ (by decide +kernel)) ggX4_of_X3_lastOf
set_option maxRecDepth 20000 in
theorem ggX4_of_X3_shiftOf : GoodIn wsX4_of wsX3_shiftOf := goodIn_r _ [28, 29, 14, 4, 5, 6, 7, 8, 123, 124, 125, 126, 127, 128, 129] (by decide +kernel) (by decide +kernel)
set_option maxRecDepth 20000 in
theorem gX4_of_X3_shiftOf : GoodIn wsX4_of (wsV RX4 96 RX3 yX3_shiftOf wsX3_shiftOf) := goodIn_app (goodIn_of _ (by decide +kernel)) ggX4_of_X3_shiftOf
set_option maxRecDepth 20000 in
theorem ggX4_of_X3_hasAccent : GoodIn wsX4_of wsX3_hasAccent := goodIn_r _ [33, 34, 14, 4, 5, 6, 7, 8, 123, 124, 125, 126, 127, 128, 129] (by decide +kernel) (by decide +kernel)
set_option maxRecDepth 20000 in
theorem gX4_of_X3_hasAccent : GoodIn wsX4_of (wsV RX4 102 RX3 yX3_hasAccent wsX3_hasAccent) := goodIn_app (goodIn_of _ (by decide +kernel)) ggX4_of_X3_hasAccent
set_option maxRecDepth 20000 in
theorem ggX4_of_X4_asNumber : GoodIn wsX4_of wsX4_asNumber := goodIn_r _ [38] (by decide +kernel) (by decide +kernel)
set_option maxRecDepth 20000 in
theorem gX4_of_X4_asNumber : GoodIn wsX4_of (va_wsS RX4 109 yX4_asNumber wsX4_asNumber) := goodIn_app (goodIn_of _ (by decide +kernel)) ggX4_of_X4_asNumber
set_option maxRecDepth 20000 in
theorem ggX4_of_X3_bridges : GoodIn wsX4_of wsX3_bridges := goodIn_r _ [42, 43, 16, 17, 6, 18, 19, 14, 4, 5, 7, 8, 44, 21, 22, 23, 24, 45, 46, 47, 48, 49, 50, 26, 27, 28, 29, 123, 124, 125, 126, 127, 128, 129] (by decide +kernel) (by decide +kernel)
set_option maxRecDepth 20000 in
theorem gX4_of_X3_bridges : GoodIn wsX4_of (wsV RX4 169 RX3 yX3_bridges wsX3_bridges) := goodIn_app (goodIn_of _ (by decide +kernel)) ggX4_of_X3_bridges
set_option maxRecDepth 20000 in
theorem ggX4_of_X3_longestBridge : GoodIn wsX4_of wsX3_longestBridge := goodIn_r _ [54, 55, 56, 57, 58, 43, 16, 17, 6, 18, 19, 14, 4, 5, 7, 8, 44, 21, 22, 23, 24, 45, 46, 47, 48, 49, 50, 26, 27, 28, 29, 123, 124, 125, 126, 127, 128, 129] (by decide +kernel) (by decide +kernel)
set_option maxRecDepth 20000 in
theorem gX4_of_X3_longestBridge : GoodIn wsX4_of (wsV RX4 172 RX3 yX3_longestBridge wsX3_longestBridge) := goodIn_app (goodIn_of _ (by decide +kernel)) ggX4_of_X3_longestBridge
set_option maxRecDepth 20000 in
theorem ggX4_of_X2_perforate : GoodIn wsX4_of wsX2_perforate := goodIn_r _ [63, 64, 65, 66, 67, 68, 6, 69, 49, 70, 37, 71, 72, 73, 74, 75, 76, 77, 78, 79, 8, 80, 10, 11, 12, 13, 14, 4, 5, 7, 81, 16, 17, 18, 19, 82, 21, 22, 23, 24, 83, 46, 47, 48, 43, 44, 50, 26, 27, 28, 29, 84, 85, 86, 62, 87, 88, 89, 90, 91, 92, 93, 31, 32, 33, 34, 94, 95, 96, 97, 98, 56, 57, 58, 99, 100, 101, 102, 103, 130, 131, 132, 123, 124, 125, 126, 127, 128, 129] (by decide +kernel) (by decide +kernel)
set_option maxRecDepth 20000 in
theorem gX4_of_X2_perforate : GoodIn wsX4_of (wsV RX4 175 RX2 yX2_perforate wsX2_perforate) := goodIn_app (goodIn_of _ (by decide +kernel)) ggX4_of_X2_perforate
set_option maxRecDepth 20000 in
theorem ggX4_of_X4_isHeardWhole : GoodIn wsX4_of wsX4_isHeardWhole := goodIn_r _ [107, 1, 2, 15, 16, 17, 6, 18, 19, 14, 4, 5, 7, 8, 20, 21, 22, 23, 24, 9, 10, 11, 12, 13, 108, 109, 110, 62, 111, 88, 37, 89, 90, 70, 71, 112, 113, 114, 115, 99, 91, 92, 116, 117, 118, 119, 120, 121, 122, 123, 124, 125, 126, 127, 128, 129, 130, 131, 132] (by decide +kernel) (by decide +kernel)
set_option maxRecDepth 20000 in
theorem gX4_of_X4_isHeardWhole : GoodIn wsX4_of (wsV RX4 178 RX4 yX4_isHeardWhole wsX4_isHeardWhole) := goodIn_app (goodIn_of _ (by decide +kernel)) ggX4_of_X4_isHeardWhole
theorem dX4_of_0 : decode cX4_of 0 = .ok (.aload_n 0, 1) := by decide +kernel
theorem dX4_of_1 : decode cX4_of 1 = .ok (.getfield 10, 3) := by decide +kernel
theorem dX4_of_4 : decode cX4_of 4 = .ok (.iload_n 1, 1) := by decide +kernel
theorem dX4_of_5 : decode cX4_of 5 = .ok (.invokevirtual 89, 3) := by decide +kernel
theorem dX4_of_8 : decode cX4_of 8 = .ok (.ifCond .ne 5, 3) := by decide +kernel
theorem dX4_of_11 : decode cX4_of 11 = .ok (.iconst (-1), 1) := by decide +kernel
theorem dX4_of_12 : decode cX4_of 12 = .ok (.ireturn, 1) := by decide +kernel
theorem dX4_of_13 : decode cX4_of 13 = .ok (.iload_n 2, 1) := by decide +kernel
theorem dX4_of_14 : decode cX4_of 14 = .ok (.tableswitch 132 0 7 #[46, 55, 64, 73, 82, 94, 103, 112], 46) := by decide +kernel
theorem dX4_of_60 : decode cX4_of 60 = .ok (.aload_n 0, 1) := by decide +kernel
theorem dX4_of_61 : decode cX4_of 61 = .ok (.getfield 10, 3) := by decide +kernel
theorem dX4_of_64 : decode cX4_of 64 = .ok (.iload_n 1, 1) := by decide +kernel
theorem dX4_of_65 : decode cX4_of 65 = .ok (.invokevirtual 160, 3) := by decide +kernel
theorem dX4_of_68 : decode cX4_of 68 = .ok (.ireturn, 1) := by decide +kernel
theorem dX4_of_69 : decode cX4_of 69 = .ok (.aload_n 0, 1) := by decide +kernel
theorem dX4_of_70 : decode cX4_of 70 = .ok (.getfield 10, 3) := by decide +kernel
theorem dX4_of_73 : decode cX4_of 73 = .ok (.iload_n 1, 1) := by decide +kernel
theorem dX4_of_74 : decode cX4_of 74 = .ok (.invokevirtual 163, 3) := by decide +kernel
theorem dX4_of_77 : decode cX4_of 77 = .ok (.ireturn, 1) := by decide +kernel
theorem dX4_of_78 : decode cX4_of 78 = .ok (.aload_n 0, 1) := by decide +kernel
theorem dX4_of_79 : decode cX4_of 79 = .ok (.getfield 10, 3) := by decide +kernel
theorem dX4_of_82 : decode cX4_of 82 = .ok (.iload_n 1, 1) := by decide +kernel
theorem dX4_of_83 : decode cX4_of 83 = .ok (.invokevirtual 166, 3) := by decide +kernel
theorem dX4_of_86 : decode cX4_of 86 = .ok (.ireturn, 1) := by decide +kernel
theorem dX4_of_87 : decode cX4_of 87 = .ok (.aload_n 0, 1) := by decide +kernel
theorem dX4_of_88 : decode cX4_of 88 = .ok (.getfield 10, 3) := by decide +kernel
theorem dX4_of_91 : decode cX4_of 91 = .ok (.iload_n 1, 1) := by decide +kernel
theorem dX4_of_92 : decode cX4_of 92 = .ok (.invokevirtual 96, 3) := by decide +kernel
theorem dX4_of_95 : decode cX4_of 95 = .ok (.ireturn, 1) := by decide +kernel
theorem dX4_of_96 : decode cX4_of 96 = .ok (.aload_n 0, 1) := by decide +kernel
theorem dX4_of_97 : decode cX4_of 97 = .ok (.getfield 10, 3) := by decide +kernel
theorem dX4_of_100 : decode cX4_of 100 = .ok (.iload_n 1, 1) := by decide +kernel
theorem dX4_of_101 : decode cX4_of 101 = .ok (.invokevirtual 102, 3) := by decide +kernel
theorem dX4_of_104 : decode cX4_of 104 = .ok (.invokestatic 109, 3) := by decide +kernel
theorem dX4_of_107 : decode cX4_of 107 = .ok (.ireturn, 1) := by decide +kernel
theorem dX4_of_108 : decode cX4_of 108 = .ok (.aload_n 0, 1) := by decide +kernel
theorem dX4_of_109 : decode cX4_of 109 = .ok (.getfield 10, 3) := by decide +kernel
theorem dX4_of_112 : decode cX4_of 112 = .ok (.iload_n 1, 1) := by decide +kernel
theorem dX4_of_113 : decode cX4_of 113 = .ok (.invokevirtual 169, 3) := by decide +kernel
theorem dX4_of_116 : decode cX4_of 116 = .ok (.ireturn, 1) := by decide +kernel
theorem dX4_of_117 : decode cX4_of 117 = .ok (.aload_n 0, 1) := by decide +kernel
theorem dX4_of_118 : decode cX4_of 118 = .ok (.getfield 10, 3) := by decide +kernel
theorem dX4_of_121 : decode cX4_of 121 = .ok (.iload_n 1, 1) := by decide +kernel
theorem dX4_of_122 : decode cX4_of 122 = .ok (.invokevirtual 172, 3) := by decide +kernel
theorem dX4_of_125 : decode cX4_of 125 = .ok (.ireturn, 1) := by decide +kernel
theorem dX4_of_126 : decode cX4_of 126 = .ok (.aload_n 0, 1) := by decide +kernel
theorem dX4_of_127 : decode cX4_of 127 = .ok (.getfield 22, 3) := by decide +kernel
theorem dX4_of_130 : decode cX4_of 130 = .ok (.aload_n 0, 1) := by decide +kernel
theorem dX4_of_131 : decode cX4_of 131 = .ok (.getfield 10, 3) := by decide +kernel
theorem dX4_of_134 : decode cX4_of 134 = .ok (.invokevirtual 175, 3) := by decide +kernel
theorem dX4_of_137 : decode cX4_of 137 = .ok (.aload_n 0, 1) := by decide +kernel
theorem dX4_of_138 : decode cX4_of 138 = .ok (.iload_n 1, 1) := by decide +kernel
theorem dX4_of_139 : decode cX4_of 139 = .ok (.invokevirtual 178, 3) := by decide +kernel
theorem dX4_of_142 : decode cX4_of 142 = .ok (.invokestatic 109, 3) := by decide +kernel
theorem dX4_of_145 : decode cX4_of 145 = .ok (.ireturn, 1) := by decide +kernel
theorem dX4_of_146 : decode cX4_of 146 = .ok (.bipush (-2), 2) := by decide +kernel
theorem dX4_of_148 : decode cX4_of 148 = .ok (.ireturn, 1) := by decide +kernel
set_option maxRecDepth 20000 in
theorem ggX4_at_X4_isStep : GoodIn wsX4_at wsX4_isStep := goodIn_r _ [6, 7, 8, 5, 9] (by decide +kernel) (by decide +kernel)
set_option maxRecDepth 20000 in
theorem gX4_at_X4_isStep : GoodIn wsX4_at (va_wsS RX4 75 yX4_isStep wsX4_isStep) := goodIn_app (goodIn_of _ (by decide +kernel)) ggX4_at_X4_isStep
set_option maxRecDepth 20000 in
theorem ggX4_at_X2_perforate : GoodIn wsX4_at wsX2_perforate := goodIn_r _ [14, 15, 16, 17, 18, 19, 20, 21, 22, 8, 5, 9, 23, 24, 25, 26, 27, 28, 29, 30, 31, 32, 33, 34, 35, 36, 37, 38, 39, 40, 41, 42, 43, 44, 45, 46, 47, 48, 49, 50, 51, 52, 53, 54, 55, 56, 57, 58, 59, 60, 61, 62, 63, 64, 13, 65, 66, 67, 7, 4, 6, 68, 69, 70, 71, 72, 73, 74, 75, 76, 77, 78, 79, 80, 81, 82, 83, 84, 85, 115, 116, 117, 118, 119, 120, 121, 122, 123, 124] (by decide +kernel) (by decide +kernel)
set_option maxRecDepth 20000 in
theorem gX4_at_X2_perforate : GoodIn wsX4_at (wsV RX4 175 RX2 yX2_perforate wsX2_perforate) := goodIn_app (goodIn_of _ (by decide +kernel)) ggX4_at_X2_perforate
set_option maxRecDepth 20000 in
theorem ggX4_at_X2_holesAt : GoodIn wsX4_at wsX2_holesAt := goodIn_r _ [85, 16, 4, 5, 6, 7, 8, 9, 115, 116, 117] (by decide +kernel) (by decide +kernel)
set_option maxRecDepth 20000 in
theorem gX4_at_X2_holesAt : GoodIn wsX4_at (wsV RX4 181 RX2 yX2_holesAt wsX2_holesAt) := goodIn_app (goodIn_of _ (by decide +kernel)) ggX4_at_X2_holesAt
set_option maxRecDepth 20000 in
theorem ggX4_at_X2_heardAt : GoodIn wsX4_at wsX2_heardAt := goodIn_r _ [90, 81, 4, 5, 6, 7, 8, 9, 115, 116, 117] (by decide +kernel) (by decide +kernel)
set_option maxRecDepth 20000 in
theorem gX4_at_X2_heardAt : GoodIn wsX4_at (wsV RX4 184 RX2 yX2_heardAt wsX2_heardAt) := goodIn_app (goodIn_of _ (by decide +kernel)) ggX4_at_X2_heardAt
set_option maxRecDepth 20000 in
theorem ggX4_at_X3_tracksAt : GoodIn wsX4_at wsX3_tracksAt := goodIn_r _ [94, 31, 55, 42, 43, 20, 44, 45, 37, 38, 39, 40, 56, 47, 48, 49, 50, 95, 33, 34, 35, 36, 118, 119, 120, 121, 122, 123, 124] (by decide +kernel) (by decide +kernel)
set_option maxRecDepth 20000 in
theorem gX4_at_X3_tracksAt : GoodIn wsX4_at (wsV RX4 187 RX3 yX3_tracksAt wsX3_tracksAt) := goodIn_app (goodIn_of _ (by decide +kernel)) ggX4_at_X3_tracksAt
set_option maxRecDepth 20000 in
theorem ggX4_at_X2_sideBySide : GoodIn wsX4_at wsX2_sideBySide := goodIn_r _ [99, 77, 78, 79, 80, 82, 83, 84, 13, 85, 16, 4, 5, 6, 7, 8, 9, 115, 116, 117] (by decide +kernel) (by decide +kernel)
set_option maxRecDepth 20000 in
theorem gX4_at_X2_sideBySide : GoodIn wsX4_at (wsV RX4 190 RX2 yX2_sideBySide wsX2_sideBySide) := goodIn_app (goodIn_of _ (by decide +kernel)) ggX4_at_X2_sideBySide
set_option maxRecDepth 20000 in
theorem ggX4_at_X2_isWeak : GoodIn wsX4_at wsX2_isWeak := goodIn_r _ [103, 15, 104, 97, 98, 13, 99, 77, 78, 79, 80, 82, 83, 84, 85, 16, 4, 5, 6, 7, 8, 9, 115, 116, 117] (by decide +kernel) (by decide +kernel)
set_option maxRecDepth 20000 in
theorem gX4_at_X2_isWeak : GoodIn wsX4_at (wsV RX4 193 RX2 yX2_isWeak wsX2_isWeak) := goodIn_app (goodIn_of _ (by decide +kernel)) ggX4_at_X2_isWeak
set_option maxRecDepth 20000 in
theorem ggX4_at_X4_asNumber : GoodIn wsX4_at wsX4_asNumber := goodIn_r _ [107] (by decide +kernel) (by decide +kernel)
set_option maxRecDepth 20000 in
theorem gX4_at_X4_asNumber : GoodIn wsX4_at (va_wsS RX4 109 yX4_asNumber wsX4_asNumber) := goodIn_app (goodIn_of _ (by decide +kernel)) ggX4_at_X4_asNumber
theorem dX4_at_0 : decode cX4_at 0 = .ok (.iload_n 1, 1) := by decide +kernel
theorem dX4_at_1 : decode cX4_at 1 = .ok (.invokestatic 75, 3) := by decide +kernel
theorem dX4_at_4 : decode cX4_at 4 = .ok (.ifCond .ne 6, 3) := by decide +kernel
theorem dX4_at_7 : decode cX4_at 7 = .ok (.bipush (-2), 2) := by decide +kernel
theorem dX4_at_9 : decode cX4_at 9 = .ok (.ireturn, 1) := by decide +kernel
theorem dX4_at_10 : decode cX4_at 10 = .ok (.aload_n 0, 1) := by decide +kernel
theorem dX4_at_11 : decode cX4_at 11 = .ok (.getfield 22, 3) := by decide +kernel
theorem dX4_at_14 : decode cX4_at 14 = .ok (.aload_n 0, 1) := by decide +kernel
theorem dX4_at_15 : decode cX4_at 15 = .ok (.getfield 10, 3) := by decide +kernel
theorem dX4_at_18 : decode cX4_at 18 = .ok (.invokevirtual 175, 3) := by decide +kernel
theorem dX4_at_21 : decode cX4_at 21 = .ok (.iload_n 2, 1) := by decide +kernel
theorem dX4_at_22 : decode cX4_at 22 = .ok (.tableswitch 82 0 4 #[34, 43, 52, 61, 70], 34) := by decide +kernel
theorem dX4_at_56 : decode cX4_at 56 = .ok (.aload_n 0, 1) := by decide +kernel
theorem dX4_at_57 : decode cX4_at 57 = .ok (.getfield 22, 3) := by decide +kernel
theorem dX4_at_60 : decode cX4_at 60 = .ok (.iload_n 1, 1) := by decide +kernel
theorem dX4_at_61 : decode cX4_at 61 = .ok (.invokevirtual 181, 3) := by decide +kernel
theorem dX4_at_64 : decode cX4_at 64 = .ok (.ireturn, 1) := by decide +kernel
theorem dX4_at_65 : decode cX4_at 65 = .ok (.aload_n 0, 1) := by decide +kernel
theorem dX4_at_66 : decode cX4_at 66 = .ok (.getfield 22, 3) := by decide +kernel
theorem dX4_at_69 : decode cX4_at 69 = .ok (.iload_n 1, 1) := by decide +kernel
theorem dX4_at_70 : decode cX4_at 70 = .ok (.invokevirtual 184, 3) := by decide +kernel
theorem dX4_at_73 : decode cX4_at 73 = .ok (.ireturn, 1) := by decide +kernel
theorem dX4_at_74 : decode cX4_at 74 = .ok (.aload_n 0, 1) := by decide +kernel
theorem dX4_at_75 : decode cX4_at 75 = .ok (.getfield 10, 3) := by decide +kernel
theorem dX4_at_78 : decode cX4_at 78 = .ok (.iload_n 1, 1) := by decide +kernel
theorem dX4_at_79 : decode cX4_at 79 = .ok (.invokevirtual 187, 3) := by decide +kernel
theorem dX4_at_82 : decode cX4_at 82 = .ok (.ireturn, 1) := by decide +kernel
theorem dX4_at_83 : decode cX4_at 83 = .ok (.aload_n 0, 1) := by decide +kernel
theorem dX4_at_84 : decode cX4_at 84 = .ok (.getfield 22, 3) := by decide +kernel
theorem dX4_at_87 : decode cX4_at 87 = .ok (.iload_n 1, 1) := by decide +kernel
theorem dX4_at_88 : decode cX4_at 88 = .ok (.invokevirtual 190, 3) := by decide +kernel
theorem dX4_at_91 : decode cX4_at 91 = .ok (.ireturn, 1) := by decide +kernel
theorem dX4_at_92 : decode cX4_at 92 = .ok (.aload_n 0, 1) := by decide +kernel
theorem dX4_at_93 : decode cX4_at 93 = .ok (.getfield 22, 3) := by decide +kernel
theorem dX4_at_96 : decode cX4_at 96 = .ok (.iload_n 1, 1) := by decide +kernel
theorem dX4_at_97 : decode cX4_at 97 = .ok (.invokevirtual 193, 3) := by decide +kernel
theorem dX4_at_100 : decode cX4_at 100 = .ok (.invokestatic 109, 3) := by decide +kernel
theorem dX4_at_103 : decode cX4_at 103 = .ok (.ireturn, 1) := by decide +kernel
theorem dX4_at_104 : decode cX4_at 104 = .ok (.bipush (-2), 2) := by decide +kernel
theorem dX4_at_106 : decode cX4_at 106 = .ok (.ireturn, 1) := by decide +kernel
set_option maxRecDepth 20000 in
theorem ggX4_sound_X4_isTrack : GoodIn wsX4_sound wsX4_isTrack := goodIn_r _ [6, 7, 8, 5, 9] (by decide +kernel) (by decide +kernel)
set_option maxRecDepth 20000 in
theorem gX4_sound_X4_isTrack : GoodIn wsX4_sound (va_wsS RX4 71 yX4_isTrack wsX4_isTrack) := goodIn_app (goodIn_of _ (by decide +kernel)) ggX4_sound_X4_isTrack
set_option maxRecDepth 20000 in
theorem ggX4_sound_X2_perforate : GoodIn wsX4_sound wsX2_perforate := goodIn_r _ [14, 15, 16, 17, 18, 19, 20, 21, 22, 8, 5, 9, 23, 24, 25, 26, 27, 28, 29, 30, 31, 32, 33, 34, 35, 36, 37, 38, 39, 40, 41, 42, 43, 44, 45, 46, 47, 48, 49, 50, 51, 52, 53, 54, 55, 56, 57, 58, 59, 60, 61, 62, 63, 64, 13, 65, 4, 6, 7, 66, 67, 68, 69, 70, 71, 72, 73, 74, 75, 76, 77, 78, 79, 80, 81, 82, 83, 84, 85, 118, 119, 120, 121, 122, 123, 124, 125, 126, 127] (by decide +kernel) (by decide +kernel)
set_option maxRecDepth 20000 in
theorem gX4_sound_X2_perforate : GoodIn wsX4_sound (wsV RX4 175 RX2 yX2_perforate wsX2_perforate) := goodIn_app (goodIn_of _ (by decide +kernel)) ggX4_sound_X2_perforate
set_option maxRecDepth 20000 in
theorem ggX4_sound_X2_soundStart : GoodIn wsX4_sound wsX2_soundStart := goodIn_r _ [89, 90, 91, 92, 13, 93, 94, 95, 96, 97, 4, 5, 6, 7, 8, 9, 98, 99, 100, 101, 81, 66, 67, 118, 119, 120] (by decide +kernel) (by decide +kernel)
set_option maxRecDepth 20000 in
theorem gX4_sound_X2_soundStart : GoodIn wsX4_sound (wsV RX4 196 RX2 yX2_soundStart wsX2_soundStart) := goodIn_app (goodIn_of _ (by decide +kernel)) ggX4_sound_X2_soundStart
set_option maxRecDepth 20000 in
theorem ggX4_sound_X2_soundEnd : GoodIn wsX4_sound wsX2_soundEnd := goodIn_r _ [105, 94, 95, 96, 13, 97, 4, 5, 6, 7, 8, 9, 98, 99, 100, 101, 81, 66, 67, 118, 119, 120] (by decide +kernel) (by decide +kernel)
set_option maxRecDepth 20000 in
theorem gX4_sound_X2_soundEnd : GoodIn wsX4_sound (wsV RX4 199 RX2 yX2_soundEnd wsX2_soundEnd) := goodIn_app (goodIn_of _ (by decide +kernel)) ggX4_sound_X2_soundEnd
set_option maxRecDepth 20000 in
theorem ggX4_sound_X3_touching : GoodIn wsX4_sound wsX3_touching := goodIn_r _ [109, 31, 110, 33, 34, 20, 35, 36, 37, 38, 39, 40, 55, 42, 43, 44, 45, 56, 47, 48, 49, 50, 121, 122, 123, 124, 125, 126, 127] (by decide +kernel) (by decide +kernel)
set_option maxRecDepth 20000 in
theorem gX4_sound_X3_touching : GoodIn wsX4_sound (wsV RX4 202 RX3 yX3_touching wsX3_touching) := goodIn_app (goodIn_of _ (by decide +kernel)) ggX4_sound_X3_touching
theorem dX4_sound_0 : decode cX4_sound 0 = .ok (.iload_n 1, 1) := by decide +kernel
theorem dX4_sound_1 : decode cX4_sound 1 = .ok (.invokestatic 71, 3) := by decide +kernel
theorem dX4_sound_4 : decode cX4_sound 4 = .ok (.ifCond .ne 5, 3) := by decide +kernel
theorem dX4_sound_7 : decode cX4_sound 7 = .ok (.iconst (-1), 1) := by decide +kernel
theorem dX4_sound_8 : decode cX4_sound 8 = .ok (.ireturn, 1) := by decide +kernel
theorem dX4_sound_9 : decode cX4_sound 9 = .ok (.aload_n 0, 1) := by decide +kernel
theorem dX4_sound_10 : decode cX4_sound 10 = .ok (.getfield 22, 3) := by decide +kernel
theorem dX4_sound_13 : decode cX4_sound 13 = .ok (.aload_n 0, 1) := by decide +kernel
theorem dX4_sound_14 : decode cX4_sound 14 = .ok (.getfield 10, 3) := by decide +kernel
theorem dX4_sound_17 : decode cX4_sound 17 = .ok (.invokevirtual 175, 3) := by decide +kernel
theorem dX4_sound_20 : decode cX4_sound 20 = .ok (.aload_n 0, 1) := by decide +kernel
theorem dX4_sound_21 : decode cX4_sound 21 = .ok (.getfield 22, 3) := by decide +kernel
theorem dX4_sound_24 : decode cX4_sound 24 = .ok (.iload_n 1, 1) := by decide +kernel
theorem dX4_sound_25 : decode cX4_sound 25 = .ok (.iload_n 2, 1) := by decide +kernel
theorem dX4_sound_26 : decode cX4_sound 26 = .ok (.invokevirtual 196, 3) := by decide +kernel
theorem dX4_sound_29 : decode cX4_sound 29 = .ok (.istore 4, 2) := by decide +kernel
theorem dX4_sound_31 : decode cX4_sound 31 = .ok (.iload 4, 2) := by decide +kernel
theorem dX4_sound_33 : decode cX4_sound 33 = .ok (.ifCond .ge 5, 3) := by decide +kernel
theorem dX4_sound_36 : decode cX4_sound 36 = .ok (.iconst (-1), 1) := by decide +kernel
theorem dX4_sound_37 : decode cX4_sound 37 = .ok (.ireturn, 1) := by decide +kernel
theorem dX4_sound_38 : decode cX4_sound 38 = .ok (.aload_n 0, 1) := by decide +kernel
theorem dX4_sound_39 : decode cX4_sound 39 = .ok (.getfield 22, 3) := by decide +kernel
theorem dX4_sound_42 : decode cX4_sound 42 = .ok (.iload_n 1, 1) := by decide +kernel
theorem dX4_sound_43 : decode cX4_sound 43 = .ok (.iload 4, 2) := by decide +kernel
theorem dX4_sound_45 : decode cX4_sound 45 = .ok (.invokevirtual 199, 3) := by decide +kernel
theorem dX4_sound_48 : decode cX4_sound 48 = .ok (.istore 5, 2) := by decide +kernel
theorem dX4_sound_50 : decode cX4_sound 50 = .ok (.iload_n 3, 1) := by decide +kernel
theorem dX4_sound_51 : decode cX4_sound 51 = .ok (.tableswitch 44 0 2 #[25, 28, 31], 25) := by decide +kernel
theorem dX4_sound_76 : decode cX4_sound 76 = .ok (.iload 4, 2) := by decide +kernel
theorem dX4_sound_78 : decode cX4_sound 78 = .ok (.ireturn, 1) := by decide +kernel
theorem dX4_sound_79 : decode cX4_sound 79 = .ok (.iload 5, 2) := by decide +kernel
theorem dX4_sound_81 : decode cX4_sound 81 = .ok (.ireturn, 1) := by decide +kernel
theorem dX4_sound_82 : decode cX4_sound 82 = .ok (.aload_n 0, 1) := by decide +kernel
theorem dX4_sound_83 : decode cX4_sound 83 = .ok (.getfield 10, 3) := by decide +kernel
theorem dX4_sound_86 : decode cX4_sound 86 = .ok (.iload_n 1, 1) := by decide +kernel
theorem dX4_sound_87 : decode cX4_sound 87 = .ok (.iload 4, 2) := by decide +kernel
theorem dX4_sound_89 : decode cX4_sound 89 = .ok (.iload 5, 2) := by decide +kernel
theorem dX4_sound_91 : decode cX4_sound 91 = .ok (.invokevirtual 202, 3) := by decide +kernel
theorem dX4_sound_94 : decode cX4_sound 94 = .ok (.ireturn, 1) := by decide +kernel
theorem dX4_sound_95 : decode cX4_sound 95 = .ok (.bipush (-2), 2) := by decide +kernel
theorem dX4_sound_97 : decode cX4_sound 97 = .ok (.ireturn, 1) := by decide +kernel
set_option maxRecDepth 20000 in
theorem ggX4_count_X2_perforate : GoodIn wsX4_count wsX2_perforate := goodIn_r _ [9, 10, 11, 12, 13, 14, 15, 16, 17, 18, 19, 20, 21, 22, 23, 24, 25, 26, 27, 28, 29, 30, 31, 32, 33, 34, 35, 36, 37, 38, 39, 40, 41, 42, 43, 44, 45, 46, 47, 48, 49, 50, 51, 52, 53, 54, 55, 56, 57, 58, 59, 60, 61, 62, 8, 63, 64, 65, 66, 67, 68, 69, 70, 71, 72, 73, 74, 75, 76, 77, 78, 79, 80, 81, 82, 83, 84, 85, 86, 175, 176, 177, 178, 179, 180, 181, 182, 183, 184] (by decide +kernel) (by decide +kernel)
set_option maxRecDepth 20000 in
theorem gX4_count_X2_perforate : GoodIn wsX4_count (wsV RX4 175 RX2 yX2_perforate wsX2_perforate) := goodIn_app (goodIn_of _ (by decide +kernel)) ggX4_count_X2_perforate
set_option maxRecDepth 20000 in
theorem ggX4_count_X3_size : GoodIn wsX4_count wsX3_size := goodIn_r _ [28, 29, 178, 179, 180, 181, 182, 183, 184] (by decide +kernel) (by decide +kernel)
set_option maxRecDepth 20000 in
theorem gX4_count_X3_size : GoodIn wsX4_count (wsV RX4 78 RX3 yX3_size wsX3_size) := goodIn_app (goodIn_of _ (by decide +kernel)) ggX4_count_X3_size
set_option maxRecDepth 20000 in
theorem ggX4_count_X2_allHoles : GoodIn wsX4_count wsX2_allHoles := goodIn_r _ [91, 83, 84, 85, 8, 86, 11, 67, 19, 68, 66, 18, 20, 92, 93, 94, 95, 96, 97, 98, 175, 176, 177] (by decide +kernel) (by decide +kernel)
set_option maxRecDepth 20000 in
theorem gX4_count_X2_allHoles : GoodIn wsX4_count (wsV RX4 206 RX2 yX2_allHoles wsX2_allHoles) := goodIn_app (goodIn_of _ (by decide +kernel)) ggX4_count_X2_allHoles
set_option maxRecDepth 20000 in
theorem ggX4_count_X2_weakSteps : GoodIn wsX4_count wsX2_weakSteps := goodIn_r _ [102, 103, 104, 105, 8, 106, 10, 107, 108, 109, 110, 78, 79, 80, 81, 83, 84, 85, 86, 11, 67, 19, 68, 66, 18, 20, 175, 176, 177] (by decide +kernel) (by decide +kernel)
set_option maxRecDepth 20000 in
theorem gX4_count_X2_weakSteps : GoodIn wsX4_count (wsV RX4 209 RX2 yX2_weakSteps wsX2_weakSteps) := goodIn_app (goodIn_of _ (by decide +kernel)) ggX4_count_X2_weakSteps
set_option maxRecDepth 20000 in
theorem ggX4_count_X2_firstWeakStep : GoodIn wsX4_count wsX2_firstWeakStep := goodIn_r _ [114, 103, 104, 105, 8, 106, 10, 107, 108, 109, 110, 78, 79, 80, 81, 83, 84, 85, 86, 11, 67, 19, 68, 66, 18, 20, 175, 176, 177] (by decide +kernel) (by decide +kernel)
set_option maxRecDepth 20000 in
theorem gX4_count_X2_firstWeakStep : GoodIn wsX4_count (wsV RX4 212 RX2 yX2_firstWeakStep wsX2_firstWeakStep) := goodIn_app (goodIn_of _ (by decide +kernel)) ggX4_count_X2_firstWeakStep
set_option maxRecDepth 20000 in
theorem ggX4_count_X4_noneIfMissing : GoodIn wsX4_count wsX4_noneIfMissing := goodIn_r _ [117] (by decide +kernel) (by decide +kernel)
set_option maxRecDepth 20000 in
theorem gX4_count_X4_noneIfMissing : GoodIn wsX4_count (va_wsS RX4 215 yX4_noneIfMissing wsX4_noneIfMissing) := goodIn_app (goodIn_of _ (by decide +kernel)) ggX4_count_X4_noneIfMissing
set_option maxRecDepth 20000 in
theorem ggX4_count_X4_allSounds : GoodIn wsX4_count wsX4_allSounds := goodIn_r _ [121, 1, 122, 123, 124, 8, 125, 126, 127, 128, 129, 130, 131, 132, 133, 64, 19, 65, 66, 18, 20, 134, 135, 136, 137, 82, 67, 68, 168, 169, 170, 171, 172, 173, 174, 175, 176, 177] (by decide +kernel) (by decide +kernel)
set_option maxRecDepth 20000 in
theorem gX4_count_X4_allSounds : GoodIn wsX4_count (wsV RX4 218 RX4 yX4_allSounds wsX4_allSounds) := goodIn_app (goodIn_of _ (by decide +kernel)) ggX4_count_X4_allSounds
set_option maxRecDepth 20000 in
theorem ggX4_count_X4_notesWithGap : GoodIn wsX4_count wsX4_notesWithGap := goodIn_r _ [141, 2, 87, 26, 27, 15, 28, 29, 142, 143, 144, 19, 145, 1, 146, 40, 41, 42, 43, 35, 36, 37, 38, 147, 45, 46, 47, 48, 148, 31, 32, 33, 34, 149, 131, 132, 8, 133, 64, 65, 66, 18, 20, 134, 135, 136, 137, 82, 67, 68, 168, 169, 170, 171, 172, 173, 174, 178, 179, 180, 181, 182, 183, 184, 175, 176, 177] (by decide +kernel) (by decide +kernel)
set_option maxRecDepth 20000 in
theorem gX4_count_X4_notesWithGap : GoodIn wsX4_count (wsV RX4 221 RX4 yX4_notesWithGap wsX4_notesWithGap) := goodIn_app (goodIn_of _ (by decide +kernel)) ggX4_count_X4_notesWithGap
set_option maxRecDepth 20000 in
theorem ggX4_count_X3_greatestLast : GoodIn wsX4_count wsX3_greatestLast := goodIn_r _ [153, 29, 154, 79, 80, 81, 54, 45, 46, 15, 47, 48, 35, 36, 37, 38, 178, 179, 180, 181, 182, 183, 184] (by decide +kernel) (by decide +kernel)
set_option maxRecDepth 20000 in
theorem gX4_count_X3_greatestLast : GoodIn wsX4_count (wsV RX4 113 RX3 yX3_greatestLast wsX3_greatestLast) := goodIn_app (goodIn_of _ (by decide +kernel)) ggX4_count_X3_greatestLast
set_option maxRecDepth 20000 in
theorem ggX4_count_X3_settingOf : GoodIn wsX4_count wsX3_settingOf := goodIn_r _ [16, 17, 18, 19, 20, 178, 179, 180, 181, 182, 183, 184] (by decide +kernel) (by decide +kernel)
set_option maxRecDepth 20000 in
theorem gX4_count_X3_settingOf : GoodIn wsX4_count (wsV RX4 59 RX3 yX3_settingOf wsX3_settingOf) := goodIn_app (goodIn_of _ (by decide +kernel)) ggX4_count_X3_settingOf
set_option maxRecDepth 20000 in
theorem ggX4_count_X1_length : GoodIn wsX4_count wsX1_length := goodIn_r _ [160, 161, 185, 186, 187, 188, 189, 190, 191, 192] (by decide +kernel) (by decide +kernel)
set_option maxRecDepth 20000 in
theorem gX4_count_X1_length : GoodIn wsX4_count (wsV RX4 224 RX1 yX1_length wsX1_length) := goodIn_app (goodIn_of _ (by decide +kernel)) ggX4_count_X1_length
set_option maxRecDepth 20000 in
theorem ggX4_count_X0_size : GoodIn wsX4_count wsX0_size := goodIn_r _ [166, 167, 193, 194, 195] (by decide +kernel) (by decide +kernel)
set_option maxRecDepth 20000 in
theorem gX4_count_X0_size : GoodIn wsX4_count (wsV RX4 227 RX0 yX0_size wsX0_size) := goodIn_app (goodIn_of _ (by decide +kernel)) ggX4_count_X0_size
theorem dX4_count_0 : decode cX4_count 0 = .ok (.aload_n 0, 1) := by decide +kernel
theorem dX4_count_1 : decode cX4_count 1 = .ok (.getfield 22, 3) := by decide +kernel
theorem dX4_count_4 : decode cX4_count 4 = .ok (.aload_n 0, 1) := by decide +kernel
theorem dX4_count_5 : decode cX4_count 5 = .ok (.getfield 10, 3) := by decide +kernel
theorem dX4_count_8 : decode cX4_count 8 = .ok (.invokevirtual 175, 3) := by decide +kernel
theorem dX4_count_11 : decode cX4_count 11 = .ok (.iload_n 1, 1) := by decide +kernel
theorem dX4_count_12 : decode cX4_count 12 = .ok (.tableswitch 176 0 12 #[68, 76, 84, 92, 103, 108, 113, 124, 133, 142, 151, 160, 168], 68) := by decide +kernel
theorem dX4_count_80 : decode cX4_count 80 = .ok (.aload_n 0, 1) := by decide +kernel
theorem dX4_count_81 : decode cX4_count 81 = .ok (.getfield 10, 3) := by decide +kernel
theorem dX4_count_84 : decode cX4_count 84 = .ok (.invokevirtual 78, 3) := by decide +kernel
theorem dX4_count_87 : decode cX4_count 87 = .ok (.ireturn, 1) := by decide +kernel
theorem dX4_count_88 : decode cX4_count 88 = .ok (.aload_n 0, 1) := by decide +kernel
theorem dX4_count_89 : decode cX4_count 89 = .ok (.getfield 22, 3) := by decide +kernel
theorem dX4_count_92 : decode cX4_count 92 = .ok (.invokevirtual 206, 3) := by decide +kernel
theorem dX4_count_95 : decode cX4_count 95 = .ok (.ireturn, 1) := by decide +kernel
theorem dX4_count_96 : decode cX4_count 96 = .ok (.aload_n 0, 1) := by decide +kernel
theorem dX4_count_97 : decode cX4_count 97 = .ok (.getfield 22, 3) := by decide +kernel
theorem dX4_count_100 : decode cX4_count 100 = .ok (.invokevirtual 209, 3) := by decide +kernel
theorem dX4_count_103 : decode cX4_count 103 = .ok (.ireturn, 1) := by decide +kernel
theorem dX4_count_104 : decode cX4_count 104 = .ok (.aload_n 0, 1) := by decide +kernel
theorem dX4_count_105 : decode cX4_count 105 = .ok (.getfield 22, 3) := by decide +kernel
theorem dX4_count_108 : decode cX4_count 108 = .ok (.invokevirtual 212, 3) := by decide +kernel
theorem dX4_count_111 : decode cX4_count 111 = .ok (.invokestatic 215, 3) := by decide +kernel
theorem dX4_count_114 : decode cX4_count 114 = .ok (.ireturn, 1) := by decide +kernel
theorem dX4_count_115 : decode cX4_count 115 = .ok (.aload_n 0, 1) := by decide +kernel
theorem dX4_count_116 : decode cX4_count 116 = .ok (.invokevirtual 218, 3) := by decide +kernel
theorem dX4_count_119 : decode cX4_count 119 = .ok (.ireturn, 1) := by decide +kernel
theorem dX4_count_120 : decode cX4_count 120 = .ok (.aload_n 0, 1) := by decide +kernel
theorem dX4_count_121 : decode cX4_count 121 = .ok (.invokevirtual 221, 3) := by decide +kernel
theorem dX4_count_124 : decode cX4_count 124 = .ok (.ireturn, 1) := by decide +kernel
theorem dX4_count_125 : decode cX4_count 125 = .ok (.aload_n 0, 1) := by decide +kernel
theorem dX4_count_126 : decode cX4_count 126 = .ok (.getfield 10, 3) := by decide +kernel
theorem dX4_count_129 : decode cX4_count 129 = .ok (.invokevirtual 113, 3) := by decide +kernel
theorem dX4_count_132 : decode cX4_count 132 = .ok (.invokestatic 215, 3) := by decide +kernel
theorem dX4_count_135 : decode cX4_count 135 = .ok (.ireturn, 1) := by decide +kernel
theorem dX4_count_136 : decode cX4_count 136 = .ok (.aload_n 0, 1) := by decide +kernel
theorem dX4_count_137 : decode cX4_count 137 = .ok (.getfield 10, 3) := by decide +kernel
theorem dX4_count_140 : decode cX4_count 140 = .ok (.iconst 0, 1) := by decide +kernel
theorem dX4_count_141 : decode cX4_count 141 = .ok (.invokevirtual 59, 3) := by decide +kernel
theorem dX4_count_144 : decode cX4_count 144 = .ok (.ireturn, 1) := by decide +kernel
theorem dX4_count_145 : decode cX4_count 145 = .ok (.aload_n 0, 1) := by decide +kernel
theorem dX4_count_146 : decode cX4_count 146 = .ok (.getfield 10, 3) := by decide +kernel
theorem dX4_count_149 : decode cX4_count 149 = .ok (.iconst 1, 1) := by decide +kernel
theorem dX4_count_150 : decode cX4_count 150 = .ok (.invokevirtual 59, 3) := by decide +kernel
theorem dX4_count_153 : decode cX4_count 153 = .ok (.ireturn, 1) := by decide +kernel
theorem dX4_count_154 : decode cX4_count 154 = .ok (.aload_n 0, 1) := by decide +kernel
theorem dX4_count_155 : decode cX4_count 155 = .ok (.getfield 10, 3) := by decide +kernel
theorem dX4_count_158 : decode cX4_count 158 = .ok (.iconst 2, 1) := by decide +kernel
theorem dX4_count_159 : decode cX4_count 159 = .ok (.invokevirtual 59, 3) := by decide +kernel
theorem dX4_count_162 : decode cX4_count 162 = .ok (.ireturn, 1) := by decide +kernel
theorem dX4_count_163 : decode cX4_count 163 = .ok (.aload_n 0, 1) := by decide +kernel
theorem dX4_count_164 : decode cX4_count 164 = .ok (.getfield 10, 3) := by decide +kernel
theorem dX4_count_167 : decode cX4_count 167 = .ok (.iconst 3, 1) := by decide +kernel
theorem dX4_count_168 : decode cX4_count 168 = .ok (.invokevirtual 59, 3) := by decide +kernel
theorem dX4_count_171 : decode cX4_count 171 = .ok (.ireturn, 1) := by decide +kernel
theorem dX4_count_172 : decode cX4_count 172 = .ok (.aload_n 0, 1) := by decide +kernel
theorem dX4_count_173 : decode cX4_count 173 = .ok (.getfield 29, 3) := by decide +kernel
theorem dX4_count_176 : decode cX4_count 176 = .ok (.invokevirtual 224, 3) := by decide +kernel
theorem dX4_count_179 : decode cX4_count 179 = .ok (.ireturn, 1) := by decide +kernel
theorem dX4_count_180 : decode cX4_count 180 = .ok (.aload_n 0, 1) := by decide +kernel
theorem dX4_count_181 : decode cX4_count 181 = .ok (.getfield 36, 3) := by decide +kernel
theorem dX4_count_184 : decode cX4_count 184 = .ok (.invokevirtual 227, 3) := by decide +kernel
theorem dX4_count_187 : decode cX4_count 187 = .ok (.ireturn, 1) := by decide +kernel
theorem dX4_count_188 : decode cX4_count 188 = .ok (.bipush (-2), 2) := by decide +kernel
theorem dX4_count_190 : decode cX4_count 190 = .ok (.ireturn, 1) := by decide +kernel
set_option maxRecDepth 20000 in
theorem ggX4_bestShift_X3_has : GoodIn wsX4_bestShift wsX3_has := goodIn_r _ [8, 9, 122, 123, 124, 125, 126, 127, 128] (by decide +kernel) (by decide +kernel)
set_option maxRecDepth 20000 in
theorem gX4_bestShift_X3_has : GoodIn wsX4_bestShift (wsV RX4 89 RX3 yX3_has wsX3_has) := goodIn_app (goodIn_of _ (by decide +kernel)) ggX4_bestShift_X3_has
set_option maxRecDepth 20000 in
theorem ggX4_bestShift_X4_isIn : GoodIn wsX4_bestShift wsX4_isIn := goodIn_r _ [13] (by decide +kernel) (by decide +kernel)
set_option maxRecDepth 20000 in
theorem gX4_bestShift_X4_isIn : GoodIn wsX4_bestShift (va_wsS RX4 48 yX4_isIn wsX4_isIn) := goodIn_app (goodIn_of _ (by decide +kernel)) ggX4_bestShift_X4_isIn
set_option maxRecDepth 20000 in
theorem ggX4_bestShift_X3_become : GoodIn wsX4_bestShift wsX3_become := goodIn_r _ [17, 9, 18, 19, 20, 21, 22, 23, 24, 25, 7, 26, 27, 28, 29, 30, 31, 122, 123, 124, 125, 126, 127, 128] (by decide +kernel) (by decide +kernel)
set_option maxRecDepth 20000 in
theorem gX4_bestShift_X3_become : GoodIn wsX4_bestShift (wsV RX4 127 RX3 yX3_become wsX3_become) := goodIn_app (goodIn_of _ (by decide +kernel)) ggX4_bestShift_X3_become
set_option maxRecDepth 20000 in
theorem ggX4_bestShift_X3_giveShift : GoodIn wsX4_bestShift wsX3_giveShift := goodIn_r _ [35, 21, 36, 5, 6, 7, 8, 9, 122, 123, 124, 125, 126, 127, 128] (by decide +kernel) (by decide +kernel)
set_option maxRecDepth 20000 in
theorem gX4_bestShift_X3_giveShift : GoodIn wsX4_bestShift (wsV RX4 99 RX3 yX3_giveShift wsX3_giveShift) := goodIn_app (goodIn_of _ (by decide +kernel)) ggX4_bestShift_X3_giveShift
set_option maxRecDepth 20000 in
theorem ggX4_bestShift_X2_perforate : GoodIn wsX4_bestShift wsX2_perforate := goodIn_r _ [41, 42, 43, 44, 45, 46, 7, 47, 27, 11, 12, 13, 48, 49, 50, 51, 52, 53, 54, 55, 9, 56, 57, 58, 59, 18, 36, 5, 6, 8, 60, 61, 62, 63, 19, 64, 65, 66, 67, 20, 68, 69, 70, 71, 72, 73, 74, 75, 76, 77, 21, 78, 79, 80, 40, 81, 82, 83, 10, 84, 85, 86, 87, 88, 89, 22, 90, 91, 92, 93, 94, 95, 96, 97, 98, 99, 100, 101, 102, 129, 130, 131, 122, 123, 124, 125, 126, 127, 128] (by decide +kernel) (by decide +kernel)
set_option maxRecDepth 20000 in
theorem gX4_bestShift_X2_perforate : GoodIn wsX4_bestShift (wsV RX4 175 RX2 yX2_perforate wsX2_perforate) := goodIn_app (goodIn_of _ (by decide +kernel)) ggX4_bestShift_X2_perforate
set_option maxRecDepth 20000 in
theorem ggX4_bestShift_X2_weakSteps : GoodIn wsX4_bestShift wsX2_weakSteps := goodIn_r _ [106, 107, 108, 109, 40, 110, 42, 111, 112, 113, 114, 94, 95, 96, 97, 99, 100, 101, 102, 43, 84, 12, 85, 10, 11, 13, 129, 130, 131] (by decide +kernel) (by decide +kernel)
set_option maxRecDepth 20000 in
theorem gX4_bestShift_X2_weakSteps : GoodIn wsX4_bestShift (wsV RX4 209 RX2 yX2_weakSteps wsX2_weakSteps) := goodIn_app (goodIn_of _ (by decide +kernel)) ggX4_bestShift_X2_weakSteps
theorem dX4_bestShift_0 : decode cX4_bestShift 0 = .ok (.aload_n 0, 1) := by decide +kernel
theorem dX4_bestShift_1 : decode cX4_bestShift 1 = .ok (.getfield 10, 3) := by decide +kernel
theorem dX4_bestShift_4 : decode cX4_bestShift 4 = .ok (.iload_n 1, 1) := by decide +kernel
theorem dX4_bestShift_5 : decode cX4_bestShift 5 = .ok (.invokevirtual 89, 3) := by decide +kernel
theorem dX4_bestShift_8 : decode cX4_bestShift 8 = .ok (.ifCond .ne 5, 3) := by decide +kernel
theorem dX4_bestShift_11 : decode cX4_bestShift 11 = .ok (.iconst (-1), 1) := by decide +kernel
theorem dX4_bestShift_12 : decode cX4_bestShift 12 = .ok (.ireturn, 1) := by decide +kernel
theorem dX4_bestShift_13 : decode cX4_bestShift 13 = .ok (.iload_n 2, 1) := by decide +kernel
theorem dX4_bestShift_14 : decode cX4_bestShift 14 = .ok (.iconst 0, 1) := by decide +kernel
theorem dX4_bestShift_15 : decode cX4_bestShift 15 = .ok (.iconst 1, 1) := by decide +kernel
theorem dX4_bestShift_16 : decode cX4_bestShift 16 = .ok (.invokestatic 48, 3) := by decide +kernel
theorem dX4_bestShift_19 : decode cX4_bestShift 19 = .ok (.ifCond .ne 6, 3) := by decide +kernel
theorem dX4_bestShift_22 : decode cX4_bestShift 22 = .ok (.bipush (-2), 2) := by decide +kernel
theorem dX4_bestShift_24 : decode cX4_bestShift 24 = .ok (.ireturn, 1) := by decide +kernel
theorem dX4_bestShift_25 : decode cX4_bestShift 25 = .ok (.aload_n 0, 1) := by decide +kernel
theorem dX4_bestShift_26 : decode cX4_bestShift 26 = .ok (.getfield 16, 3) := by decide +kernel
theorem dX4_bestShift_29 : decode cX4_bestShift 29 = .ok (.aload_n 0, 1) := by decide +kernel
theorem dX4_bestShift_30 : decode cX4_bestShift 30 = .ok (.getfield 10, 3) := by decide +kernel
theorem dX4_bestShift_33 : decode cX4_bestShift 33 = .ok (.invokevirtual 127, 3) := by decide +kernel
theorem dX4_bestShift_36 : decode cX4_bestShift 36 = .ok (.iconst 0, 1) := by decide +kernel
theorem dX4_bestShift_37 : decode cX4_bestShift 37 = .ok (.istore_n 3, 1) := by decide +kernel
theorem dX4_bestShift_38 : decode cX4_bestShift 38 = .ok (.bipush 101, 2) := by decide +kernel
theorem dX4_bestShift_40 : decode cX4_bestShift 40 = .ok (.istore 4, 2) := by decide +kernel
theorem dX4_bestShift_42 : decode cX4_bestShift 42 = .ok (.iconst 0, 1) := by decide +kernel
theorem dX4_bestShift_43 : decode cX4_bestShift 43 = .ok (.istore 5, 2) := by decide +kernel
theorem dX4_bestShift_45 : decode cX4_bestShift 45 = .ok (.iload 5, 2) := by decide +kernel
theorem dX4_bestShift_47 : decode cX4_bestShift 47 = .ok (.bipush 12, 2) := by decide +kernel
theorem dX4_bestShift_49 : decode cX4_bestShift 49 = .ok (.if_icmp .gt 53, 3) := by decide +kernel
theorem dX4_bestShift_52 : decode cX4_bestShift 52 = .ok (.aload_n 0, 1) := by decide +kernel
theorem dX4_bestShift_53 : decode cX4_bestShift 53 = .ok (.getfield 16, 3) := by decide +kernel
theorem dX4_bestShift_56 : decode cX4_bestShift 56 = .ok (.iload_n 1, 1) := by decide +kernel
theorem dX4_bestShift_57 : decode cX4_bestShift 57 = .ok (.iload 5, 2) := by decide +kernel
theorem dX4_bestShift_59 : decode cX4_bestShift 59 = .ok (.invokevirtual 99, 3) := by decide +kernel
theorem dX4_bestShift_62 : decode cX4_bestShift 62 = .ok (.aload_n 0, 1) := by decide +kernel
theorem dX4_bestShift_63 : decode cX4_bestShift 63 = .ok (.getfield 22, 3) := by decide +kernel
theorem dX4_bestShift_66 : decode cX4_bestShift 66 = .ok (.aload_n 0, 1) := by decide +kernel
theorem dX4_bestShift_67 : decode cX4_bestShift 67 = .ok (.getfield 16, 3) := by decide +kernel
theorem dX4_bestShift_70 : decode cX4_bestShift 70 = .ok (.invokevirtual 175, 3) := by decide +kernel
theorem dX4_bestShift_73 : decode cX4_bestShift 73 = .ok (.aload_n 0, 1) := by decide +kernel
theorem dX4_bestShift_74 : decode cX4_bestShift 74 = .ok (.getfield 22, 3) := by decide +kernel
theorem dX4_bestShift_77 : decode cX4_bestShift 77 = .ok (.invokevirtual 209, 3) := by decide +kernel
theorem dX4_bestShift_80 : decode cX4_bestShift 80 = .ok (.istore 6, 2) := by decide +kernel
theorem dX4_bestShift_82 : decode cX4_bestShift 82 = .ok (.iload 6, 2) := by decide +kernel
theorem dX4_bestShift_84 : decode cX4_bestShift 84 = .ok (.iload 4, 2) := by decide +kernel
theorem dX4_bestShift_86 : decode cX4_bestShift 86 = .ok (.if_icmp .ge 10, 3) := by decide +kernel
theorem dX4_bestShift_89 : decode cX4_bestShift 89 = .ok (.iload 6, 2) := by decide +kernel
theorem dX4_bestShift_91 : decode cX4_bestShift 91 = .ok (.istore 4, 2) := by decide +kernel
theorem dX4_bestShift_93 : decode cX4_bestShift 93 = .ok (.iload 5, 2) := by decide +kernel
theorem dX4_bestShift_95 : decode cX4_bestShift 95 = .ok (.istore_n 3, 1) := by decide +kernel
theorem dX4_bestShift_96 : decode cX4_bestShift 96 = .ok (.iinc 5 1, 3) := by decide +kernel
theorem dX4_bestShift_99 : decode cX4_bestShift 99 = .ok (.goto (-54), 3) := by decide +kernel
theorem dX4_bestShift_102 : decode cX4_bestShift 102 = .ok (.iload_n 2, 1) := by decide +kernel
theorem dX4_bestShift_103 : decode cX4_bestShift 103 = .ok (.ifCond .ne 7, 3) := by decide +kernel
theorem dX4_bestShift_106 : decode cX4_bestShift 106 = .ok (.iload_n 3, 1) := by decide +kernel
theorem dX4_bestShift_107 : decode cX4_bestShift 107 = .ok (.goto 5, 3) := by decide +kernel
theorem dX4_bestShift_110 : decode cX4_bestShift 110 = .ok (.iload 4, 2) := by decide +kernel
theorem dX4_bestShift_112 : decode cX4_bestShift 112 = .ok (.ireturn, 1) := by decide +kernel
set_option maxRecDepth 20000 in
theorem ggX4_greatestRun_X3_become : GoodIn wsX4_greatestRun wsX3_become := goodIn_r _ [10, 11, 12, 13, 14, 15, 16, 17, 18, 19, 9, 20, 21, 22, 23, 24, 25, 123, 124, 125, 126, 127, 128, 129] (by decide +kernel) (by decide +kernel)
set_option maxRecDepth 20000 in
theorem gX4_greatestRun_X3_become : GoodIn wsX4_greatestRun (wsV RX4 127 RX3 yX3_become wsX3_become) := goodIn_app (goodIn_of _ (by decide +kernel)) ggX4_greatestRun_X3_become
set_option maxRecDepth 20000 in
theorem ggX4_greatestRun_X3_giveSetting : GoodIn wsX4_greatestRun wsX3_giveSetting := goodIn_r _ [29, 21, 30, 31, 32, 123, 124, 125, 126, 127, 128, 129] (by decide +kernel) (by decide +kernel)
set_option maxRecDepth 20000 in
theorem gX4_greatestRun_X3_giveSetting : GoodIn wsX4_greatestRun (wsV RX4 67 RX3 yX3_giveSetting wsX3_giveSetting) := goodIn_app (goodIn_of _ (by decide +kernel)) ggX4_greatestRun_X3_giveSetting
set_option maxRecDepth 20000 in
theorem ggX4_greatestRun_X2_perforate : GoodIn wsX4_greatestRun wsX2_perforate := goodIn_r _ [37, 38, 39, 40, 41, 42, 9, 43, 21, 30, 31, 32, 44, 45, 46, 47, 48, 49, 50, 51, 11, 52, 53, 54, 55, 12, 56, 57, 58, 59, 60, 61, 62, 63, 13, 64, 65, 66, 67, 14, 68, 69, 70, 71, 72, 73, 74, 75, 76, 77, 15, 78, 79, 80, 36, 81, 82, 83, 84, 85, 86, 87, 88, 89, 90, 16, 91, 92, 93, 94, 95, 96, 97, 98, 99, 100, 101, 102, 103, 130, 131, 132, 123, 124, 125, 126, 127, 128, 129] (by decide +kernel) (by decide +kernel)
set_option maxRecDepth 20000 in
theorem gX4_greatestRun_X2_perforate : GoodIn wsX4_greatestRun (wsV RX4 175 RX2 yX2_perforate wsX2_perforate) := goodIn_app (goodIn_of _ (by decide +kernel)) ggX4_greatestRun_X2_perforate
set_option maxRecDepth 20000 in
theorem ggX4_greatestRun_X2_weakSteps : GoodIn wsX4_greatestRun wsX2_weakSteps := goodIn_r _ [107, 108, 109, 110, 36, 111, 38, 112, 113, 114, 115, 95, 96, 97, 98, 100, 101, 102, 103, 39, 85, 31, 86, 84, 30, 32, 130, 131, 132] (by decide +kernel) (by decide +kernel)
set_option maxRecDepth 20000 in
theorem gX4_greatestRun_X2_weakSteps : GoodIn wsX4_greatestRun (wsV RX4 209 RX2 yX2_weakSteps wsX2_weakSteps) := goodIn_app (goodIn_of _ (by decide +kernel)) ggX4_greatestRun_X2_weakSteps
theorem dX4_greatestRun_0 : decode cX4_greatestRun 0 = .ok (.aload_n 0, 1) := by decide +kernel
theorem dX4_greatestRun_1 : decode cX4_greatestRun 1 = .ok (.getfield 16, 3) := by decide +kernel
theorem dX4_greatestRun_4 : decode cX4_greatestRun 4 = .ok (.aload_n 0, 1) := by decide +kernel
theorem dX4_greatestRun_5 : decode cX4_greatestRun 5 = .ok (.getfield 10, 3) := by decide +kernel
theorem dX4_greatestRun_8 : decode cX4_greatestRun 8 = .ok (.invokevirtual 127, 3) := by decide +kernel
theorem dX4_greatestRun_11 : decode cX4_greatestRun 11 = .ok (.getstatic 56, 3) := by decide +kernel
theorem dX4_greatestRun_14 : decode cX4_greatestRun 14 = .ok (.iconst 0, 1) := by decide +kernel
theorem dX4_greatestRun_15 : decode cX4_greatestRun 15 = .ok (.iaload, 1) := by decide +kernel
theorem dX4_greatestRun_16 : decode cX4_greatestRun 16 = .ok (.istore_n 1, 1) := by decide +kernel
theorem dX4_greatestRun_17 : decode cX4_greatestRun 17 = .ok (.iload_n 1, 1) := by decide +kernel
theorem dX4_greatestRun_18 : decode cX4_greatestRun 18 = .ok (.getstatic 52, 3) := by decide +kernel
theorem dX4_greatestRun_21 : decode cX4_greatestRun 21 = .ok (.iconst 0, 1) := by decide +kernel
theorem dX4_greatestRun_22 : decode cX4_greatestRun 22 = .ok (.iaload, 1) := by decide +kernel
theorem dX4_greatestRun_23 : decode cX4_greatestRun 23 = .ok (.if_icmp .lt 41, 3) := by decide +kernel
theorem dX4_greatestRun_26 : decode cX4_greatestRun 26 = .ok (.aload_n 0, 1) := by decide +kernel
theorem dX4_greatestRun_27 : decode cX4_greatestRun 27 = .ok (.getfield 16, 3) := by decide +kernel
theorem dX4_greatestRun_30 : decode cX4_greatestRun 30 = .ok (.iconst 0, 1) := by decide +kernel
theorem dX4_greatestRun_31 : decode cX4_greatestRun 31 = .ok (.iload_n 1, 1) := by decide +kernel
theorem dX4_greatestRun_32 : decode cX4_greatestRun 32 = .ok (.invokevirtual 67, 3) := by decide +kernel
theorem dX4_greatestRun_35 : decode cX4_greatestRun 35 = .ok (.aload_n 0, 1) := by decide +kernel
theorem dX4_greatestRun_36 : decode cX4_greatestRun 36 = .ok (.getfield 22, 3) := by decide +kernel
theorem dX4_greatestRun_39 : decode cX4_greatestRun 39 = .ok (.aload_n 0, 1) := by decide +kernel
theorem dX4_greatestRun_40 : decode cX4_greatestRun 40 = .ok (.getfield 16, 3) := by decide +kernel
theorem dX4_greatestRun_43 : decode cX4_greatestRun 43 = .ok (.invokevirtual 175, 3) := by decide +kernel
theorem dX4_greatestRun_46 : decode cX4_greatestRun 46 = .ok (.aload_n 0, 1) := by decide +kernel
theorem dX4_greatestRun_47 : decode cX4_greatestRun 47 = .ok (.getfield 22, 3) := by decide +kernel
theorem dX4_greatestRun_50 : decode cX4_greatestRun 50 = .ok (.invokevirtual 209, 3) := by decide +kernel
theorem dX4_greatestRun_53 : decode cX4_greatestRun 53 = .ok (.ifCond .ne 5, 3) := by decide +kernel
theorem dX4_greatestRun_56 : decode cX4_greatestRun 56 = .ok (.iload_n 1, 1) := by decide +kernel
theorem dX4_greatestRun_57 : decode cX4_greatestRun 57 = .ok (.ireturn, 1) := by decide +kernel
theorem dX4_greatestRun_58 : decode cX4_greatestRun 58 = .ok (.iinc 1 (-1), 3) := by decide +kernel
theorem dX4_greatestRun_61 : decode cX4_greatestRun 61 = .ok (.goto (-44), 3) := by decide +kernel
theorem dX4_greatestRun_64 : decode cX4_greatestRun 64 = .ok (.bipush (-6), 2) := by decide +kernel
theorem dX4_greatestRun_66 : decode cX4_greatestRun 66 = .ok (.ireturn, 1) := by decide +kernel
set_option maxRecDepth 20000 in
theorem ggX4_swallowed_X4_isTrack : GoodIn wsX4_swallowed wsX4_isTrack := goodIn_r _ [6, 7, 8, 5, 9] (by decide +kernel) (by decide +kernel)
set_option maxRecDepth 20000 in
theorem gX4_swallowed_X4_isTrack : GoodIn wsX4_swallowed (va_wsS RX4 71 yX4_isTrack wsX4_isTrack) := goodIn_app (goodIn_of _ (by decide +kernel)) ggX4_swallowed_X4_isTrack
set_option maxRecDepth 20000 in
theorem ggX4_swallowed_X2_perforate : GoodIn wsX4_swallowed wsX2_perforate := goodIn_r _ [14, 15, 16, 17, 18, 19, 20, 21, 22, 8, 5, 9, 23, 24, 25, 26, 27, 28, 29, 30, 31, 32, 33, 34, 35, 36, 37, 38, 39, 40, 41, 42, 43, 44, 45, 46, 47, 48, 49, 50, 51, 52, 53, 54, 55, 56, 57, 58, 59, 60, 61, 62, 63, 64, 13, 65, 4, 6, 7, 66, 67, 68, 69, 70, 71, 72, 73, 74, 75, 76, 77, 78, 79, 80, 81, 82, 83, 84, 85, 104, 105, 106, 107, 108, 109, 110, 111, 112, 113] (by decide +kernel) (by decide +kernel)
set_option maxRecDepth 20000 in
theorem gX4_swallowed_X2_perforate : GoodIn wsX4_swallowed (wsV RX4 175 RX2 yX2_perforate wsX2_perforate) := goodIn_app (goodIn_of _ (by decide +kernel)) ggX4_swallowed_X2_perforate
set_option maxRecDepth 20000 in
theorem ggX4_swallowed_X3_size : GoodIn wsX4_swallowed wsX3_size := goodIn_r _ [30, 31, 107, 108, 109, 110, 111, 112, 113] (by decide +kernel) (by decide +kernel)
set_option maxRecDepth 20000 in
theorem gX4_swallowed_X3_size : GoodIn wsX4_swallowed (wsV RX4 78 RX3 yX3_size wsX3_size) := goodIn_app (goodIn_of _ (by decide +kernel)) ggX4_swallowed_X3_size
set_option maxRecDepth 20000 in
theorem ggX4_swallowed_X3_trackOf : GoodIn wsX4_swallowed wsX3_trackOf := goodIn_r _ [35, 36, 37, 38, 39, 20, 40, 31, 107, 108, 109, 110, 111, 112, 113] (by decide +kernel) (by decide +kernel)
set_option maxRecDepth 20000 in
theorem gX4_swallowed_X3_trackOf : GoodIn wsX4_swallowed (wsV RX4 160 RX3 yX3_trackOf wsX3_trackOf) := goodIn_app (goodIn_of _ (by decide +kernel)) ggX4_swallowed_X3_trackOf
set_option maxRecDepth 20000 in
theorem ggX4_swallowed_X3_firstOf : GoodIn wsX4_swallowed wsX3_firstOf := goodIn_r _ [44, 45, 37, 38, 39, 20, 40, 31, 107, 108, 109, 110, 111, 112, 113] (by decide +kernel) (by decide +kernel)
set_option maxRecDepth 20000 in
theorem gX4_swallowed_X3_firstOf : GoodIn wsX4_swallowed (wsV RX4 163 RX3 yX3_firstOf wsX3_firstOf) := goodIn_app (goodIn_of _ (by decide +kernel)) ggX4_swallowed_X3_firstOf
set_option maxRecDepth 20000 in
theorem ggX4_swallowed_X2_isHeard : GoodIn wsX4_swallowed wsX2_isHeard := goodIn_r _ [92, 4, 5, 6, 7, 8, 9, 93, 94, 95, 13, 96, 81, 66, 67, 104, 105, 106] (by decide +kernel) (by decide +kernel)
set_option maxRecDepth 20000 in
theorem gX4_swallowed_X2_isHeard : GoodIn wsX4_swallowed (wsV RX4 228 RX2 yX2_isHeard wsX2_isHeard) := goodIn_app (goodIn_of _ (by decide +kernel)) ggX4_swallowed_X2_isHeard
theorem dX4_swallowed_0 : decode cX4_swallowed 0 = .ok (.iload_n 1, 1) := by decide +kernel
theorem dX4_swallowed_1 : decode cX4_swallowed 1 = .ok (.invokestatic 71, 3) := by decide +kernel
theorem dX4_swallowed_4 : decode cX4_swallowed 4 = .ok (.ifCond .ne 5, 3) := by decide +kernel
theorem dX4_swallowed_7 : decode cX4_swallowed 7 = .ok (.iconst (-1), 1) := by decide +kernel
theorem dX4_swallowed_8 : decode cX4_swallowed 8 = .ok (.ireturn, 1) := by decide +kernel
theorem dX4_swallowed_9 : decode cX4_swallowed 9 = .ok (.aload_n 0, 1) := by decide +kernel
theorem dX4_swallowed_10 : decode cX4_swallowed 10 = .ok (.getfield 22, 3) := by decide +kernel
theorem dX4_swallowed_13 : decode cX4_swallowed 13 = .ok (.aload_n 0, 1) := by decide +kernel
theorem dX4_swallowed_14 : decode cX4_swallowed 14 = .ok (.getfield 10, 3) := by decide +kernel
theorem dX4_swallowed_17 : decode cX4_swallowed 17 = .ok (.invokevirtual 175, 3) := by decide +kernel
theorem dX4_swallowed_20 : decode cX4_swallowed 20 = .ok (.iconst 0, 1) := by decide +kernel
theorem dX4_swallowed_21 : decode cX4_swallowed 21 = .ok (.istore_n 2, 1) := by decide +kernel
theorem dX4_swallowed_22 : decode cX4_swallowed 22 = .ok (.iconst 0, 1) := by decide +kernel
theorem dX4_swallowed_23 : decode cX4_swallowed 23 = .ok (.istore_n 3, 1) := by decide +kernel
theorem dX4_swallowed_24 : decode cX4_swallowed 24 = .ok (.iload_n 3, 1) := by decide +kernel
theorem dX4_swallowed_25 : decode cX4_swallowed 25 = .ok (.aload_n 0, 1) := by decide +kernel
theorem dX4_swallowed_26 : decode cX4_swallowed 26 = .ok (.getfield 10, 3) := by decide +kernel
theorem dX4_swallowed_29 : decode cX4_swallowed 29 = .ok (.invokevirtual 78, 3) := by decide +kernel
theorem dX4_swallowed_32 : decode cX4_swallowed 32 = .ok (.if_icmp .ge 45, 3) := by decide +kernel
theorem dX4_swallowed_35 : decode cX4_swallowed 35 = .ok (.aload_n 0, 1) := by decide +kernel
theorem dX4_swallowed_36 : decode cX4_swallowed 36 = .ok (.getfield 10, 3) := by decide +kernel
theorem dX4_swallowed_39 : decode cX4_swallowed 39 = .ok (.iload_n 3, 1) := by decide +kernel
theorem dX4_swallowed_40 : decode cX4_swallowed 40 = .ok (.invokevirtual 160, 3) := by decide +kernel
theorem dX4_swallowed_43 : decode cX4_swallowed 43 = .ok (.iload_n 1, 1) := by decide +kernel
theorem dX4_swallowed_44 : decode cX4_swallowed 44 = .ok (.if_icmp .ne 27, 3) := by decide +kernel
theorem dX4_swallowed_47 : decode cX4_swallowed 47 = .ok (.aload_n 0, 1) := by decide +kernel
theorem dX4_swallowed_48 : decode cX4_swallowed 48 = .ok (.getfield 22, 3) := by decide +kernel
theorem dX4_swallowed_51 : decode cX4_swallowed 51 = .ok (.iload_n 1, 1) := by decide +kernel
theorem dX4_swallowed_52 : decode cX4_swallowed 52 = .ok (.aload_n 0, 1) := by decide +kernel
theorem dX4_swallowed_53 : decode cX4_swallowed 53 = .ok (.getfield 10, 3) := by decide +kernel
theorem dX4_swallowed_56 : decode cX4_swallowed 56 = .ok (.iload_n 3, 1) := by decide +kernel
theorem dX4_swallowed_57 : decode cX4_swallowed 57 = .ok (.invokevirtual 163, 3) := by decide +kernel
theorem dX4_swallowed_60 : decode cX4_swallowed 60 = .ok (.iconst 1, 1) := by decide +kernel
theorem dX4_swallowed_61 : decode cX4_swallowed 61 = .ok (.isub, 1) := by decide +kernel
theorem dX4_swallowed_62 : decode cX4_swallowed 62 = .ok (.invokevirtual 228, 3) := by decide +kernel
theorem dX4_swallowed_65 : decode cX4_swallowed 65 = .ok (.ifCond .eq 6, 3) := by decide +kernel
theorem dX4_swallowed_68 : decode cX4_swallowed 68 = .ok (.iinc 2 1, 3) := by decide +kernel
theorem dX4_swallowed_71 : decode cX4_swallowed 71 = .ok (.iinc 3 1, 3) := by decide +kernel
theorem dX4_swallowed_74 : decode cX4_swallowed 74 = .ok (.goto (-50), 3) := by decide +kernel
theorem dX4_swallowed_77 : decode cX4_swallowed 77 = .ok (.iload_n 2, 1) := by decide +kernel
theorem dX4_swallowed_78 : decode cX4_swallowed 78 = .ok (.ireturn, 1) := by decide +kernel
theorem dX4_isIn_0 : decode cX4_isIn 0 = .ok (.iload_n 0, 1) := by decide +kernel
theorem dX4_isIn_1 : decode cX4_isIn 1 = .ok (.iload_n 1, 1) := by decide +kernel
theorem dX4_isIn_2 : decode cX4_isIn 2 = .ok (.if_icmp .lt 12, 3) := by decide +kernel
theorem dX4_isIn_5 : decode cX4_isIn 5 = .ok (.iload_n 0, 1) := by decide +kernel
theorem dX4_isIn_6 : decode cX4_isIn 6 = .ok (.iload_n 2, 1) := by decide +kernel
theorem dX4_isIn_7 : decode cX4_isIn 7 = .ok (.if_icmp .gt 7, 3) := by decide +kernel
theorem dX4_isIn_10 : decode cX4_isIn 10 = .ok (.iconst 1, 1) := by decide +kernel
theorem dX4_isIn_11 : decode cX4_isIn 11 = .ok (.goto 4, 3) := by decide +kernel
theorem dX4_isIn_14 : decode cX4_isIn 14 = .ok (.iconst 0, 1) := by decide +kernel
theorem dX4_isIn_15 : decode cX4_isIn 15 = .ok (.ireturn, 1) := by decide +kernel
set_option maxRecDepth 20000 in
theorem ggX4_isTrack_X4_isIn : GoodIn wsX4_isTrack wsX4_isIn := goodIn_r _ [4] (by decide +kernel) (by decide +kernel)
set_option maxRecDepth 20000 in
theorem gX4_isTrack_X4_isIn : GoodIn wsX4_isTrack (va_wsS RX4 48 yX4_isIn wsX4_isIn) := goodIn_app (goodIn_of _ (by decide +kernel)) ggX4_isTrack_X4_isIn
theorem dX4_isTrack_0 : decode cX4_isTrack 0 = .ok (.iload_n 0, 1) := by decide +kernel
theorem dX4_isTrack_1 : decode cX4_isTrack 1 = .ok (.iconst 0, 1) := by decide +kernel
theorem dX4_isTrack_2 : decode cX4_isTrack 2 = .ok (.bipush 11, 2) := by decide +kernel
theorem dX4_isTrack_4 : decode cX4_isTrack 4 = .ok (.invokestatic 48, 3) := by decide +kernel
theorem dX4_isTrack_7 : decode cX4_isTrack 7 = .ok (.ireturn, 1) := by decide +kernel
set_option maxRecDepth 20000 in
theorem ggX4_isStep_X4_isIn : GoodIn wsX4_isStep wsX4_isIn := goodIn_r _ [4] (by decide +kernel) (by decide +kernel)
set_option maxRecDepth 20000 in
theorem gX4_isStep_X4_isIn : GoodIn wsX4_isStep (va_wsS RX4 48 yX4_isIn wsX4_isIn) := goodIn_app (goodIn_of _ (by decide +kernel)) ggX4_isStep_X4_isIn
theorem dX4_isStep_0 : decode cX4_isStep 0 = .ok (.iload_n 0, 1) := by decide +kernel
theorem dX4_isStep_1 : decode cX4_isStep 1 = .ok (.iconst 0, 1) := by decide +kernel
theorem dX4_isStep_2 : decode cX4_isStep 2 = .ok (.bipush 99, 2) := by decide +kernel
theorem dX4_isStep_4 : decode cX4_isStep 4 = .ok (.invokestatic 48, 3) := by decide +kernel
theorem dX4_isStep_7 : decode cX4_isStep 7 = .ok (.ireturn, 1) := by decide +kernel
set_option maxRecDepth 20000 in
theorem ggX4_isPassage_X4_isStep : GoodIn wsX4_isPassage wsX4_isStep := goodIn_r _ [4, 5, 6, 3, 7] (by decide +kernel) (by decide +kernel)
set_option maxRecDepth 20000 in
theorem gX4_isPassage_X4_isStep : GoodIn wsX4_isPassage (va_wsS RX4 75 yX4_isStep wsX4_isStep) := goodIn_app (goodIn_of _ (by decide +kernel)) ggX4_isPassage_X4_isStep
theorem dX4_isPassage_0 : decode cX4_isPassage 0 = .ok (.iload_n 0, 1) := by decide +kernel
theorem dX4_isPassage_1 : decode cX4_isPassage 1 = .ok (.invokestatic 75, 3) := by decide +kernel
theorem dX4_isPassage_4 : decode cX4_isPassage 4 = .ok (.ifCond .eq 19, 3) := by decide +kernel
theorem dX4_isPassage_7 : decode cX4_isPassage 7 = .ok (.iload_n 1, 1) := by decide +kernel
theorem dX4_isPassage_8 : decode cX4_isPassage 8 = .ok (.invokestatic 75, 3) := by decide +kernel
theorem dX4_isPassage_11 : decode cX4_isPassage 11 = .ok (.ifCond .eq 12, 3) := by decide +kernel
theorem dX4_isPassage_14 : decode cX4_isPassage 14 = .ok (.iload_n 0, 1) := by decide +kernel
theorem dX4_isPassage_15 : decode cX4_isPassage 15 = .ok (.iload_n 1, 1) := by decide +kernel
theorem dX4_isPassage_16 : decode cX4_isPassage 16 = .ok (.if_icmp .gt 7, 3) := by decide +kernel
theorem dX4_isPassage_19 : decode cX4_isPassage 19 = .ok (.iconst 1, 1) := by decide +kernel
theorem dX4_isPassage_20 : decode cX4_isPassage 20 = .ok (.goto 4, 3) := by decide +kernel
theorem dX4_isPassage_23 : decode cX4_isPassage 23 = .ok (.iconst 0, 1) := by decide +kernel
theorem dX4_isPassage_24 : decode cX4_isPassage 24 = .ok (.ireturn, 1) := by decide +kernel
theorem dX4_asNumber_0 : decode cX4_asNumber 0 = .ok (.iload_n 0, 1) := by decide +kernel
theorem dX4_asNumber_1 : decode cX4_asNumber 1 = .ok (.ifCond .eq 7, 3) := by decide +kernel
theorem dX4_asNumber_4 : decode cX4_asNumber 4 = .ok (.iconst 1, 1) := by decide +kernel
theorem dX4_asNumber_5 : decode cX4_asNumber 5 = .ok (.goto 4, 3) := by decide +kernel
theorem dX4_asNumber_8 : decode cX4_asNumber 8 = .ok (.iconst 0, 1) := by decide +kernel
theorem dX4_asNumber_9 : decode cX4_asNumber 9 = .ok (.ireturn, 1) := by decide +kernel
theorem dX4_noneIfMissing_0 : decode cX4_noneIfMissing 0 = .ok (.iload_n 0, 1) := by decide +kernel
theorem dX4_noneIfMissing_1 : decode cX4_noneIfMissing 1 = .ok (.ifCond .ge 8, 3) := by decide +kernel
theorem dX4_noneIfMissing_4 : decode cX4_noneIfMissing 4 = .ok (.bipush (-6), 2) := by decide +kernel
theorem dX4_noneIfMissing_6 : decode cX4_noneIfMissing 6 = .ok (.goto 4, 3) := by decide +kernel
theorem dX4_noneIfMissing_9 : decode cX4_noneIfMissing 9 = .ok (.iload_n 0, 1) := by decide +kernel
theorem dX4_noneIfMissing_10 : decode cX4_noneIfMissing 10 = .ok (.ireturn, 1) := by decide +kernel
set_option maxRecDepth 20000 in
theorem ggX4_isFreeAt_X3_size : GoodIn wsX4_isFreeAt wsX3_size := goodIn_r _ [6, 7, 49, 50, 51, 52, 53, 54, 55] (by decide +kernel) (by decide +kernel)
set_option maxRecDepth 20000 in
theorem gX4_isFreeAt_X3_size : GoodIn wsX4_isFreeAt (wsV RX4 78 RX3 yX3_size wsX3_size) := goodIn_app (goodIn_of _ (by decide +kernel)) ggX4_isFreeAt_X3_size
set_option maxRecDepth 20000 in
theorem ggX4_isFreeAt_X3_liesWithin : GoodIn wsX4_isFreeAt wsX3_liesWithin := goodIn_r _ [11, 12, 13, 14, 5, 15, 7, 16, 17, 18, 19, 20, 21, 22, 23, 24, 25, 49, 50, 51, 52, 53, 54, 55] (by decide +kernel) (by decide +kernel)
set_option maxRecDepth 20000 in
theorem gX4_isFreeAt_X3_liesWithin : GoodIn wsX4_isFreeAt (wsV RX4 249 RX3 yX3_liesWithin wsX3_liesWithin) := goodIn_app (goodIn_of _ (by decide +kernel)) ggX4_isFreeAt_X3_liesWithin
set_option maxRecDepth 20000 in
theorem ggX4_isFreeAt_X3_firstOf : GoodIn wsX4_isFreeAt wsX3_firstOf := goodIn_r _ [19, 20, 12, 13, 14, 5, 15, 7, 49, 50, 51, 52, 53, 54, 55] (by decide +kernel) (by decide +kernel)
set_option maxRecDepth 20000 in
theorem gX4_isFreeAt_X3_firstOf : GoodIn wsX4_isFreeAt (wsV RX4 163 RX3 yX3_firstOf wsX3_firstOf) := goodIn_app (goodIn_of _ (by decide +kernel)) ggX4_isFreeAt_X3_firstOf
set_option maxRecDepth 20000 in
theorem ggX4_isFreeAt_X3_lastOf : GoodIn wsX4_isFreeAt wsX3_lastOf := goodIn_r _ [24, 25, 12, 13, 14, 5, 15, 7, 49, 50, 51, 52, 53, 54, 55] (by decide +kernel) (by decide +kernel)
set_option maxRecDepth 20000 in
theorem gX4_isFreeAt_X3_lastOf : GoodIn wsX4_isFreeAt (wsV RX4 166 RX3 yX3_lastOf wsX3_lastOf) := goodIn_app (goodIn_of _ (by decide +kernel)) ggX4_isFreeAt_X3_lastOf
set_option maxRecDepth 20000 in
theorem ggX4_isFreeAt_X3_trackOf : GoodIn wsX4_isFreeAt wsX3_trackOf := goodIn_r _ [31, 32, 12, 13, 14, 5, 15, 7, 49, 50, 51, 52, 53, 54, 55] (by decide +kernel) (by decide +kernel)
set_option maxRecDepth 20000 in
theorem gX4_isFreeAt_X3_trackOf : GoodIn wsX4_isFreeAt (wsV RX4 160 RX3 yX3_trackOf wsX3_trackOf) := goodIn_app (goodIn_of _ (by decide +kernel)) ggX4_isFreeAt_X3_trackOf
set_option maxRecDepth 20000 in
theorem ggX4_isFreeAt_X3_isTaken : GoodIn wsX4_isFreeAt wsX3_isTaken := goodIn_r _ [36, 37, 38, 39, 5, 40, 7, 41, 29, 30, 31, 32, 12, 13, 14, 15, 16, 17, 18, 19, 20, 21, 22, 23, 24, 25, 49, 50, 51, 52, 53, 54, 55] (by decide +kernel) (by decide +kernel)
set_option maxRecDepth 20000 in
theorem gX4_isFreeAt_X3_isTaken : GoodIn wsX4_isFreeAt (wsV RX4 82 RX3 yX3_isTaken wsX3_isTaken) := goodIn_app (goodIn_of _ (by decide +kernel)) ggX4_isFreeAt_X3_isTaken
theorem dX4_isFreeAt_0 : decode cX4_isFreeAt 0 = .ok (.iconst 0, 1) := by decide +kernel
theorem dX4_isFreeAt_1 : decode cX4_isFreeAt 1 = .ok (.istore 4, 2) := by decide +kernel
theorem dX4_isFreeAt_3 : decode cX4_isFreeAt 3 = .ok (.iload 4, 2) := by decide +kernel
theorem dX4_isFreeAt_5 : decode cX4_isFreeAt 5 = .ok (.aload_n 0, 1) := by decide +kernel
theorem dX4_isFreeAt_6 : decode cX4_isFreeAt 6 = .ok (.getfield 10, 3) := by decide +kernel
theorem dX4_isFreeAt_9 : decode cX4_isFreeAt 9 = .ok (.invokevirtual 78, 3) := by decide +kernel
theorem dX4_isFreeAt_12 : decode cX4_isFreeAt 12 = .ok (.if_icmp .ge 85, 3) := by decide +kernel
theorem dX4_isFreeAt_15 : decode cX4_isFreeAt 15 = .ok (.aload_n 0, 1) := by decide +kernel
theorem dX4_isFreeAt_16 : decode cX4_isFreeAt 16 = .ok (.getfield 10, 3) := by decide +kernel
theorem dX4_isFreeAt_19 : decode cX4_isFreeAt 19 = .ok (.iload 4, 2) := by decide +kernel
theorem dX4_isFreeAt_21 : decode cX4_isFreeAt 21 = .ok (.iload_n 1, 1) := by decide +kernel
theorem dX4_isFreeAt_22 : decode cX4_isFreeAt 22 = .ok (.iload_n 2, 1) := by decide +kernel
theorem dX4_isFreeAt_23 : decode cX4_isFreeAt 23 = .ok (.invokevirtual 249, 3) := by decide +kernel
theorem dX4_isFreeAt_26 : decode cX4_isFreeAt 26 = .ok (.ifCond .eq 65, 3) := by decide +kernel
theorem dX4_isFreeAt_29 : decode cX4_isFreeAt 29 = .ok (.aload_n 0, 1) := by decide +kernel
theorem dX4_isFreeAt_30 : decode cX4_isFreeAt 30 = .ok (.getfield 10, 3) := by decide +kernel
theorem dX4_isFreeAt_33 : decode cX4_isFreeAt 33 = .ok (.iload 4, 2) := by decide +kernel
theorem dX4_isFreeAt_35 : decode cX4_isFreeAt 35 = .ok (.invokevirtual 163, 3) := by decide +kernel
theorem dX4_isFreeAt_38 : decode cX4_isFreeAt 38 = .ok (.iload_n 1, 1) := by decide +kernel
theorem dX4_isFreeAt_39 : decode cX4_isFreeAt 39 = .ok (.isub, 1) := by decide +kernel
theorem dX4_isFreeAt_40 : decode cX4_isFreeAt 40 = .ok (.iload_n 3, 1) := by decide +kernel
theorem dX4_isFreeAt_41 : decode cX4_isFreeAt 41 = .ok (.iadd, 1) := by decide +kernel
theorem dX4_isFreeAt_42 : decode cX4_isFreeAt 42 = .ok (.istore 5, 2) := by decide +kernel
theorem dX4_isFreeAt_44 : decode cX4_isFreeAt 44 = .ok (.aload_n 0, 1) := by decide +kernel
theorem dX4_isFreeAt_45 : decode cX4_isFreeAt 45 = .ok (.getfield 10, 3) := by decide +kernel
theorem dX4_isFreeAt_48 : decode cX4_isFreeAt 48 = .ok (.iload 4, 2) := by decide +kernel
theorem dX4_isFreeAt_50 : decode cX4_isFreeAt 50 = .ok (.invokevirtual 166, 3) := by decide +kernel
theorem dX4_isFreeAt_53 : decode cX4_isFreeAt 53 = .ok (.iload_n 1, 1) := by decide +kernel
theorem dX4_isFreeAt_54 : decode cX4_isFreeAt 54 = .ok (.isub, 1) := by decide +kernel
theorem dX4_isFreeAt_55 : decode cX4_isFreeAt 55 = .ok (.iload_n 3, 1) := by decide +kernel
theorem dX4_isFreeAt_56 : decode cX4_isFreeAt 56 = .ok (.iadd, 1) := by decide +kernel
theorem dX4_isFreeAt_57 : decode cX4_isFreeAt 57 = .ok (.istore 6, 2) := by decide +kernel
theorem dX4_isFreeAt_59 : decode cX4_isFreeAt 59 = .ok (.iload 6, 2) := by decide +kernel
theorem dX4_isFreeAt_61 : decode cX4_isFreeAt 61 = .ok (.bipush 100, 2) := by decide +kernel
theorem dX4_isFreeAt_63 : decode cX4_isFreeAt 63 = .ok (.if_icmp .ge 26, 3) := by decide +kernel
theorem dX4_isFreeAt_66 : decode cX4_isFreeAt 66 = .ok (.aload_n 0, 1) := by decide +kernel
theorem dX4_isFreeAt_67 : decode cX4_isFreeAt 67 = .ok (.getfield 10, 3) := by decide +kernel
theorem dX4_isFreeAt_70 : decode cX4_isFreeAt 70 = .ok (.aload_n 0, 1) := by decide +kernel
theorem dX4_isFreeAt_71 : decode cX4_isFreeAt 71 = .ok (.getfield 10, 3) := by decide +kernel
theorem dX4_isFreeAt_74 : decode cX4_isFreeAt 74 = .ok (.iload 4, 2) := by decide +kernel
theorem dX4_isFreeAt_76 : decode cX4_isFreeAt 76 = .ok (.invokevirtual 160, 3) := by decide +kernel
theorem dX4_isFreeAt_79 : decode cX4_isFreeAt 79 = .ok (.iload 5, 2) := by decide +kernel
theorem dX4_isFreeAt_81 : decode cX4_isFreeAt 81 = .ok (.iload 6, 2) := by decide +kernel
theorem dX4_isFreeAt_83 : decode cX4_isFreeAt 83 = .ok (.invokevirtual 82, 3) := by decide +kernel
theorem dX4_isFreeAt_86 : decode cX4_isFreeAt 86 = .ok (.ifCond .eq 5, 3) := by decide +kernel
theorem dX4_isFreeAt_89 : decode cX4_isFreeAt 89 = .ok (.iconst 0, 1) := by decide +kernel
theorem dX4_isFreeAt_90 : decode cX4_isFreeAt 90 = .ok (.ireturn, 1) := by decide +kernel
theorem dX4_isFreeAt_91 : decode cX4_isFreeAt 91 = .ok (.iinc 4 1, 3) := by decide +kernel
theorem dX4_isFreeAt_94 : decode cX4_isFreeAt 94 = .ok (.goto (-91), 3) := by decide +kernel
theorem dX4_isFreeAt_97 : decode cX4_isFreeAt 97 = .ok (.iconst 1, 1) := by decide +kernel
theorem dX4_isFreeAt_98 : decode cX4_isFreeAt 98 = .ok (.ireturn, 1) := by decide +kernel
set_option maxRecDepth 20000 in
theorem ggX4_isHeardWhole_X3_firstOf : GoodIn wsX4_isHeardWhole wsX3_firstOf := goodIn_r _ [7, 8, 9, 10, 11, 6, 12, 13, 49, 50, 51, 52, 53, 54, 55] (by decide +kernel) (by decide +kernel)
set_option maxRecDepth 20000 in
theorem gX4_isHeardWhole_X3_firstOf : GoodIn wsX4_isHeardWhole (wsV RX4 163 RX3 yX3_firstOf wsX3_firstOf) := goodIn_app (goodIn_of _ (by decide +kernel)) ggX4_isHeardWhole_X3_firstOf
set_option maxRecDepth 20000 in
theorem ggX4_isHeardWhole_X3_lastOf : GoodIn wsX4_isHeardWhole wsX3_lastOf := goodIn_r _ [17, 18, 9, 10, 11, 6, 12, 13, 49, 50, 51, 52, 53, 54, 55] (by decide +kernel) (by decide +kernel)
set_option maxRecDepth 20000 in
theorem gX4_isHeardWhole_X3_lastOf : GoodIn wsX4_isHeardWhole (wsV RX4 166 RX3 yX3_lastOf wsX3_lastOf) := goodIn_app (goodIn_of _ (by decide +kernel)) ggX4_isHeardWhole_X3_lastOf
set_option maxRecDepth 20000 in
theorem ggX4_isHeardWhole_X3_trackOf : GoodIn wsX4_isHeardWhole wsX3_trackOf := goodIn_r _ [22, 23, 9, 10, 11, 6, 12, 13, 49, 50, 51, 52, 53, 54, 55] (by decide +kernel) (by decide +kernel)
set_option maxRecDepth 20000 in
theorem gX4_isHeardWhole_X3_trackOf : GoodIn wsX4_isHeardWhole (wsV RX4 160 RX3 yX3_trackOf wsX3_trackOf) := goodIn_app (goodIn_of _ (by decide +kernel)) ggX4_isHeardWhole_X3_trackOf
set_option maxRecDepth 20000 in
theorem ggX4_isHeardWhole_X2_isHeard : GoodIn wsX4_isHeardWhole wsX2_isHeard := goodIn_r _ [28, 29, 30, 31, 32, 33, 34, 35, 36, 37, 27, 38, 39, 40, 41, 56, 57, 58] (by decide +kernel) (by decide +kernel)
set_option maxRecDepth 20000 in
theorem gX4_isHeardWhole_X2_isHeard : GoodIn wsX4_isHeardWhole (wsV RX4 228 RX2 yX2_isHeard wsX2_isHeard) := goodIn_app (goodIn_of _ (by decide +kernel)) ggX4_isHeardWhole_X2_isHeard
theorem dX4_isHeardWhole_0 : decode cX4_isHeardWhole 0 = .ok (.aload_n 0, 1) := by decide +kernel
theorem dX4_isHeardWhole_1 : decode cX4_isHeardWhole 1 = .ok (.getfield 10, 3) := by decide +kernel
theorem dX4_isHeardWhole_4 : decode cX4_isHeardWhole 4 = .ok (.iload_n 1, 1) := by decide +kernel
theorem dX4_isHeardWhole_5 : decode cX4_isHeardWhole 5 = .ok (.invokevirtual 163, 3) := by decide +kernel
theorem dX4_isHeardWhole_8 : decode cX4_isHeardWhole 8 = .ok (.istore_n 2, 1) := by decide +kernel
theorem dX4_isHeardWhole_9 : decode cX4_isHeardWhole 9 = .ok (.iload_n 2, 1) := by decide +kernel
theorem dX4_isHeardWhole_10 : decode cX4_isHeardWhole 10 = .ok (.aload_n 0, 1) := by decide +kernel
theorem dX4_isHeardWhole_11 : decode cX4_isHeardWhole 11 = .ok (.getfield 10, 3) := by decide +kernel
theorem dX4_isHeardWhole_14 : decode cX4_isHeardWhole 14 = .ok (.iload_n 1, 1) := by decide +kernel
theorem dX4_isHeardWhole_15 : decode cX4_isHeardWhole 15 = .ok (.invokevirtual 166, 3) := by decide +kernel
theorem dX4_isHeardWhole_18 : decode cX4_isHeardWhole 18 = .ok (.if_icmp .gt 30, 3) := by decide +kernel
theorem dX4_isHeardWhole_21 : decode cX4_isHeardWhole 21 = .ok (.aload_n 0, 1) := by decide +kernel
theorem dX4_isHeardWhole_22 : decode cX4_isHeardWhole 22 = .ok (.getfield 22, 3) := by decide +kernel
theorem dX4_isHeardWhole_25 : decode cX4_isHeardWhole 25 = .ok (.aload_n 0, 1) := by decide +kernel
theorem dX4_isHeardWhole_26 : decode cX4_isHeardWhole 26 = .ok (.getfield 10, 3) := by decide +kernel
theorem dX4_isHeardWhole_29 : decode cX4_isHeardWhole 29 = .ok (.iload_n 1, 1) := by decide +kernel
theorem dX4_isHeardWhole_30 : decode cX4_isHeardWhole 30 = .ok (.invokevirtual 160, 3) := by decide +kernel
theorem dX4_isHeardWhole_33 : decode cX4_isHeardWhole 33 = .ok (.iload_n 2, 1) := by decide +kernel
theorem dX4_isHeardWhole_34 : decode cX4_isHeardWhole 34 = .ok (.invokevirtual 228, 3) := by decide +kernel
theorem dX4_isHeardWhole_37 : decode cX4_isHeardWhole 37 = .ok (.ifCond .ne 5, 3) := by decide +kernel
theorem dX4_isHeardWhole_40 : decode cX4_isHeardWhole 40 = .ok (.iconst 0, 1) := by decide +kernel
theorem dX4_isHeardWhole_41 : decode cX4_isHeardWhole 41 = .ok (.ireturn, 1) := by decide +kernel
theorem dX4_isHeardWhole_42 : decode cX4_isHeardWhole 42 = .ok (.iinc 2 1, 3) := by decide +kernel
theorem dX4_isHeardWhole_45 : decode cX4_isHeardWhole 45 = .ok (.goto (-36), 3) := by decide +kernel
theorem dX4_isHeardWhole_48 : decode cX4_isHeardWhole 48 = .ok (.iconst 1, 1) := by decide +kernel
theorem dX4_isHeardWhole_49 : decode cX4_isHeardWhole 49 = .ok (.ireturn, 1) := by decide +kernel
set_option maxRecDepth 20000 in
theorem ggX4_notesWithGap_X3_size : GoodIn wsX4_notesWithGap wsX3_size := goodIn_r _ [6, 7, 57, 58, 59, 60, 61, 62, 63] (by decide +kernel) (by decide +kernel)
set_option maxRecDepth 20000 in
theorem gX4_notesWithGap_X3_size : GoodIn wsX4_notesWithGap (wsV RX4 78 RX3 yX3_size wsX3_size) := goodIn_app (goodIn_of _ (by decide +kernel)) ggX4_notesWithGap_X3_size
set_option maxRecDepth 20000 in
theorem ggX4_notesWithGap_X4_isHeardWhole : GoodIn wsX4_notesWithGap wsX4_isHeardWhole := goodIn_r _ [12, 1, 13, 14, 15, 16, 5, 17, 18, 19, 20, 21, 22, 7, 23, 24, 25, 26, 27, 28, 29, 30, 31, 32, 33, 34, 35, 36, 37, 38, 11, 39, 40, 41, 42, 43, 44, 45, 46, 47, 48, 49, 50, 51, 52, 53, 54, 55, 56, 57, 58, 59, 60, 61, 62, 63, 64, 65, 66] (by decide +kernel) (by decide +kernel)
set_option maxRecDepth 20000 in
theorem gX4_notesWithGap_X4_isHeardWhole : GoodIn wsX4_notesWithGap (wsV RX4 178 RX4 yX4_isHeardWhole wsX4_isHeardWhole) := goodIn_app (goodIn_of _ (by decide +kernel)) ggX4_notesWithGap_X4_isHeardWhole
theorem dX4_notesWithGap_0 : decode cX4_notesWithGap 0 = .ok (.iconst 0, 1) := by decide +kernel
theorem dX4_notesWithGap_1 : decode cX4_notesWithGap 1 = .ok (.istore_n 1, 1) := by decide +kernel
theorem dX4_notesWithGap_2 : decode cX4_notesWithGap 2 = .ok (.iconst 0, 1) := by decide +kernel
theorem dX4_notesWithGap_3 : decode cX4_notesWithGap 3 = .ok (.istore_n 2, 1) := by decide +kernel
theorem dX4_notesWithGap_4 : decode cX4_notesWithGap 4 = .ok (.iload_n 2, 1) := by decide +kernel
theorem dX4_notesWithGap_5 : decode cX4_notesWithGap 5 = .ok (.aload_n 0, 1) := by decide +kernel
theorem dX4_notesWithGap_6 : decode cX4_notesWithGap 6 = .ok (.getfield 10, 3) := by decide +kernel
theorem dX4_notesWithGap_9 : decode cX4_notesWithGap 9 = .ok (.invokevirtual 78, 3) := by decide +kernel
theorem dX4_notesWithGap_12 : decode cX4_notesWithGap 12 = .ok (.if_icmp .ge 20, 3) := by decide +kernel
theorem dX4_notesWithGap_15 : decode cX4_notesWithGap 15 = .ok (.aload_n 0, 1) := by decide +kernel
theorem dX4_notesWithGap_16 : decode cX4_notesWithGap 16 = .ok (.iload_n 2, 1) := by decide +kernel
theorem dX4_notesWithGap_17 : decode cX4_notesWithGap 17 = .ok (.invokevirtual 178, 3) := by decide +kernel
theorem dX4_notesWithGap_20 : decode cX4_notesWithGap 20 = .ok (.ifCond .ne 6, 3) := by decide +kernel
theorem dX4_notesWithGap_23 : decode cX4_notesWithGap 23 = .ok (.iinc 1 1, 3) := by decide +kernel
theorem dX4_notesWithGap_26 : decode cX4_notesWithGap 26 = .ok (.iinc 2 1, 3) := by decide +kernel
theorem dX4_notesWithGap_29 : decode cX4_notesWithGap 29 = .ok (.goto (-25), 3) := by decide +kernel
theorem dX4_notesWithGap_32 : decode cX4_notesWithGap 32 = .ok (.iload_n 1, 1) := by decide +kernel
theorem dX4_notesWithGap_33 : decode cX4_notesWithGap 33 = .ok (.ireturn, 1) := by decide +kernel
set_option maxRecDepth 20000 in
theorem ggX4_allSounds_X2_sounds : GoodIn wsX4_allSounds wsX2_sounds := goodIn_r _ [6, 7, 8, 9, 5, 10, 11, 12, 13, 14, 15, 16, 17, 18, 19, 20, 21, 22, 23, 24, 25, 26, 27, 35, 36, 37] (by decide +kernel) (by decide +kernel)
set_option maxRecDepth 20000 in
theorem gX4_allSounds_X2_sounds : GoodIn wsX4_allSounds (wsV RX4 264 RX2 yX2_sounds wsX2_sounds) := goodIn_app (goodIn_of _ (by decide +kernel)) ggX4_allSounds_X2_sounds
theorem dX4_allSounds_0 : decode cX4_allSounds 0 = .ok (.iconst 0, 1) := by decide +kernel
theorem dX4_allSounds_1 : decode cX4_allSounds 1 = .ok (.istore_n 1, 1) := by decide +kernel
theorem dX4_allSounds_2 : decode cX4_allSounds 2 = .ok (.iconst 0, 1) := by decide +kernel
theorem dX4_allSounds_3 : decode cX4_allSounds 3 = .ok (.istore_n 2, 1) := by decide +kernel
theorem dX4_allSounds_4 : decode cX4_allSounds 4 = .ok (.iload_n 2, 1) := by decide +kernel
theorem dX4_allSounds_5 : decode cX4_allSounds 5 = .ok (.bipush 12, 2) := by decide +kernel
theorem dX4_allSounds_7 : decode cX4_allSounds 7 = .ok (.if_icmp .ge 20, 3) := by decide +kernel
theorem dX4_allSounds_10 : decode cX4_allSounds 10 = .ok (.iload_n 1, 1) := by decide +kernel
theorem dX4_allSounds_11 : decode cX4_allSounds 11 = .ok (.aload_n 0, 1) := by decide +kernel
theorem dX4_allSounds_12 : decode cX4_allSounds 12 = .ok (.getfield 22, 3) := by decide +kernel
theorem dX4_allSounds_15 : decode cX4_allSounds 15 = .ok (.iload_n 2, 1) := by decide +kernel
theorem dX4_allSounds_16 : decode cX4_allSounds 16 = .ok (.invokevirtual 264, 3) := by decide +kernel
theorem dX4_allSounds_19 : decode cX4_allSounds 19 = .ok (.iadd, 1) := by decide +kernel
theorem dX4_allSounds_20 : decode cX4_allSounds 20 = .ok (.istore_n 1, 1) := by decide +kernel
theorem dX4_allSounds_21 : decode cX4_allSounds 21 = .ok (.iinc 2 1, 3) := by decide +kernel
theorem dX4_allSounds_24 : decode cX4_allSounds 24 = .ok (.goto (-20), 3) := by decide +kernel
theorem dX4_allSounds_27 : decode cX4_allSounds 27 = .ok (.iload_n 1, 1) := by decide +kernel
theorem dX4_allSounds_28 : decode cX4_allSounds 28 = .ok (.ireturn, 1) := by decide +kernel
theorem dJ6_bitCount_0f7a4_0 : decode cJ6_bitCount_0f7a4 0 = .ok (.iload_n 0, 1) := by decide +kernel
theorem dJ6_bitCount_0f7a4_1 : decode cJ6_bitCount_0f7a4 1 = .ok (.iload_n 0, 1) := by decide +kernel
theorem dJ6_bitCount_0f7a4_2 : decode cJ6_bitCount_0f7a4 2 = .ok (.iconst 1, 1) := by decide +kernel
theorem dJ6_bitCount_0f7a4_3 : decode cJ6_bitCount_0f7a4 3 = .ok (.iushr, 1) := by decide +kernel
theorem dJ6_bitCount_0f7a4_4 : decode cJ6_bitCount_0f7a4 4 = .ok (.ldc_w 265, 3) := by decide +kernel
theorem dJ6_bitCount_0f7a4_7 : decode cJ6_bitCount_0f7a4 7 = .ok (.iand, 1) := by decide +kernel
theorem dJ6_bitCount_0f7a4_8 : decode cJ6_bitCount_0f7a4 8 = .ok (.isub, 1) := by decide +kernel
theorem dJ6_bitCount_0f7a4_9 : decode cJ6_bitCount_0f7a4 9 = .ok (.istore_n 0, 1) := by decide +kernel
theorem dJ6_bitCount_0f7a4_10 : decode cJ6_bitCount_0f7a4 10 = .ok (.iload_n 0, 1) := by decide +kernel
theorem dJ6_bitCount_0f7a4_11 : decode cJ6_bitCount_0f7a4 11 = .ok (.ldc_w 266, 3) := by decide +kernel
theorem dJ6_bitCount_0f7a4_14 : decode cJ6_bitCount_0f7a4 14 = .ok (.iand, 1) := by decide +kernel
theorem dJ6_bitCount_0f7a4_15 : decode cJ6_bitCount_0f7a4 15 = .ok (.iload_n 0, 1) := by decide +kernel
theorem dJ6_bitCount_0f7a4_16 : decode cJ6_bitCount_0f7a4 16 = .ok (.iconst 2, 1) := by decide +kernel
theorem dJ6_bitCount_0f7a4_17 : decode cJ6_bitCount_0f7a4 17 = .ok (.iushr, 1) := by decide +kernel
theorem dJ6_bitCount_0f7a4_18 : decode cJ6_bitCount_0f7a4 18 = .ok (.ldc_w 266, 3) := by decide +kernel
theorem dJ6_bitCount_0f7a4_21 : decode cJ6_bitCount_0f7a4 21 = .ok (.iand, 1) := by decide +kernel
theorem dJ6_bitCount_0f7a4_22 : decode cJ6_bitCount_0f7a4 22 = .ok (.iadd, 1) := by decide +kernel
theorem dJ6_bitCount_0f7a4_23 : decode cJ6_bitCount_0f7a4 23 = .ok (.istore_n 0, 1) := by decide +kernel
theorem dJ6_bitCount_0f7a4_24 : decode cJ6_bitCount_0f7a4 24 = .ok (.iload_n 0, 1) := by decide +kernel
theorem dJ6_bitCount_0f7a4_25 : decode cJ6_bitCount_0f7a4 25 = .ok (.iload_n 0, 1) := by decide +kernel
theorem dJ6_bitCount_0f7a4_26 : decode cJ6_bitCount_0f7a4 26 = .ok (.iconst 4, 1) := by decide +kernel
theorem dJ6_bitCount_0f7a4_27 : decode cJ6_bitCount_0f7a4 27 = .ok (.iushr, 1) := by decide +kernel
theorem dJ6_bitCount_0f7a4_28 : decode cJ6_bitCount_0f7a4 28 = .ok (.iadd, 1) := by decide +kernel
theorem dJ6_bitCount_0f7a4_29 : decode cJ6_bitCount_0f7a4 29 = .ok (.ldc_w 267, 3) := by decide +kernel
theorem dJ6_bitCount_0f7a4_32 : decode cJ6_bitCount_0f7a4 32 = .ok (.iand, 1) := by decide +kernel
theorem dJ6_bitCount_0f7a4_33 : decode cJ6_bitCount_0f7a4 33 = .ok (.istore_n 0, 1) := by decide +kernel
theorem dJ6_bitCount_0f7a4_34 : decode cJ6_bitCount_0f7a4 34 = .ok (.iload_n 0, 1) := by decide +kernel
theorem dJ6_bitCount_0f7a4_35 : decode cJ6_bitCount_0f7a4 35 = .ok (.iload_n 0, 1) := by decide +kernel
theorem dJ6_bitCount_0f7a4_36 : decode cJ6_bitCount_0f7a4 36 = .ok (.bipush 8, 2) := by decide +kernel
theorem dJ6_bitCount_0f7a4_38 : decode cJ6_bitCount_0f7a4 38 = .ok (.iushr, 1) := by decide +kernel
theorem dJ6_bitCount_0f7a4_39 : decode cJ6_bitCount_0f7a4 39 = .ok (.iadd, 1) := by decide +kernel
theorem dJ6_bitCount_0f7a4_40 : decode cJ6_bitCount_0f7a4 40 = .ok (.istore_n 0, 1) := by decide +kernel
theorem dJ6_bitCount_0f7a4_41 : decode cJ6_bitCount_0f7a4 41 = .ok (.iload_n 0, 1) := by decide +kernel
theorem dJ6_bitCount_0f7a4_42 : decode cJ6_bitCount_0f7a4 42 = .ok (.iload_n 0, 1) := by decide +kernel
theorem dJ6_bitCount_0f7a4_43 : decode cJ6_bitCount_0f7a4 43 = .ok (.bipush 16, 2) := by decide +kernel
theorem dJ6_bitCount_0f7a4_45 : decode cJ6_bitCount_0f7a4 45 = .ok (.iushr, 1) := by decide +kernel
theorem dJ6_bitCount_0f7a4_46 : decode cJ6_bitCount_0f7a4 46 = .ok (.iadd, 1) := by decide +kernel
theorem dJ6_bitCount_0f7a4_47 : decode cJ6_bitCount_0f7a4 47 = .ok (.istore_n 0, 1) := by decide +kernel
theorem dJ6_bitCount_0f7a4_48 : decode cJ6_bitCount_0f7a4 48 = .ok (.iload_n 0, 1) := by decide +kernel
theorem dJ6_bitCount_0f7a4_49 : decode cJ6_bitCount_0f7a4 49 = .ok (.bipush 63, 2) := by decide +kernel
theorem dJ6_bitCount_0f7a4_51 : decode cJ6_bitCount_0f7a4 51 = .ok (.iand, 1) := by decide +kernel
theorem dJ6_bitCount_0f7a4_52 : decode cJ6_bitCount_0f7a4 52 = .ok (.ireturn, 1) := by decide +kernel
theorem dJ9_floorMod_7cf53_0 : decode cJ9_floorMod_7cf53 0 = .ok (.iload_n 0, 1) := by decide +kernel
theorem dJ9_floorMod_7cf53_1 : decode cJ9_floorMod_7cf53 1 = .ok (.iload_n 1, 1) := by decide +kernel
theorem dJ9_floorMod_7cf53_2 : decode cJ9_floorMod_7cf53 2 = .ok (.irem, 1) := by decide +kernel
theorem dJ9_floorMod_7cf53_3 : decode cJ9_floorMod_7cf53 3 = .ok (.istore_n 2, 1) := by decide +kernel
theorem dJ9_floorMod_7cf53_4 : decode cJ9_floorMod_7cf53 4 = .ok (.iload_n 0, 1) := by decide +kernel
theorem dJ9_floorMod_7cf53_5 : decode cJ9_floorMod_7cf53 5 = .ok (.iload_n 1, 1) := by decide +kernel
theorem dJ9_floorMod_7cf53_6 : decode cJ9_floorMod_7cf53 6 = .ok (.ixor, 1) := by decide +kernel
theorem dJ9_floorMod_7cf53_7 : decode cJ9_floorMod_7cf53 7 = .ok (.ifCond .ge 11, 3) := by decide +kernel
theorem dJ9_floorMod_7cf53_10 : decode cJ9_floorMod_7cf53 10 = .ok (.iload_n 2, 1) := by decide +kernel
theorem dJ9_floorMod_7cf53_11 : decode cJ9_floorMod_7cf53 11 = .ok (.ifCond .eq 7, 3) := by decide +kernel
theorem dJ9_floorMod_7cf53_14 : decode cJ9_floorMod_7cf53 14 = .ok (.iload_n 2, 1) := by decide +kernel
theorem dJ9_floorMod_7cf53_15 : decode cJ9_floorMod_7cf53 15 = .ok (.iload_n 1, 1) := by decide +kernel
theorem dJ9_floorMod_7cf53_16 : decode cJ9_floorMod_7cf53 16 = .ok (.iadd, 1) := by decide +kernel
theorem dJ9_floorMod_7cf53_17 : decode cJ9_floorMod_7cf53 17 = .ok (.ireturn, 1) := by decide +kernel
theorem dJ9_floorMod_7cf53_18 : decode cJ9_floorMod_7cf53 18 = .ok (.iload_n 2, 1) := by decide +kernel
theorem dJ9_floorMod_7cf53_19 : decode cJ9_floorMod_7cf53 19 = .ok (.ireturn, 1) := by decide +kernel
theorem dJ9_max_7cf53_0 : decode cJ9_max_7cf53 0 = .ok (.iload_n 0, 1) := by decide +kernel
theorem dJ9_max_7cf53_1 : decode cJ9_max_7cf53 1 = .ok (.iload_n 1, 1) := by decide +kernel
theorem dJ9_max_7cf53_2 : decode cJ9_max_7cf53 2 = .ok (.if_icmp .lt 7, 3) := by decide +kernel
theorem dJ9_max_7cf53_5 : decode cJ9_max_7cf53 5 = .ok (.iload_n 0, 1) := by decide +kernel
theorem dJ9_max_7cf53_6 : decode cJ9_max_7cf53 6 = .ok (.goto 4, 3) := by decide +kernel
theorem dJ9_max_7cf53_9 : decode cJ9_max_7cf53 9 = .ok (.iload_n 1, 1) := by decide +kernel
theorem dJ9_max_7cf53_10 : decode cJ9_max_7cf53 10 = .ok (.ireturn, 1) := by decide +kernel
theorem dJ9_min_7cf53_0 : decode cJ9_min_7cf53 0 = .ok (.iload_n 0, 1) := by decide +kernel
theorem dJ9_min_7cf53_1 : decode cJ9_min_7cf53 1 = .ok (.iload_n 1, 1) := by decide +kernel
theorem dJ9_min_7cf53_2 : decode cJ9_min_7cf53 2 = .ok (.if_icmp .gt 7, 3) := by decide +kernel
theorem dJ9_min_7cf53_5 : decode cJ9_min_7cf53 5 = .ok (.iload_n 0, 1) := by decide +kernel
theorem dJ9_min_7cf53_6 : decode cJ9_min_7cf53 6 = .ok (.goto 4, 3) := by decide +kernel
theorem dJ9_min_7cf53_9 : decode cJ9_min_7cf53 9 = .ok (.iload_n 1, 1) := by decide +kernel
theorem dJ9_min_7cf53_10 : decode cJ9_min_7cf53 10 = .ok (.ireturn, 1) := by decide +kernel
theorem dJ7_fill_53178_0 : decode cJ7_fill_53178 0 = .ok (.iconst 0, 1) := by decide +kernel
theorem dJ7_fill_53178_1 : decode cJ7_fill_53178 1 = .ok (.istore_n 2, 1) := by decide +kernel
theorem dJ7_fill_53178_2 : decode cJ7_fill_53178 2 = .ok (.aload_n 0, 1) := by decide +kernel
theorem dJ7_fill_53178_3 : decode cJ7_fill_53178 3 = .ok (.arraylength, 1) := by decide +kernel
theorem dJ7_fill_53178_4 : decode cJ7_fill_53178 4 = .ok (.istore_n 3, 1) := by decide +kernel
theorem dJ7_fill_53178_5 : decode cJ7_fill_53178 5 = .ok (.iload_n 2, 1) := by decide +kernel
theorem dJ7_fill_53178_6 : decode cJ7_fill_53178 6 = .ok (.iload_n 3, 1) := by decide +kernel
theorem dJ7_fill_53178_7 : decode cJ7_fill_53178 7 = .ok (.if_icmp .ge 13, 3) := by decide +kernel
theorem dJ7_fill_53178_10 : decode cJ7_fill_53178 10 = .ok (.aload_n 0, 1) := by decide +kernel
theorem dJ7_fill_53178_11 : decode cJ7_fill_53178 11 = .ok (.iload_n 2, 1) := by decide +kernel
theorem dJ7_fill_53178_12 : decode cJ7_fill_53178 12 = .ok (.iload_n 1, 1) := by decide +kernel
theorem dJ7_fill_53178_13 : decode cJ7_fill_53178 13 = .ok (.iastore, 1) := by decide +kernel
theorem dJ7_fill_53178_14 : decode cJ7_fill_53178 14 = .ok (.iinc 2 1, 3) := by decide +kernel
theorem dJ7_fill_53178_17 : decode cJ7_fill_53178 17 = .ok (.goto (-12), 3) := by decide +kernel
theorem dJ7_fill_53178_20 : decode cJ7_fill_53178 20 = .ok (.return_, 1) := by decide +kernel
theorem dL_cell_0 : decode cL_cell 0 = .ok (.iload_n 1, 1) := by decide +kernel
theorem dL_cell_1 : decode cL_cell 1 = .ok (.aload_n 0, 1) := by decide +kernel
theorem dL_cell_2 : decode cL_cell 2 = .ok (.arraylength, 1) := by decide +kernel
theorem dL_cell_3 : decode cL_cell 3 = .ok (.if_icmp .ge 9, 3) := by decide +kernel
theorem dL_cell_6 : decode cL_cell 6 = .ok (.aload_n 0, 1) := by decide +kernel
theorem dL_cell_7 : decode cL_cell 7 = .ok (.iload_n 1, 1) := by decide +kernel
theorem dL_cell_8 : decode cL_cell 8 = .ok (.iaload, 1) := by decide +kernel
theorem dL_cell_9 : decode cL_cell 9 = .ok (.goto 12, 3) := by decide +kernel
theorem dL_cell_12 : decode cL_cell 12 = .ok (.ldc 7, 2) := by decide +kernel
theorem dL_cell_14 : decode cL_cell 14 = .ok (.iload_n 1, 1) := by decide +kernel
theorem dL_cell_15 : decode cL_cell 15 = .ok (.iconst 1, 1) := by decide +kernel
theorem dL_cell_16 : decode cL_cell 16 = .ok (.iadd, 1) := by decide +kernel
theorem dL_cell_17 : decode cL_cell 17 = .ok (.imul, 1) := by decide +kernel
theorem dL_cell_18 : decode cL_cell 18 = .ok (.ldc 8, 2) := by decide +kernel
theorem dL_cell_20 : decode cL_cell 20 = .ok (.iadd, 1) := by decide +kernel
theorem dL_cell_21 : decode cL_cell 21 = .ok (.ireturn, 1) := by decide +kernel
theorem dL_low_0 : decode cL_low 0 = .ok (.iload_n 0, 1) := by decide +kernel
theorem dL_low_1 : decode cL_low 1 = .ok (.ldc 9, 2) := by decide +kernel
theorem dL_low_3 : decode cL_low 3 = .ok (.iand, 1) := by decide +kernel
theorem dL_low_4 : decode cL_low 4 = .ok (.iload_n 1, 1) := by decide +kernel
theorem dL_low_5 : decode cL_low 5 = .ok (.irem, 1) := by decide +kernel
theorem dL_low_6 : decode cL_low 6 = .ok (.ireturn, 1) := by decide +kernel
theorem dL_hole_0 : decode cL_hole 0 = .ok (.aload_n 3, 1) := by decide +kernel
theorem dL_hole_1 : decode cL_hole 1 = .ok (.iconst 5, 1) := by decide +kernel
theorem dL_hole_2 : decode cL_hole 2 = .ok (.iload_n 0, 1) := by decide +kernel
theorem dL_hole_3 : decode cL_hole 3 = .ok (.imul, 1) := by decide +kernel
theorem dL_hole_4 : decode cL_hole 4 = .ok (.iaload, 1) := by decide +kernel
theorem dL_hole_5 : decode cL_hole 5 = .ok (.bipush 100, 2) := by decide +kernel
theorem dL_hole_7 : decode cL_hole 7 = .ok (.idiv, 1) := by decide +kernel
theorem dL_hole_8 : decode cL_hole 8 = .ok (.istore 4, 2) := by decide +kernel
theorem dL_hole_10 : decode cL_hole 10 = .ok (.aload_n 3, 1) := by decide +kernel
theorem dL_hole_11 : decode cL_hole 11 = .ok (.iconst 5, 1) := by decide +kernel
theorem dL_hole_12 : decode cL_hole 12 = .ok (.iload_n 0, 1) := by decide +kernel
theorem dL_hole_13 : decode cL_hole 13 = .ok (.imul, 1) := by decide +kernel
theorem dL_hole_14 : decode cL_hole 14 = .ok (.iconst 1, 1) := by decide +kernel
theorem dL_hole_15 : decode cL_hole 15 = .ok (.iadd, 1) := by decide +kernel
theorem dL_hole_16 : decode cL_hole 16 = .ok (.iaload, 1) := by decide +kernel
theorem dL_hole_17 : decode cL_hole 17 = .ok (.istore 5, 2) := by decide +kernel
theorem dL_hole_19 : decode cL_hole 19 = .ok (.iload_n 1, 1) := by decide +kernel
theorem dL_hole_20 : decode cL_hole 20 = .ok (.iload 4, 2) := by decide +kernel
theorem dL_hole_22 : decode cL_hole 22 = .ok (.isub, 1) := by decide +kernel
theorem dL_hole_23 : decode cL_hole 23 = .ok (.aload_n 3, 1) := by decide +kernel
theorem dL_hole_24 : decode cL_hole 24 = .ok (.iconst 5, 1) := by decide +kernel
theorem dL_hole_25 : decode cL_hole 25 = .ok (.iload_n 0, 1) := by decide +kernel
theorem dL_hole_26 : decode cL_hole 26 = .ok (.imul, 1) := by decide +kernel
theorem dL_hole_27 : decode cL_hole 27 = .ok (.iconst 2, 1) := by decide +kernel
theorem dL_hole_28 : decode cL_hole 28 = .ok (.iadd, 1) := by decide +kernel
theorem dL_hole_29 : decode cL_hole 29 = .ok (.iaload, 1) := by decide +kernel
theorem dL_hole_30 : decode cL_hole 30 = .ok (.iadd, 1) := by decide +kernel
theorem dL_hole_31 : decode cL_hole 31 = .ok (.istore 6, 2) := by decide +kernel
theorem dL_hole_33 : decode cL_hole 33 = .ok (.iload 6, 2) := by decide +kernel
theorem dL_hole_35 : decode cL_hole 35 = .ok (.aload_n 2, 1) := by decide +kernel
theorem dL_hole_36 : decode cL_hole 36 = .ok (.iconst 0, 1) := by decide +kernel
theorem dL_hole_37 : decode cL_hole 37 = .ok (.iaload, 1) := by decide +kernel
theorem dL_hole_38 : decode cL_hole 38 = .ok (.aload_n 2, 1) := by decide +kernel
theorem dL_hole_39 : decode cL_hole 39 = .ok (.iconst 1, 1) := by decide +kernel
theorem dL_hole_40 : decode cL_hole 40 = .ok (.iaload, 1) := by decide +kernel
theorem dL_hole_41 : decode cL_hole 41 = .ok (.iadd, 1) := by decide +kernel
theorem dL_hole_42 : decode cL_hole 42 = .ok (.if_icmp .lt 18, 3) := by decide +kernel
theorem dL_hole_45 : decode cL_hole 45 = .ok (.iload 6, 2) := by decide +kernel
theorem dL_hole_47 : decode cL_hole 47 = .ok (.aload_n 2, 1) := by decide +kernel
theorem dL_hole_48 : decode cL_hole 48 = .ok (.iconst 0, 1) := by decide +kernel
theorem dL_hole_49 : decode cL_hole 49 = .ok (.iaload, 1) := by decide +kernel
theorem dL_hole_50 : decode cL_hole 50 = .ok (.aload_n 2, 1) := by decide +kernel
theorem dL_hole_51 : decode cL_hole 51 = .ok (.iconst 1, 1) := by decide +kernel
theorem dL_hole_52 : decode cL_hole 52 = .ok (.iaload, 1) := by decide +kernel
theorem dL_hole_53 : decode cL_hole 53 = .ok (.iadd, 1) := by decide +kernel
theorem dL_hole_54 : decode cL_hole 54 = .ok (.isub, 1) := by decide +kernel
theorem dL_hole_55 : decode cL_hole 55 = .ok (.istore 6, 2) := by decide +kernel
theorem dL_hole_57 : decode cL_hole 57 = .ok (.goto (-24), 3) := by decide +kernel
theorem dL_hole_60 : decode cL_hole 60 = .ok (.iload_n 1, 1) := by decide +kernel
theorem dL_hole_61 : decode cL_hole 61 = .ok (.iload 4, 2) := by decide +kernel
theorem dL_hole_63 : decode cL_hole 63 = .ok (.if_icmp .eq 17, 3) := by decide +kernel
theorem dL_hole_66 : decode cL_hole 66 = .ok (.iload_n 1, 1) := by decide +kernel
theorem dL_hole_67 : decode cL_hole 67 = .ok (.iload 5, 2) := by decide +kernel
theorem dL_hole_69 : decode cL_hole 69 = .ok (.if_icmp .eq 11, 3) := by decide +kernel
theorem dL_hole_72 : decode cL_hole 72 = .ok (.iload 6, 2) := by decide +kernel
theorem dL_hole_74 : decode cL_hole 74 = .ok (.aload_n 2, 1) := by decide +kernel
theorem dL_hole_75 : decode cL_hole 75 = .ok (.iconst 0, 1) := by decide +kernel
theorem dL_hole_76 : decode cL_hole 76 = .ok (.iaload, 1) := by decide +kernel
theorem dL_hole_77 : decode cL_hole 77 = .ok (.if_icmp .ge 7, 3) := by decide +kernel
theorem dL_hole_80 : decode cL_hole 80 = .ok (.iconst 1, 1) := by decide +kernel
theorem dL_hole_81 : decode cL_hole 81 = .ok (.goto 4, 3) := by decide +kernel
theorem dL_hole_84 : decode cL_hole 84 = .ok (.iconst 0, 1) := by decide +kernel
theorem dL_hole_85 : decode cL_hole 85 = .ok (.ireturn, 1) := by decide +kernel
set_option maxRecDepth 20000 in
theorem ggL_holes_L_hole : GoodIn wsL_holes wsL_hole := goodIn_r _ [4] (by decide +kernel) (by decide +kernel)
set_option maxRecDepth 20000 in
theorem gL_holes_L_hole : GoodIn wsL_holes (va_wsS RL 10 yL_hole wsL_hole) := goodIn_app (goodIn_of _ (by decide +kernel)) ggL_holes_L_hole
theorem dL_holes_0 : decode cL_holes 0 = .ok (.iconst 0, 1) := by decide +kernel
theorem dL_holes_1 : decode cL_holes 1 = .ok (.istore_n 3, 1) := by decide +kernel
theorem dL_holes_2 : decode cL_holes 2 = .ok (.iload_n 3, 1) := by decide +kernel
theorem dL_holes_3 : decode cL_holes 3 = .ok (.bipush 64, 2) := by decide +kernel
theorem dL_holes_5 : decode cL_holes 5 = .ok (.if_icmp .ge 13, 3) := by decide +kernel
theorem dL_holes_8 : decode cL_holes 8 = .ok (.aload_n 2, 1) := by decide +kernel
theorem dL_holes_9 : decode cL_holes 9 = .ok (.iload_n 3, 1) := by decide +kernel
theorem dL_holes_10 : decode cL_holes 10 = .ok (.iconst 0, 1) := by decide +kernel
theorem dL_holes_11 : decode cL_holes 11 = .ok (.iastore, 1) := by decide +kernel
theorem dL_holes_12 : decode cL_holes 12 = .ok (.iinc 3 1, 3) := by decide +kernel
theorem dL_holes_15 : decode cL_holes 15 = .ok (.goto (-13), 3) := by decide +kernel
theorem dL_holes_18 : decode cL_holes 18 = .ok (.iconst 0, 1) := by decide +kernel
theorem dL_holes_19 : decode cL_holes 19 = .ok (.istore_n 3, 1) := by decide +kernel
theorem dL_holes_20 : decode cL_holes 20 = .ok (.iload_n 3, 1) := by decide +kernel
theorem dL_holes_21 : decode cL_holes 21 = .ok (.aload_n 0, 1) := by decide +kernel
theorem dL_holes_22 : decode cL_holes 22 = .ok (.iconst 4, 1) := by decide +kernel
theorem dL_holes_23 : decode cL_holes 23 = .ok (.iaload, 1) := by decide +kernel
theorem dL_holes_24 : decode cL_holes 24 = .ok (.if_icmp .ge 111, 3) := by decide +kernel
theorem dL_holes_27 : decode cL_holes 27 = .ok (.aload_n 1, 1) := by decide +kernel
theorem dL_holes_28 : decode cL_holes 28 = .ok (.iconst 5, 1) := by decide +kernel
theorem dL_holes_29 : decode cL_holes 29 = .ok (.iload_n 3, 1) := by decide +kernel
theorem dL_holes_30 : decode cL_holes 30 = .ok (.imul, 1) := by decide +kernel
theorem dL_holes_31 : decode cL_holes 31 = .ok (.iaload, 1) := by decide +kernel
theorem dL_holes_32 : decode cL_holes 32 = .ok (.bipush 100, 2) := by decide +kernel
theorem dL_holes_34 : decode cL_holes 34 = .ok (.irem, 1) := by decide +kernel
theorem dL_holes_35 : decode cL_holes 35 = .ok (.istore 4, 2) := by decide +kernel
theorem dL_holes_37 : decode cL_holes 37 = .ok (.aload_n 1, 1) := by decide +kernel
theorem dL_holes_38 : decode cL_holes 38 = .ok (.iconst 5, 1) := by decide +kernel
theorem dL_holes_39 : decode cL_holes 39 = .ok (.iload_n 3, 1) := by decide +kernel
theorem dL_holes_40 : decode cL_holes 40 = .ok (.imul, 1) := by decide +kernel
theorem dL_holes_41 : decode cL_holes 41 = .ok (.iaload, 1) := by decide +kernel
theorem dL_holes_42 : decode cL_holes 42 = .ok (.bipush 100, 2) := by decide +kernel
theorem dL_holes_44 : decode cL_holes 44 = .ok (.idiv, 1) := by decide +kernel
theorem dL_holes_45 : decode cL_holes 45 = .ok (.istore 5, 2) := by decide +kernel
theorem dL_holes_47 : decode cL_holes 47 = .ok (.iload 5, 2) := by decide +kernel
theorem dL_holes_49 : decode cL_holes 49 = .ok (.aload_n 1, 1) := by decide +kernel
theorem dL_holes_50 : decode cL_holes 50 = .ok (.iconst 5, 1) := by decide +kernel
theorem dL_holes_51 : decode cL_holes 51 = .ok (.iload_n 3, 1) := by decide +kernel
theorem dL_holes_52 : decode cL_holes 52 = .ok (.imul, 1) := by decide +kernel
theorem dL_holes_53 : decode cL_holes 53 = .ok (.iconst 1, 1) := by decide +kernel
theorem dL_holes_54 : decode cL_holes 54 = .ok (.iadd, 1) := by decide +kernel
theorem dL_holes_55 : decode cL_holes 55 = .ok (.iaload, 1) := by decide +kernel
theorem dL_holes_56 : decode cL_holes 56 = .ok (.if_icmp .gt 31, 3) := by decide +kernel
theorem dL_holes_59 : decode cL_holes 59 = .ok (.iload_n 3, 1) := by decide +kernel
theorem dL_holes_60 : decode cL_holes 60 = .ok (.iload 5, 2) := by decide +kernel
theorem dL_holes_62 : decode cL_holes 62 = .ok (.aload_n 0, 1) := by decide +kernel
theorem dL_holes_63 : decode cL_holes 63 = .ok (.aload_n 1, 1) := by decide +kernel
theorem dL_holes_64 : decode cL_holes 64 = .ok (.invokestatic 10, 3) := by decide +kernel
theorem dL_holes_67 : decode cL_holes 67 = .ok (.ifCond .eq 14, 3) := by decide +kernel
theorem dL_holes_70 : decode cL_holes 70 = .ok (.aload_n 2, 1) := by decide +kernel
theorem dL_holes_71 : decode cL_holes 71 = .ok (.iload 5, 2) := by decide +kernel
theorem dL_holes_73 : decode cL_holes 73 = .ok (.dup2, 1) := by decide +kernel
theorem dL_holes_74 : decode cL_holes 74 = .ok (.iaload, 1) := by decide +kernel
theorem dL_holes_75 : decode cL_holes 75 = .ok (.iconst 1, 1) := by decide +kernel
theorem dL_holes_76 : decode cL_holes 76 = .ok (.iload 4, 2) := by decide +kernel
theorem dL_holes_78 : decode cL_holes 78 = .ok (.ishl, 1) := by decide +kernel
theorem dL_holes_79 : decode cL_holes 79 = .ok (.ior, 1) := by decide +kernel
theorem dL_holes_80 : decode cL_holes 80 = .ok (.iastore, 1) := by decide +kernel
theorem dL_holes_81 : decode cL_holes 81 = .ok (.iinc 5 1, 3) := by decide +kernel
theorem dL_holes_84 : decode cL_holes 84 = .ok (.goto (-37), 3) := by decide +kernel
theorem dL_holes_87 : decode cL_holes 87 = .ok (.aload_n 1, 1) := by decide +kernel
theorem dL_holes_88 : decode cL_holes 88 = .ok (.iconst 5, 1) := by decide +kernel
theorem dL_holes_89 : decode cL_holes 89 = .ok (.iload_n 3, 1) := by decide +kernel
theorem dL_holes_90 : decode cL_holes 90 = .ok (.imul, 1) := by decide +kernel
theorem dL_holes_91 : decode cL_holes 91 = .ok (.iconst 3, 1) := by decide +kernel
theorem dL_holes_92 : decode cL_holes 92 = .ok (.iadd, 1) := by decide +kernel
theorem dL_holes_93 : decode cL_holes 93 = .ok (.iaload, 1) := by decide +kernel
theorem dL_holes_94 : decode cL_holes 94 = .ok (.iconst 1, 1) := by decide +kernel
theorem dL_holes_95 : decode cL_holes 95 = .ok (.if_icmp .ne 34, 3) := by decide +kernel
theorem dL_holes_98 : decode cL_holes 98 = .ok (.aload_n 2, 1) := by decide +kernel
theorem dL_holes_99 : decode cL_holes 99 = .ok (.aload_n 1, 1) := by decide +kernel
theorem dL_holes_100 : decode cL_holes 100 = .ok (.iconst 5, 1) := by decide +kernel
theorem dL_holes_101 : decode cL_holes 101 = .ok (.iload_n 3, 1) := by decide +kernel
theorem dL_holes_102 : decode cL_holes 102 = .ok (.imul, 1) := by decide +kernel
theorem dL_holes_103 : decode cL_holes 103 = .ok (.iaload, 1) := by decide +kernel
theorem dL_holes_104 : decode cL_holes 104 = .ok (.bipush 100, 2) := by decide +kernel
theorem dL_holes_106 : decode cL_holes 106 = .ok (.idiv, 1) := by decide +kernel
theorem dL_holes_107 : decode cL_holes 107 = .ok (.dup2, 1) := by decide +kernel
theorem dL_holes_108 : decode cL_holes 108 = .ok (.iaload, 1) := by decide +kernel
theorem dL_holes_109 : decode cL_holes 109 = .ok (.iconst 1, 1) := by decide +kernel
theorem dL_holes_110 : decode cL_holes 110 = .ok (.iload 4, 2) := by decide +kernel
theorem dL_holes_112 : decode cL_holes 112 = .ok (.bipush 11, 2) := by decide +kernel
theorem dL_holes_114 : decode cL_holes 114 = .ok (.if_icmp .ne 8, 3) := by decide +kernel
theorem dL_holes_117 : decode cL_holes 117 = .ok (.bipush 10, 2) := by decide +kernel
theorem dL_holes_119 : decode cL_holes 119 = .ok (.goto 7, 3) := by decide +kernel
theorem dL_holes_122 : decode cL_holes 122 = .ok (.iload 4, 2) := by decide +kernel
theorem dL_holes_124 : decode cL_holes 124 = .ok (.iconst 1, 1) := by decide +kernel
theorem dL_holes_125 : decode cL_holes 125 = .ok (.iadd, 1) := by decide +kernel
theorem dL_holes_126 : decode cL_holes 126 = .ok (.ishl, 1) := by decide +kernel
theorem dL_holes_127 : decode cL_holes 127 = .ok (.ior, 1) := by decide +kernel
theorem dL_holes_128 : decode cL_holes 128 = .ok (.iastore, 1) := by decide +kernel
theorem dL_holes_129 : decode cL_holes 129 = .ok (.iinc 3 1, 3) := by decide +kernel
theorem dL_holes_132 : decode cL_holes 132 = .ok (.goto (-112), 3) := by decide +kernel
theorem dL_holes_135 : decode cL_holes 135 = .ok (.return_, 1) := by decide +kernel
theorem dL_side_0 : decode cL_side 0 = .ok (.iconst 0, 1) := by decide +kernel
theorem dL_side_1 : decode cL_side 1 = .ok (.istore_n 1, 1) := by decide +kernel
theorem dL_side_2 : decode cL_side 2 = .ok (.iload_n 0, 1) := by decide +kernel
theorem dL_side_3 : decode cL_side 3 = .ok (.istore_n 2, 1) := by decide +kernel
theorem dL_side_4 : decode cL_side 4 = .ok (.iload_n 2, 1) := by decide +kernel
theorem dL_side_5 : decode cL_side 5 = .ok (.ifCond .eq 15, 3) := by decide +kernel
theorem dL_side_8 : decode cL_side 8 = .ok (.iinc 1 1, 3) := by decide +kernel
theorem dL_side_11 : decode cL_side 11 = .ok (.iload_n 2, 1) := by decide +kernel
theorem dL_side_12 : decode cL_side 12 = .ok (.iload_n 2, 1) := by decide +kernel
theorem dL_side_13 : decode cL_side 13 = .ok (.iconst 1, 1) := by decide +kernel
theorem dL_side_14 : decode cL_side 14 = .ok (.ishr, 1) := by decide +kernel
theorem dL_side_15 : decode cL_side 15 = .ok (.iand, 1) := by decide +kernel
theorem dL_side_16 : decode cL_side 16 = .ok (.istore_n 2, 1) := by decide +kernel
theorem dL_side_17 : decode cL_side 17 = .ok (.goto (-13), 3) := by decide +kernel
theorem dL_side_20 : decode cL_side 20 = .ok (.iload_n 1, 1) := by decide +kernel
theorem dL_side_21 : decode cL_side 21 = .ok (.ireturn, 1) := by decide +kernel
theorem dL_heard_0 : decode cL_heard 0 = .ok (.iconst 0, 1) := by decide +kernel
theorem dL_heard_1 : decode cL_heard 1 = .ok (.istore_n 3, 1) := by decide +kernel
theorem dL_heard_2 : decode cL_heard 2 = .ok (.iload_n 0, 1) := by decide +kernel
theorem dL_heard_3 : decode cL_heard 3 = .ok (.istore 4, 2) := by decide +kernel
theorem dL_heard_5 : decode cL_heard 5 = .ok (.iload 4, 2) := by decide +kernel
theorem dL_heard_7 : decode cL_heard 7 = .ok (.ifCond .lt 26, 3) := by decide +kernel
theorem dL_heard_10 : decode cL_heard 10 = .ok (.iload 4, 2) := by decide +kernel
theorem dL_heard_12 : decode cL_heard 12 = .ok (.iload_n 0, 1) := by decide +kernel
theorem dL_heard_13 : decode cL_heard 13 = .ok (.aload_n 1, 1) := by decide +kernel
theorem dL_heard_14 : decode cL_heard 14 = .ok (.iconst 2, 1) := by decide +kernel
theorem dL_heard_15 : decode cL_heard 15 = .ok (.iaload, 1) := by decide +kernel
theorem dL_heard_16 : decode cL_heard 16 = .ok (.isub, 1) := by decide +kernel
theorem dL_heard_17 : decode cL_heard 17 = .ok (.if_icmp .lt 16, 3) := by decide +kernel
theorem dL_heard_20 : decode cL_heard 20 = .ok (.iload_n 3, 1) := by decide +kernel
theorem dL_heard_21 : decode cL_heard 21 = .ok (.aload_n 2, 1) := by decide +kernel
theorem dL_heard_22 : decode cL_heard 22 = .ok (.iload 4, 2) := by decide +kernel
theorem dL_heard_24 : decode cL_heard 24 = .ok (.iaload, 1) := by decide +kernel
theorem dL_heard_25 : decode cL_heard 25 = .ok (.ior, 1) := by decide +kernel
theorem dL_heard_26 : decode cL_heard 26 = .ok (.istore_n 3, 1) := by decide +kernel
theorem dL_heard_27 : decode cL_heard 27 = .ok (.iinc 4 (-1), 3) := by decide +kernel
theorem dL_heard_30 : decode cL_heard 30 = .ok (.goto (-25), 3) := by decide +kernel
theorem dL_heard_33 : decode cL_heard 33 = .ok (.iload_n 3, 1) := by decide +kernel
theorem dL_heard_34 : decode cL_heard 34 = .ok (.ireturn, 1) := by decide +kernel
set_option maxRecDepth 20000 in
theorem ggL_weak_L_holes : GoodIn wsL_weak wsL_holes := goodIn_r _ [4, 5, 6, 3, 7] (by decide +kernel) (by decide +kernel)
set_option maxRecDepth 20000 in
theorem gL_weak_L_holes : GoodIn wsL_weak (va_wsS RL 16 yL_holes wsL_holes) := goodIn_app (goodIn_of _ (by decide +kernel)) ggL_weak_L_holes
set_option maxRecDepth 20000 in
theorem ggL_weak_L_side : GoodIn wsL_weak wsL_side := goodIn_r _ [10] (by decide +kernel) (by decide +kernel)
set_option maxRecDepth 20000 in
theorem gL_weak_L_side : GoodIn wsL_weak (va_wsS RL 20 yL_side wsL_side) := goodIn_app (goodIn_of _ (by decide +kernel)) ggL_weak_L_side
theorem dL_weak_0 : decode cL_weak 0 = .ok (.aload_n 0, 1) := by decide +kernel
theorem dL_weak_1 : decode cL_weak 1 = .ok (.aload_n 1, 1) := by decide +kernel
theorem dL_weak_2 : decode cL_weak 2 = .ok (.aload_n 2, 1) := by decide +kernel
theorem dL_weak_3 : decode cL_weak 3 = .ok (.invokestatic 16, 3) := by decide +kernel
theorem dL_weak_6 : decode cL_weak 6 = .ok (.iconst 0, 1) := by decide +kernel
theorem dL_weak_7 : decode cL_weak 7 = .ok (.istore_n 3, 1) := by decide +kernel
theorem dL_weak_8 : decode cL_weak 8 = .ok (.iconst 0, 1) := by decide +kernel
theorem dL_weak_9 : decode cL_weak 9 = .ok (.istore 4, 2) := by decide +kernel
theorem dL_weak_11 : decode cL_weak 11 = .ok (.iload 4, 2) := by decide +kernel
theorem dL_weak_13 : decode cL_weak 13 = .ok (.bipush 64, 2) := by decide +kernel
theorem dL_weak_15 : decode cL_weak 15 = .ok (.if_icmp .ge 30, 3) := by decide +kernel
theorem dL_weak_18 : decode cL_weak 18 = .ok (.iload_n 3, 1) := by decide +kernel
theorem dL_weak_19 : decode cL_weak 19 = .ok (.aload_n 2, 1) := by decide +kernel
theorem dL_weak_20 : decode cL_weak 20 = .ok (.iload 4, 2) := by decide +kernel
theorem dL_weak_22 : decode cL_weak 22 = .ok (.iaload, 1) := by decide +kernel
theorem dL_weak_23 : decode cL_weak 23 = .ok (.invokestatic 20, 3) := by decide +kernel
theorem dL_weak_26 : decode cL_weak 26 = .ok (.aload_n 0, 1) := by decide +kernel
theorem dL_weak_27 : decode cL_weak 27 = .ok (.iconst 3, 1) := by decide +kernel
theorem dL_weak_28 : decode cL_weak 28 = .ok (.iaload, 1) := by decide +kernel
theorem dL_weak_29 : decode cL_weak 29 = .ok (.if_icmp .lt 7, 3) := by decide +kernel
theorem dL_weak_32 : decode cL_weak 32 = .ok (.iconst 1, 1) := by decide +kernel
theorem dL_weak_33 : decode cL_weak 33 = .ok (.goto 4, 3) := by decide +kernel
theorem dL_weak_36 : decode cL_weak 36 = .ok (.iconst 0, 1) := by decide +kernel
theorem dL_weak_37 : decode cL_weak 37 = .ok (.iadd, 1) := by decide +kernel
theorem dL_weak_38 : decode cL_weak 38 = .ok (.istore_n 3, 1) := by decide +kernel
theorem dL_weak_39 : decode cL_weak 39 = .ok (.iinc 4 1, 3) := by decide +kernel
theorem dL_weak_42 : decode cL_weak 42 = .ok (.goto (-31), 3) := by decide +kernel
theorem dL_weak_45 : decode cL_weak 45 = .ok (.iload_n 3, 1) := by decide +kernel
theorem dL_weak_46 : decode cL_weak 46 = .ok (.ireturn, 1) := by decide +kernel
theorem dL_taken_0 : decode cL_taken 0 = .ok (.iconst 0, 1) := by decide +kernel
theorem dL_taken_1 : decode cL_taken 1 = .ok (.istore 5, 2) := by decide +kernel
theorem dL_taken_3 : decode cL_taken 3 = .ok (.iload 5, 2) := by decide +kernel
theorem dL_taken_5 : decode cL_taken 5 = .ok (.aload_n 3, 1) := by decide +kernel
theorem dL_taken_6 : decode cL_taken 6 = .ok (.iconst 4, 1) := by decide +kernel
theorem dL_taken_7 : decode cL_taken 7 = .ok (.iaload, 1) := by decide +kernel
theorem dL_taken_8 : decode cL_taken 8 = .ok (.if_icmp .ge 52, 3) := by decide +kernel
theorem dL_taken_11 : decode cL_taken 11 = .ok (.aload 4, 2) := by decide +kernel
theorem dL_taken_13 : decode cL_taken 13 = .ok (.iconst 5, 1) := by decide +kernel
theorem dL_taken_14 : decode cL_taken 14 = .ok (.iload 5, 2) := by decide +kernel
theorem dL_taken_16 : decode cL_taken 16 = .ok (.imul, 1) := by decide +kernel
theorem dL_taken_17 : decode cL_taken 17 = .ok (.iaload, 1) := by decide +kernel
theorem dL_taken_18 : decode cL_taken 18 = .ok (.bipush 100, 2) := by decide +kernel
theorem dL_taken_20 : decode cL_taken 20 = .ok (.irem, 1) := by decide +kernel
theorem dL_taken_21 : decode cL_taken 21 = .ok (.iload_n 0, 1) := by decide +kernel
theorem dL_taken_22 : decode cL_taken 22 = .ok (.if_icmp .ne 32, 3) := by decide +kernel
theorem dL_taken_25 : decode cL_taken 25 = .ok (.aload 4, 2) := by decide +kernel
theorem dL_taken_27 : decode cL_taken 27 = .ok (.iconst 5, 1) := by decide +kernel
theorem dL_taken_28 : decode cL_taken 28 = .ok (.iload 5, 2) := by decide +kernel
theorem dL_taken_30 : decode cL_taken 30 = .ok (.imul, 1) := by decide +kernel
theorem dL_taken_31 : decode cL_taken 31 = .ok (.iaload, 1) := by decide +kernel
theorem dL_taken_32 : decode cL_taken 32 = .ok (.bipush 100, 2) := by decide +kernel
theorem dL_taken_34 : decode cL_taken 34 = .ok (.idiv, 1) := by decide +kernel
theorem dL_taken_35 : decode cL_taken 35 = .ok (.iload_n 2, 1) := by decide +kernel
theorem dL_taken_36 : decode cL_taken 36 = .ok (.if_icmp .gt 18, 3) := by decide +kernel
theorem dL_taken_39 : decode cL_taken 39 = .ok (.aload 4, 2) := by decide +kernel
theorem dL_taken_41 : decode cL_taken 41 = .ok (.iconst 5, 1) := by decide +kernel
theorem dL_taken_42 : decode cL_taken 42 = .ok (.iload 5, 2) := by decide +kernel
theorem dL_taken_44 : decode cL_taken 44 = .ok (.imul, 1) := by decide +kernel
theorem dL_taken_45 : decode cL_taken 45 = .ok (.iconst 1, 1) := by decide +kernel
theorem dL_taken_46 : decode cL_taken 46 = .ok (.iadd, 1) := by decide +kernel
theorem dL_taken_47 : decode cL_taken 47 = .ok (.iaload, 1) := by decide +kernel
theorem dL_taken_48 : decode cL_taken 48 = .ok (.iload_n 1, 1) := by decide +kernel
theorem dL_taken_49 : decode cL_taken 49 = .ok (.if_icmp .lt 5, 3) := by decide +kernel
theorem dL_taken_52 : decode cL_taken 52 = .ok (.iconst 1, 1) := by decide +kernel
theorem dL_taken_53 : decode cL_taken 53 = .ok (.ireturn, 1) := by decide +kernel
theorem dL_taken_54 : decode cL_taken 54 = .ok (.iinc 5 1, 3) := by decide +kernel
theorem dL_taken_57 : decode cL_taken 57 = .ok (.goto (-54), 3) := by decide +kernel
theorem dL_taken_60 : decode cL_taken 60 = .ok (.iconst 0, 1) := by decide +kernel
theorem dL_taken_61 : decode cL_taken 61 = .ok (.ireturn, 1) := by decide +kernel
theorem dL_sort_0 : decode cL_sort 0 = .ok (.iconst 0, 1) := by decide +kernel
theorem dL_sort_1 : decode cL_sort 1 = .ok (.istore_n 2, 1) := by decide +kernel
theorem dL_sort_2 : decode cL_sort 2 = .ok (.iload_n 2, 1) := by decide +kernel
theorem dL_sort_3 : decode cL_sort 3 = .ok (.aload_n 0, 1) := by decide +kernel
theorem dL_sort_4 : decode cL_sort 4 = .ok (.iconst 4, 1) := by decide +kernel
theorem dL_sort_5 : decode cL_sort 5 = .ok (.iaload, 1) := by decide +kernel
theorem dL_sort_6 : decode cL_sort 6 = .ok (.if_icmp .ge 99, 3) := by decide +kernel
theorem dL_sort_9 : decode cL_sort 9 = .ok (.iconst 0, 1) := by decide +kernel
theorem dL_sort_10 : decode cL_sort 10 = .ok (.istore_n 3, 1) := by decide +kernel
theorem dL_sort_11 : decode cL_sort 11 = .ok (.iload_n 3, 1) := by decide +kernel
theorem dL_sort_12 : decode cL_sort 12 = .ok (.iconst 1, 1) := by decide +kernel
theorem dL_sort_13 : decode cL_sort 13 = .ok (.iadd, 1) := by decide +kernel
theorem dL_sort_14 : decode cL_sort 14 = .ok (.aload_n 0, 1) := by decide +kernel
theorem dL_sort_15 : decode cL_sort 15 = .ok (.iconst 4, 1) := by decide +kernel
theorem dL_sort_16 : decode cL_sort 16 = .ok (.iaload, 1) := by decide +kernel
theorem dL_sort_17 : decode cL_sort 17 = .ok (.if_icmp .ge 82, 3) := by decide +kernel
theorem dL_sort_20 : decode cL_sort 20 = .ok (.aload_n 1, 1) := by decide +kernel
theorem dL_sort_21 : decode cL_sort 21 = .ok (.iconst 5, 1) := by decide +kernel
theorem dL_sort_22 : decode cL_sort 22 = .ok (.iload_n 3, 1) := by decide +kernel
theorem dL_sort_23 : decode cL_sort 23 = .ok (.imul, 1) := by decide +kernel
theorem dL_sort_24 : decode cL_sort 24 = .ok (.iaload, 1) := by decide +kernel
theorem dL_sort_25 : decode cL_sort 25 = .ok (.aload_n 1, 1) := by decide +kernel
theorem dL_sort_26 : decode cL_sort 26 = .ok (.iconst 5, 1) := by decide +kernel
theorem dL_sort_27 : decode cL_sort 27 = .ok (.iload_n 3, 1) := by decide +kernel
theorem dL_sort_28 : decode cL_sort 28 = .ok (.imul, 1) := by decide +kernel
theorem dL_sort_29 : decode cL_sort 29 = .ok (.iconst 5, 1) := by decide +kernel
theorem dL_sort_30 : decode cL_sort 30 = .ok (.iadd, 1) := by decide +kernel
theorem dL_sort_31 : decode cL_sort 31 = .ok (.iaload, 1) := by decide +kernel
theorem dL_sort_32 : decode cL_sort 32 = .ok (.if_icmp .gt 6, 3) := by decide +kernel
theorem dL_sort_35 : decode cL_sort 35 = .ok (.goto 58, 3) := by decide +kernel
theorem dL_sort_38 : decode cL_sort 38 = .ok (.iconst 0, 1) := by decide +kernel
theorem dL_sort_39 : decode cL_sort 39 = .ok (.istore 4, 2) := by decide +kernel
theorem dL_sort_41 : decode cL_sort 41 = .ok (.iload 4, 2) := by decide +kernel
theorem dL_sort_43 : decode cL_sort 43 = .ok (.iconst 4, 1) := by decide +kernel
theorem dL_sort_44 : decode cL_sort 44 = .ok (.if_icmp .ge 49, 3) := by decide +kernel
theorem dL_sort_47 : decode cL_sort 47 = .ok (.aload_n 1, 1) := by decide +kernel
theorem dL_sort_48 : decode cL_sort 48 = .ok (.iconst 5, 1) := by decide +kernel
theorem dL_sort_49 : decode cL_sort 49 = .ok (.iload_n 3, 1) := by decide +kernel
theorem dL_sort_50 : decode cL_sort 50 = .ok (.imul, 1) := by decide +kernel
theorem dL_sort_51 : decode cL_sort 51 = .ok (.iload 4, 2) := by decide +kernel
theorem dL_sort_53 : decode cL_sort 53 = .ok (.iadd, 1) := by decide +kernel
theorem dL_sort_54 : decode cL_sort 54 = .ok (.iaload, 1) := by decide +kernel
theorem dL_sort_55 : decode cL_sort 55 = .ok (.istore 5, 2) := by decide +kernel
theorem dL_sort_57 : decode cL_sort 57 = .ok (.aload_n 1, 1) := by decide +kernel
theorem dL_sort_58 : decode cL_sort 58 = .ok (.iconst 5, 1) := by decide +kernel
theorem dL_sort_59 : decode cL_sort 59 = .ok (.iload_n 3, 1) := by decide +kernel
theorem dL_sort_60 : decode cL_sort 60 = .ok (.imul, 1) := by decide +kernel
theorem dL_sort_61 : decode cL_sort 61 = .ok (.iload 4, 2) := by decide +kernel
theorem dL_sort_63 : decode cL_sort 63 = .ok (.iadd, 1) := by decide +kernel
theorem dL_sort_64 : decode cL_sort 64 = .ok (.aload_n 1, 1) := by decide +kernel
theorem dL_sort_65 : decode cL_sort 65 = .ok (.iconst 5, 1) := by decide +kernel
theorem dL_sort_66 : decode cL_sort 66 = .ok (.iload_n 3, 1) := by decide +kernel
theorem dL_sort_67 : decode cL_sort 67 = .ok (.imul, 1) := by decide +kernel
theorem dL_sort_68 : decode cL_sort 68 = .ok (.iconst 5, 1) := by decide +kernel
theorem dL_sort_69 : decode cL_sort 69 = .ok (.iadd, 1) := by decide +kernel
theorem dL_sort_70 : decode cL_sort 70 = .ok (.iload 4, 2) := by decide +kernel
theorem dL_sort_72 : decode cL_sort 72 = .ok (.iadd, 1) := by decide +kernel
theorem dL_sort_73 : decode cL_sort 73 = .ok (.iaload, 1) := by decide +kernel
theorem dL_sort_74 : decode cL_sort 74 = .ok (.iastore, 1) := by decide +kernel
theorem dL_sort_75 : decode cL_sort 75 = .ok (.aload_n 1, 1) := by decide +kernel
theorem dL_sort_76 : decode cL_sort 76 = .ok (.iconst 5, 1) := by decide +kernel
theorem dL_sort_77 : decode cL_sort 77 = .ok (.iload_n 3, 1) := by decide +kernel
theorem dL_sort_78 : decode cL_sort 78 = .ok (.imul, 1) := by decide +kernel
theorem dL_sort_79 : decode cL_sort 79 = .ok (.iconst 5, 1) := by decide +kernel
theorem dL_sort_80 : decode cL_sort 80 = .ok (.iadd, 1) := by decide +kernel
theorem dL_sort_81 : decode cL_sort 81 = .ok (.iload 4, 2) := by decide +kernel
theorem dL_sort_83 : decode cL_sort 83 = .ok (.iadd, 1) := by decide +kernel
theorem dL_sort_84 : decode cL_sort 84 = .ok (.iload 5, 2) := by decide +kernel
theorem dL_sort_86 : decode cL_sort 86 = .ok (.iastore, 1) := by decide +kernel
theorem dL_sort_87 : decode cL_sort 87 = .ok (.iinc 4 1, 3) := by decide +kernel
theorem dL_sort_90 : decode cL_sort 90 = .ok (.goto (-49), 3) := by decide +kernel
theorem dL_sort_93 : decode cL_sort 93 = .ok (.iinc 3 1, 3) := by decide +kernel
theorem dL_sort_96 : decode cL_sort 96 = .ok (.goto (-85), 3) := by decide +kernel
theorem dL_sort_99 : decode cL_sort 99 = .ok (.iinc 2 1, 3) := by decide +kernel
theorem dL_sort_102 : decode cL_sort 102 = .ok (.goto (-100), 3) := by decide +kernel
theorem dL_sort_105 : decode cL_sort 105 = .ok (.return_, 1) := by decide +kernel
theorem dL_add_0 : decode cL_add 0 = .ok (.iconst 5, 1) := by decide +kernel
theorem dL_add_1 : decode cL_add 1 = .ok (.aload 5, 2) := by decide +kernel
theorem dL_add_3 : decode cL_add 3 = .ok (.iconst 4, 1) := by decide +kernel
theorem dL_add_4 : decode cL_add 4 = .ok (.dup2, 1) := by decide +kernel
theorem dL_add_5 : decode cL_add 5 = .ok (.iaload, 1) := by decide +kernel
theorem dL_add_6 : decode cL_add 6 = .ok (.dup_x2, 1) := by decide +kernel
theorem dL_add_7 : decode cL_add 7 = .ok (.iconst 1, 1) := by decide +kernel
theorem dL_add_8 : decode cL_add 8 = .ok (.iadd, 1) := by decide +kernel
theorem dL_add_9 : decode cL_add 9 = .ok (.iastore, 1) := by decide +kernel
theorem dL_add_10 : decode cL_add 10 = .ok (.imul, 1) := by decide +kernel
theorem dL_add_11 : decode cL_add 11 = .ok (.istore 7, 2) := by decide +kernel
theorem dL_add_13 : decode cL_add 13 = .ok (.aload 6, 2) := by decide +kernel
theorem dL_add_15 : decode cL_add 15 = .ok (.iload 7, 2) := by decide +kernel
theorem dL_add_17 : decode cL_add 17 = .ok (.bipush 100, 2) := by decide +kernel
theorem dL_add_19 : decode cL_add 19 = .ok (.iload_n 1, 1) := by decide +kernel
theorem dL_add_20 : decode cL_add 20 = .ok (.imul, 1) := by decide +kernel
theorem dL_add_21 : decode cL_add 21 = .ok (.iload_n 0, 1) := by decide +kernel
theorem dL_add_22 : decode cL_add 22 = .ok (.iadd, 1) := by decide +kernel
theorem dL_add_23 : decode cL_add 23 = .ok (.iastore, 1) := by decide +kernel
theorem dL_add_24 : decode cL_add 24 = .ok (.aload 6, 2) := by decide +kernel
theorem dL_add_26 : decode cL_add 26 = .ok (.iload 7, 2) := by decide +kernel
theorem dL_add_28 : decode cL_add 28 = .ok (.iconst 1, 1) := by decide +kernel
theorem dL_add_29 : decode cL_add 29 = .ok (.iadd, 1) := by decide +kernel
theorem dL_add_30 : decode cL_add 30 = .ok (.iload_n 2, 1) := by decide +kernel
theorem dL_add_31 : decode cL_add 31 = .ok (.iastore, 1) := by decide +kernel
theorem dL_add_32 : decode cL_add 32 = .ok (.aload 6, 2) := by decide +kernel
theorem dL_add_34 : decode cL_add 34 = .ok (.iload 7, 2) := by decide +kernel
theorem dL_add_36 : decode cL_add 36 = .ok (.iconst 2, 1) := by decide +kernel
theorem dL_add_37 : decode cL_add 37 = .ok (.iadd, 1) := by decide +kernel
theorem dL_add_38 : decode cL_add 38 = .ok (.iload_n 3, 1) := by decide +kernel
theorem dL_add_39 : decode cL_add 39 = .ok (.iastore, 1) := by decide +kernel
theorem dL_add_40 : decode cL_add 40 = .ok (.aload 6, 2) := by decide +kernel
theorem dL_add_42 : decode cL_add 42 = .ok (.iload 7, 2) := by decide +kernel
theorem dL_add_44 : decode cL_add 44 = .ok (.iconst 3, 1) := by decide +kernel
theorem dL_add_45 : decode cL_add 45 = .ok (.iadd, 1) := by decide +kernel
theorem dL_add_46 : decode cL_add 46 = .ok (.iload 4, 2) := by decide +kernel
theorem dL_add_48 : decode cL_add 48 = .ok (.iastore, 1) := by decide +kernel
theorem dL_add_49 : decode cL_add 49 = .ok (.return_, 1) := by decide +kernel
set_option maxRecDepth 20000 in
theorem ggL_same_L_weak : GoodIn wsL_same wsL_weak := goodIn_r _ [4, 5, 6, 3, 7, 8, 9, 10, 11, 12, 13] (by decide +kernel) (by decide +kernel)
set_option maxRecDepth 20000 in
theorem gL_same_L_weak : GoodIn wsL_same (va_wsS RL 24 yL_weak wsL_weak) := goodIn_app (goodIn_of _ (by decide +kernel)) ggL_same_L_weak
set_option maxRecDepth 20000 in
theorem ggL_same_L_heard : GoodIn wsL_same wsL_heard := goodIn_r _ [16] (by decide +kernel) (by decide +kernel)
set_option maxRecDepth 20000 in
theorem gL_same_L_heard : GoodIn wsL_same (va_wsS RL 28 yL_heard wsL_heard) := goodIn_app (goodIn_of _ (by decide +kernel)) ggL_same_L_heard
set_option maxRecDepth 20000 in
theorem ggL_same_L_side : GoodIn wsL_same wsL_side := goodIn_r _ [13] (by decide +kernel) (by decide +kernel)
set_option maxRecDepth 20000 in
theorem gL_same_L_side : GoodIn wsL_same (va_wsS RL 20 yL_side wsL_side) := goodIn_app (goodIn_of _ (by decide +kernel)) ggL_same_L_side
set_option maxRecDepth 20000 in
theorem ggL_same_X4_at : GoodIn wsL_same wsX4_at := goodIn_r _ [21, 22, 23, 24, 25, 20, 26, 27, 28, 29, 30, 31, 32, 33, 34, 35, 36, 37, 38, 39, 40, 41, 42, 43, 44, 45, 46, 47, 48, 49, 50, 51, 52, 53, 54, 55, 56, 57, 58, 59, 60, 61, 62, 63, 64, 65, 66, 67, 68, 69, 70, 71, 72, 73, 74, 75, 76, 77, 78, 79, 80, 81, 82, 83, 84, 85, 86, 87, 88, 89, 90, 91, 92, 93, 94, 95, 96, 97, 98, 99, 100, 101, 102, 103, 104, 105, 106, 107, 108, 109, 110, 111, 112, 113, 114, 115, 116, 117, 118, 119, 120, 121, 122, 123, 124, 125, 126, 127, 246, 247, 248, 249, 250, 251, 252, 253, 254, 255, 256, 257, 258, 259, 260, 261, 262] (by decide +kernel) (by decide +kernel)
set_option maxRecDepth 20000 in
theorem gL_same_X4_at : GoodIn wsL_same (wsV RL 32 RX4 yX4_at wsX4_at) := goodIn_app (goodIn_of _ (by decide +kernel)) ggL_same_X4_at
set_option maxRecDepth 20000 in
theorem ggL_same_L_hole : GoodIn wsL_same wsL_hole := goodIn_r _ [10] (by decide +kernel) (by decide +kernel)
set_option maxRecDepth 20000 in
theorem gL_same_L_hole : GoodIn wsL_same (va_wsS RL 10 yL_hole wsL_hole) := goodIn_app (goodIn_of _ (by decide +kernel)) ggL_same_L_hole
set_option maxRecDepth 20000 in
theorem ggL_same_X4_of : GoodIn wsL_same wsX4_of := goodIn_r _ [131, 23, 22, 132, 58, 59, 40, 60, 51, 133, 53, 54, 55, 56, 57, 134, 62, 63, 64, 65, 135, 67, 68, 69, 70, 136, 78, 79, 80, 81, 137, 89, 90, 91, 92, 125, 126, 20, 127, 138, 139, 140, 141, 75, 76, 142, 72, 73, 74, 42, 77, 143, 144, 145, 146, 147, 98, 99, 100, 30, 31, 32, 33, 34, 35, 36, 37, 38, 39, 41, 28, 29, 43, 44, 45, 46, 47, 48, 49, 50, 52, 61, 66, 71, 82, 83, 84, 85, 86, 87, 27, 25, 26, 88, 93, 94, 95, 96, 97, 101, 102, 103, 104, 105, 148, 149, 150, 151, 152, 153, 154, 155, 156, 108, 109, 110, 246, 247, 248, 249, 250, 251, 252, 256, 257, 258, 259, 260, 261, 262, 253, 254, 255] (by decide +kernel) (by decide +kernel)
set_option maxRecDepth 20000 in
theorem gL_same_X4_of : GoodIn wsL_same (wsV RL 38 RX4 yX4_of wsX4_of) := goodIn_app (goodIn_of _ (by decide +kernel)) ggL_same_X4_of
set_option maxRecDepth 20000 in
theorem ggL_same_L_low : GoodIn wsL_same wsL_low := goodIn_r _ [159, 160] (by decide +kernel) (by decide +kernel)
set_option maxRecDepth 20000 in
theorem gL_same_L_low : GoodIn wsL_same (va_wsS RL 41 yL_low wsL_low) := goodIn_app (goodIn_of _ (by decide +kernel)) ggL_same_L_low
set_option maxRecDepth 20000 in
theorem ggL_same_X4_sound : GoodIn wsL_same wsX4_sound := goodIn_r _ [164, 22, 23, 165, 86, 20, 87, 27, 28, 29, 30, 31, 32, 33, 34, 35, 36, 37, 38, 39, 40, 41, 42, 43, 44, 45, 46, 47, 48, 49, 50, 51, 52, 53, 54, 55, 56, 57, 58, 59, 60, 61, 62, 63, 64, 65, 66, 67, 68, 69, 70, 71, 72, 73, 74, 75, 76, 77, 78, 79, 80, 81, 82, 83, 84, 85, 25, 26, 88, 89, 90, 91, 92, 93, 94, 95, 96, 97, 98, 99, 100, 101, 102, 103, 104, 105, 166, 167, 168, 169, 170, 171, 172, 173, 174, 153, 154, 155, 156, 108, 109, 110, 175, 176, 177, 178, 179, 180, 181, 182, 115, 246, 247, 248, 249, 250, 251, 252, 253, 254, 255, 256, 257, 258, 259, 260, 261, 262] (by decide +kernel) (by decide +kernel)
set_option maxRecDepth 20000 in
theorem gL_same_X4_sound : GoodIn wsL_same (wsV RL 44 RX4 yX4_sound wsX4_sound) := goodIn_app (goodIn_of _ (by decide +kernel)) ggL_same_X4_sound
set_option maxRecDepth 20000 in
theorem ggL_same_X4_swallowed : GoodIn wsL_same wsX4_swallowed := goodIn_r _ [186, 22, 23, 165, 86, 20, 87, 27, 28, 29, 30, 31, 32, 33, 34, 35, 36, 37, 38, 39, 40, 41, 42, 43, 44, 45, 46, 47, 48, 49, 50, 51, 52, 53, 54, 55, 56, 57, 58, 59, 60, 61, 62, 63, 64, 65, 66, 67, 68, 69, 70, 71, 72, 73, 74, 75, 76, 77, 78, 79, 80, 81, 82, 83, 84, 85, 25, 26, 88, 89, 90, 91, 92, 93, 94, 95, 96, 97, 98, 99, 100, 101, 102, 103, 104, 105, 187, 133, 134, 152, 153, 154, 155, 156, 108, 109, 110, 246, 247, 248, 249, 250, 251, 252, 253, 254, 255, 256, 257, 258, 259, 260, 261, 262] (by decide +kernel) (by decide +kernel)
set_option maxRecDepth 20000 in
theorem gL_same_X4_swallowed : GoodIn wsL_same (wsV RL 48 RX4 yX4_swallowed wsX4_swallowed) := goodIn_app (goodIn_of _ (by decide +kernel)) ggL_same_X4_swallowed
