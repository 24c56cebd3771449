theorem dX4_read_50 : decode cX4_read 50 = .ok (.getfield 16, 3) := by decide +kernel
theorem dX4_read_53 : decode cX4_read 53 = .ok (.aload_n 0, 1) := by decide +kernel
theorem dX4_read_54 : decode cX4_read 54 = .ok (.getfield 10, 3) := by decide +kernel
theorem dX4_read_57 : decode cX4_read 57 = .ok (.invokevirtual 127, 3) := by decide +kernel
theorem dX4_read_60 : decode cX4_read 60 = .ok (.aload_n 0, 1) := by decide +kernel
theorem dX4_read_61 : decode cX4_read 61 = .ok (.invokevirtual 154, 3) := by decide +kernel
theorem dX4_read_64 : decode cX4_read 64 = .ok (.ifCond .ne 6, 3) := by decide +kernel
theorem dX4_read_67 : decode cX4_read 67 = .ok (.bipush (-5), 2) := by decide +kernel
theorem dX4_read_69 : decode cX4_read 69 = .ok (.ireturn, 1) := by decide +kernel
theorem dX4_read_70 : decode cX4_read 70 = .ok (.aload_n 0, 1) := by decide +kernel
theorem dX4_read_71 : decode cX4_read 71 = .ok (.getfield 36, 3) := by decide +kernel
theorem dX4_read_74 : decode cX4_read 74 = .ok (.aload_n 0, 1) := by decide +kernel
theorem dX4_read_75 : decode cX4_read 75 = .ok (.getfield 10, 3) := by decide +kernel
theorem dX4_read_78 : decode cX4_read 78 = .ok (.invokevirtual 63, 3) := by decide +kernel
theorem dX4_read_81 : decode cX4_read 81 = .ok (.aload_n 0, 1) := by decide +kernel
theorem dX4_read_82 : decode cX4_read 82 = .ok (.getfield 10, 3) := by decide +kernel
theorem dX4_read_85 : decode cX4_read 85 = .ok (.aload_n 0, 1) := by decide +kernel
theorem dX4_read_86 : decode cX4_read 86 = .ok (.getfield 16, 3) := by decide +kernel
theorem dX4_read_89 : decode cX4_read 89 = .ok (.invokevirtual 127, 3) := by decide +kernel
theorem dX4_read_92 : decode cX4_read 92 = .ok (.aload_n 0, 1) := by decide +kernel
theorem dX4_read_93 : decode cX4_read 93 = .ok (.getfield 29, 3) := by decide +kernel
theorem dX4_read_96 : decode cX4_read 96 = .ok (.invokevirtual 157, 3) := by decide +kernel
theorem dX4_read_99 : decode cX4_read 99 = .ok (.aload_n 0, 1) := by decide +kernel
theorem dX4_read_100 : decode cX4_read 100 = .ok (.getfield 10, 3) := by decide +kernel
theorem dX4_read_103 : decode cX4_read 103 = .ok (.invokevirtual 78, 3) := by decide +kernel
theorem dX4_read_106 : decode cX4_read 106 = .ok (.ireturn, 1) := by decide +kernel
set_option maxRecDepth 20000 in
theorem ggX4_of_X3_has : GoodIn wsX4_of wsX3_has := goodIn_r _ [7, 8, 123, 124, 125, 126, 127, 128, 129] (by decide +kernel) (by decide +kernel)
set_option maxRecDepth 20000 in
theorem gX4_of_X3_has : GoodIn wsX4_of (wsV RX4 89 RX3 yX3_has wsX3_has) := goodIn_app (goodIn_of _ (by decide +kernel)) ggX4_of_X3_has
set_option maxRecDepth 20000 in
theorem ggX4_of_X3_trackOf : GoodIn wsX4_of wsX3_trackOf := goodIn_r _ [12, 13, 14, 4, 5, 6, 7, 8, 123, 124, 125, 126, 127, 128, 129] (by decide +kernel) (by decide +kernel)
set_option maxRecDepth 20000 in
theorem gX4_of_X3_trackOf : GoodIn wsX4_of (wsV RX4 160 RX3 yX3_trackOf wsX3_trackOf) := goodIn_app (goodIn_of _ (by decide +kernel)) ggX4_of_X3_trackOf
set_option maxRecDepth 20000 in
theorem ggX4_of_X3_firstOf : GoodIn wsX4_of wsX3_firstOf := goodIn_r _ [18, 19, 14, 4, 5, 6, 7, 8, 123, 124, 125, 126, 127, 128, 129] (by decide +kernel) (by decide +kernel)
set_option maxRecDepth 20000 in
theorem gX4_of_X3_firstOf : GoodIn wsX4_of (wsV RX4 163 RX3 yX3_firstOf wsX3_firstOf) := goodIn_app (goodIn_of _ (by decide +kernel)) ggX4_of_X3_firstOf
set_option maxRecDepth 20000 in
theorem ggX4_of_X3_lastOf : GoodIn wsX4_of wsX3_lastOf := goodIn_r _ [23, 24, 14, 4, 5, 6, 7, 8, 123, 124, 125, 126, 127, 128, 129] (by decide +kernel) (by decide +kernel)
set_option maxRecDepth 20000 in
theorem gX4_of_X3_lastOf : GoodIn wsX4_of (wsV RX4 166 RX3 yX3_lastOf wsX3_lastOf) := goodIn_app (goodIn_of _ (by decide +kernel)) ggX4_of_X3_lastOf
set_option maxRecDepth 20000 in
theorem ggX4_of_X3_shiftOf : GoodIn wsX4_of wsX3_shiftOf := goodIn_r _ [28, 29, 14, 4, 5, 6, 7, 8, 123, 124, 125, 126, 127, 128, 129] (by decide +kernel) (by decide +kernel)
set_option maxRecDepth 20000 in
theorem gX4_of_X3_shiftOf : GoodIn wsX4_of (wsV RX4 96 RX3 yX3_shiftOf wsX3_shiftOf) := goodIn_app (goodIn_of _ (by decide +kernel)) ggX4_of_X3_shiftOf
set_option maxRecDepth 20000 in
theorem ggX4_of_X3_hasAccent : GoodIn wsX4_of wsX3_hasAccent := goodIn_r _ [33, 34, 14, 4, 5, 6, 7, 8, 123, 124, 125, 126, 127, 128, 129] (by decide +kernel) (by decide +kernel)
set_option maxRecDepth 20000 in
theorem gX4_of_X3_hasAccent : GoodIn wsX4_of (wsV RX4 102 RX3 yX3_hasAccent wsX3_hasAccent) := goodIn_app (goodIn_of _ (by decide +kernel)) ggX4_of_X3_hasAccent
set_option maxRecDepth 20000 in
theorem ggX4_of_X4_asNumber : GoodIn wsX4_of wsX4_asNumber := goodIn_r _ [38] (by decide +kernel) (by decide +kernel)
set_option maxRecDepth 20000 in
theorem gX4_of_X4_asNumber : GoodIn wsX4_of (va_wsS RX4 109 yX4_asNumber wsX4_asNumber) := goodIn_app (goodIn_of _ (by decide +kernel)) ggX4_of_X4_asNumber
set_option maxRecDepth 20000 in
theorem ggX4_of_X3_bridges : GoodIn wsX4_of wsX3_bridges := goodIn_r _ [42, 43, 16, 17, 6, 18, 19, 14, 4, 5, 7, 8, 44, 21, 22, 23, 24, 45, 46, 47, 48, 49, 50, 26, 27, 28, 29, 123, 124, 125, 126, 127, 128, 129] (by decide +kernel) (by decide +kernel)
set_option maxRecDepth 20000 in
theorem gX4_of_X3_bridges : GoodIn wsX4_of (wsV RX4 169 RX3 yX3_bridges wsX3_bridges) := goodIn_app (goodIn_of _ (by decide +kernel)) ggX4_of_X3_bridges
set_option maxRecDepth 20000 in
theorem ggX4_of_X3_longestBridge : GoodIn wsX4_of wsX3_longestBridge := goodIn_r _ [54, 55, 56, 57, 58, 43, 16, 17, 6, 18, 19, 14, 4, 5, 7, 8, 44, 21, 22, 23, 24, 45, 46, 47, 48, 49, 50, 26, 27, 28, 29, 123, 124, 125, 126, 127, 128, 129] (by decide +kernel) (by decide +kernel)
set_option maxRecDepth 20000 in
theorem gX4_of_X3_longestBridge : GoodIn wsX4_of (wsV RX4 172 RX3 yX3_longestBridge wsX3_longestBridge) := goodIn_app (goodIn_of _ (by decide +kernel)) ggX4_of_X3_longestBridge
set_option maxRecDepth 20000 in
theorem ggX4_of_X2_perforate : GoodIn wsX4_of wsX2_perforate := goodIn_r _ [63, 64, 65, 66, 67, 68, 6, 69, 49, 70, 37, 71, 72, 73, 74, 75, 76, 77, 78, 79, 8, 80, 10, 11, 12, 13, 14, 4, 5, 7, 81, 16, 17, 18, 19, 82, 21, 22, 23, 24, 83, 46, 47, 48, 43, 44, 50, 26, 27, 28, 29, 84, 85, 86, 62, 87, 88, 89, 90, 91, 92, 93, 31, 32, 33, 34, 94, 95, 96, 97, 98, 56, 57, 58, 99, 100, 101, 102, 103, 130, 131, 132, 123, 124, 125, 126, 127, 128, 129] (by decide +kernel) (by decide +kernel)
set_option maxRecDepth 20000 in
theorem gX4_of_X2_perforate : GoodIn wsX4_of (wsV RX4 175 RX2 yX2_perforate wsX2_perforate) := goodIn_app (goodIn_of _ (by decide +kernel)) ggX4_of_X2_perforate
set_option maxRecDepth 20000 in
theorem ggX4_of_X4_isHeardWhole : GoodIn wsX4_of wsX4_isHeardWhole := goodIn_r _ [107, 1, 2, 15, 16, 17, 6, 18, 19, 14, 4, 5, 7, 8, 20, 21, 22, 23, 24, 9, 10, 11, 12, 13, 108, 109, 110, 62, 111, 88, 37, 89, 90, 70, 71, 112, 113, 114, 115, 99, 91, 92, 116, 117, 118, 119, 120, 121, 122, 123, 124, 125, 126, 127, 128, 129, 130, 131, 132] (by decide +kernel) (by decide +kernel)
set_option maxRecDepth 20000 in
theorem gX4_of_X4_isHeardWhole : GoodIn wsX4_of (wsV RX4 178 RX4 yX4_isHeardWhole wsX4_isHeardWhole) := goodIn_app (goodIn_of _ (by decide +kernel)) ggX4_of_X4_isHeardWhole
theorem dX4_of_0 : decode cX4_of 0 = .ok (.aload_n 0, 1) := by decide +kernel
theorem dX4_of_1 : decode cX4_of 1 = .ok (.getfield 10, 3) := by decide +kernel
theorem dX4_of_4 : decode cX4_of 4 = .ok (.iload_n 1, 1) := by decide +kernel
theorem dX4_of_5 : decode cX4_of 5 = .ok (.invokevirtual 89, 3) := by decide +kernel
theorem dX4_of_8 : decode cX4_of 8 = .ok (.ifCond .ne 5, 3) := by decide +kernel
theorem dX4_of_11 : decode cX4_of 11 = .ok (.iconst (-1), 1) := by decide +kernel
theorem dX4_of_12 : decode cX4_of 12 = .ok (.ireturn, 1) := by decide +kernel
theorem dX4_of_13 : decode cX4_of 13 = .ok (.iload_n 2, 1) := by decide +kernel
theorem dX4_of_14 : decode cX4_of 14 = .ok (.tableswitch 132 0 7 #[46, 55, 64, 73, 82, 94, 103, 112], 46) := by decide +kernel
theorem dX4_of_60 : decode cX4_of 60 = .ok (.aload_n 0, 1) := by decide +kernel
theorem dX4_of_61 : decode cX4_of 61 = .ok (.getfield 10, 3) := by decide +kernel
theorem dX4_of_64 : decode cX4_of 64 = .ok (.iload_n 1, 1) := by decide +kernel
theorem dX4_of_65 : decode cX4_of 65 = .ok (.invokevirtual 160, 3) := by decide +kernel
theorem dX4_of_68 : decode cX4_of 68 = .ok (.ireturn, 1) := by decide +kernel
theorem dX4_of_69 : decode cX4_of 69 = .ok (.aload_n 0, 1) := by decide +kernel
theorem dX4_of_70 : decode cX4_of 70 = .ok (.getfield 10, 3) := by decide +kernel
theorem dX4_of_73 : decode cX4_of 73 = .ok (.iload_n 1, 1) := by decide +kernel
theorem dX4_of_74 : decode cX4_of 74 = .ok (.invokevirtual 163, 3) := by decide +kernel
theorem dX4_of_77 : decode cX4_of 77 = .ok (.ireturn, 1) := by decide +kernel
theorem dX4_of_78 : decode cX4_of 78 = .ok (.aload_n 0, 1) := by decide +kernel
theorem dX4_of_79 : decode cX4_of 79 = .ok (.getfield 10, 3) := by decide +kernel
theorem dX4_of_82 : decode cX4_of 82 = .ok (.iload_n 1, 1) := by decide +kernel
theorem dX4_of_83 : decode cX4_of 83 = .ok (.invokevirtual 166, 3) := by decide +kernel
theorem dX4_of_86 : decode cX4_of 86 = .ok (.ireturn, 1) := by decide +kernel
theorem dX4_of_87 : decode cX4_of 87 = .ok (.aload_n 0, 1) := by decide +kernel
theorem dX4_of_88 : decode cX4_of 88 = .ok (.getfield 10, 3) := by decide +kernel
theorem dX4_of_91 : decode cX4_of 91 = .ok (.iload_n 1, 1) := by decide +kernel
theorem dX4_of_92 : decode cX4_of 92 = .ok (.invokevirtual 96, 3) := by decide +kernel
theorem dX4_of_95 : decode cX4_of 95 = .ok (.ireturn, 1) := by decide +kernel
theorem dX4_of_96 : decode cX4_of 96 = .ok (.aload_n 0, 1) := by decide +kernel
theorem dX4_of_97 : decode cX4_of 97 = .ok (.getfield 10, 3) := by decide +kernel
theorem dX4_of_100 : decode cX4_of 100 = .ok (.iload_n 1, 1) := by decide +kernel
theorem dX4_of_101 : decode cX4_of 101 = .ok (.invokevirtual 102, 3) := by decide +kernel
theorem dX4_of_104 : decode cX4_of 104 = .ok (.invokestatic 109, 3) := by decide +kernel
theorem dX4_of_107 : decode cX4_of 107 = .ok (.ireturn, 1) := by decide +kernel
theorem dX4_of_108 : decode cX4_of 108 = .ok (.aload_n 0, 1) := by decide +kernel
theorem dX4_of_109 : decode cX4_of 109 = .ok (.getfield 10, 3) := by decide +kernel
theorem dX4_of_112 : decode cX4_of 112 = .ok (.iload_n 1, 1) := by decide +kernel
theorem dX4_of_113 : decode cX4_of 113 = .ok (.invokevirtual 169, 3) := by decide +kernel
theorem dX4_of_116 : decode cX4_of 116 = .ok (.ireturn, 1) := by decide +kernel
theorem dX4_of_117 : decode cX4_of 117 = .ok (.aload_n 0, 1) := by decide +kernel
theorem dX4_of_118 : decode cX4_of 118 = .ok (.getfield 10, 3) := by decide +kernel
theorem dX4_of_121 : decode cX4_of 121 = .ok (.iload_n 1, 1) := by decide +kernel
theorem dX4_of_122 : decode cX4_of 122 = .ok (.invokevirtual 172, 3) := by decide +kernel
theorem dX4_of_125 : decode cX4_of 125 = .ok (.ireturn, 1) := by decide +kernel
theorem dX4_of_126 : decode cX4_of 126 = .ok (.aload_n 0, 1) := by decide +kernel
theorem dX4_of_127 : decode cX4_of 127 = .ok (.getfield 22, 3) := by decide +kernel
theorem dX4_of_130 : decode cX4_of 130 = .ok (.aload_n 0, 1) := by decide +kernel
theorem dX4_of_131 : decode cX4_of 131 = .ok (.getfield 10, 3) := by decide +kernel
theorem dX4_of_134 : decode cX4_of 134 = .ok (.invokevirtual 175, 3) := by decide +kernel
theorem dX4_of_137 : decode cX4_of 137 = .ok (.aload_n 0, 1) := by decide +kernel
theorem dX4_of_138 : decode cX4_of 138 = .ok (.iload_n 1, 1) := by decide +kernel
theorem dX4_of_139 : decode cX4_of 139 = .ok (.invokevirtual 178, 3) := by decide +kernel
theorem dX4_of_142 : decode cX4_of 142 = .ok (.invokestatic 109, 3) := by decide +kernel
theorem dX4_of_145 : decode cX4_of 145 = .ok (.ireturn, 1) := by decide +kernel
theorem dX4_of_146 : decode cX4_of 146 = .ok (.bipush (-2), 2) := by decide +kernel
theorem dX4_of_148 : decode cX4_of 148 = .ok (.ireturn, 1) := by decide +kernel
set_option maxRecDepth 20000 in
theorem ggX4_at_X4_isStep : GoodIn wsX4_at wsX4_isStep := goodIn_r _ [6, 7, 8, 5, 9] (by decide +kernel) (by decide +kernel)
set_option maxRecDepth 20000 in
theorem gX4_at_X4_isStep : GoodIn wsX4_at (va_wsS RX4 75 yX4_isStep wsX4_isStep) := goodIn_app (goodIn_of _ (by decide +kernel)) ggX4_at_X4_isStep
set_option maxRecDepth 20000 in
theorem ggX4_at_X2_perforate : GoodIn wsX4_at wsX2_perforate := goodIn_r _ [14, 15, 16, 17, 18, 19, 20, 21, 22, 8, 5, 9, 23, 24, 25, 26, 27, 28, 29, 30, 31, 32, 33, 34, 35, 36, 37, 38, 39, 40, 41, 42, 43, 44, 45, 46, 47, 48, 49, 50, 51, 52, 53, 54, 55, 56, 57, 58, 59, 60, 61, 62, 63, 64, 13, 65, 66, 67, 7, 4, 6, 68, 69, 70, 71, 72, 73, 74, 75, 76, 77, 78, 79, 80, 81, 82, 83, 84, 85, 115, 116, 117, 118, 119, 120, 121, 122, 123, 124] (by decide +kernel) (by decide +kernel)
set_option maxRecDepth 20000 in
theorem gX4_at_X2_perforate : GoodIn wsX4_at (wsV RX4 175 RX2 yX2_perforate wsX2_perforate) := goodIn_app (goodIn_of _ (by decide +kernel)) ggX4_at_X2_perforate
set_option maxRecDepth 20000 in
theorem ggX4_at_X2_holesAt : GoodIn wsX4_at wsX2_holesAt := goodIn_r _ [85, 16, 4, 5, 6, 7, 8, 9, 115, 116, 117] (by decide +kernel) (by decide +kernel)
set_option maxRecDepth 20000 in
theorem gX4_at_X2_holesAt : GoodIn wsX4_at (wsV RX4 181 RX2 yX2_holesAt wsX2_holesAt) := goodIn_app (goodIn_of _ (by decide +kernel)) ggX4_at_X2_holesAt
set_option maxRecDepth 20000 in
theorem ggX4_at_X2_heardAt : GoodIn wsX4_at wsX2_heardAt := goodIn_r _ [90, 81, 4, 5, 6, 7, 8, 9, 115, 116, 117] (by decide +kernel) (by decide +kernel)
set_option maxRecDepth 20000 in
theorem gX4_at_X2_heardAt : GoodIn wsX4_at (wsV RX4 184 RX2 yX2_heardAt wsX2_heardAt) := goodIn_app (goodIn_of _ (by decide +kernel)) ggX4_at_X2_heardAt
set_option maxRecDepth 20000 in
theorem ggX4_at_X3_tracksAt : GoodIn wsX4_at wsX3_tracksAt := goodIn_r _ [94, 31, 55, 42, 43, 20, 44, 45, 37, 38, 39, 40, 56, 47, 48, 49, 50, 95, 33, 34, 35, 36, 118, 119, 120, 121, 122, 123, 124] (by decide +kernel) (by decide +kernel)
set_option maxRecDepth 20000 in
theorem gX4_at_X3_tracksAt : GoodIn wsX4_at (wsV RX4 187 RX3 yX3_tracksAt wsX3_tracksAt) := goodIn_app (goodIn_of _ (by decide +kernel)) ggX4_at_X3_tracksAt
set_option maxRecDepth 20000 in
theorem ggX4_at_X2_sideBySide : GoodIn wsX4_at wsX2_sideBySide := goodIn_r _ [99, 77, 78, 79, 80, 82, 83, 84, 13, 85, 16, 4, 5, 6, 7, 8, 9, 115, 116, 117] (by decide +kernel) (by decide +kernel)
set_option maxRecDepth 20000 in
theorem gX4_at_X2_sideBySide : GoodIn wsX4_at (wsV RX4 190 RX2 yX2_sideBySide wsX2_sideBySide) := goodIn_app (goodIn_of _ (by decide +kernel)) ggX4_at_X2_sideBySide
set_option maxRecDepth 20000 in
theorem ggX4_at_X2_isWeak : GoodIn wsX4_at wsX2_isWeak := goodIn_r _ [103, 15, 104, 97, 98, 13, 99, 77, 78, 79, 80, 82, 83, 84, 85, 16, 4, 5, 6, 7, 8, 9, 115, 116, 117] (by decide +kernel) (by decide +kernel)
set_option maxRecDepth 20000 in
theorem gX4_at_X2_isWeak : GoodIn wsX4_at (wsV RX4 193 RX2 yX2_isWeak wsX2_isWeak) := goodIn_app (goodIn_of _ (by decide +kernel)) ggX4_at_X2_isWeak
set_option maxRecDepth 20000 in
theorem ggX4_at_X4_asNumber : GoodIn wsX4_at wsX4_asNumber := goodIn_r _ [107] (by decide +kernel) (by decide +kernel)
set_option maxRecDepth 20000 in
theorem gX4_at_X4_asNumber : GoodIn wsX4_at (va_wsS RX4 109 yX4_asNumber wsX4_asNumber) := goodIn_app (goodIn_of _ (by decide +kernel)) ggX4_at_X4_asNumber
theorem dX4_at_0 : decode cX4_at 0 = .ok (.iload_n 1, 1) := by decide +kernel
theorem dX4_at_1 : decode cX4_at 1 = .ok (.invokestatic 75, 3) := by decide +kernel
theorem dX4_at_4 : decode cX4_at 4 = .ok (.ifCond .ne 6, 3) := by decide +kernel
theorem dX4_at_7 : decode cX4_at 7 = .ok (.bipush (-2), 2) := by decide +kernel
theorem dX4_at_9 : decode cX4_at 9 = .ok (.ireturn, 1) := by decide +kernel
theorem dX4_at_10 : decode cX4_at 10 = .ok (.aload_n 0, 1) := by decide +kernel
theorem dX4_at_11 : decode cX4_at 11 = .ok (.getfield 22, 3) := by decide +kernel
theorem dX4_at_14 : decode cX4_at 14 = .ok (.aload_n 0, 1) := by decide +kernel
theorem dX4_at_15 : decode cX4_at 15 = .ok (.getfield 10, 3) := by decide +kernel
theorem dX4_at_18 : decode cX4_at 18 = .ok (.invokevirtual 175, 3) := by decide +kernel
theorem dX4_at_21 : decode cX4_at 21 = .ok (.iload_n 2, 1) := by decide +kernel
theorem dX4_at_22 : decode cX4_at 22 = .ok (.tableswitch 82 0 4 #[34, 43, 52, 61, 70], 34) := by decide +kernel
theorem dX4_at_56 : decode cX4_at 56 = .ok (.aload_n 0, 1) := by decide +kernel
theorem dX4_at_57 : decode cX4_at 57 = .ok (.getfield 22, 3) := by decide +kernel
theorem dX4_at_60 : decode cX4_at 60 = .ok (.iload_n 1, 1) := by decide +kernel
theorem dX4_at_61 : decode cX4_at 61 = .ok (.invokevirtual 181, 3) := by decide +kernel
theorem dX4_at_64 : decode cX4_at 64 = .ok (.ireturn, 1) := by decide +kernel
theorem dX4_at_65 : decode cX4_at 65 = .ok (.aload_n 0, 1) := by decide +kernel
theorem dX4_at_66 : decode cX4_at 66 = .ok (.getfield 22, 3) := by decide +kernel
theorem dX4_at_69 : decode cX4_at 69 = .ok (.iload_n 1, 1) := by decide +kernel
theorem dX4_at_70 : decode cX4_at 70 = .ok (.invokevirtual 184, 3) := by decide +kernel
theorem dX4_at_73 : decode cX4_at 73 = .ok (.ireturn, 1) := by decide +kernel
theorem dX4_at_74 : decode cX4_at 74 = .ok (.aload_n 0, 1) := by decide +kernel
theorem dX4_at_75 : decode cX4_at 75 = .ok (.getfield 10, 3) := by decide +kernel
theorem dX4_at_78 : decode cX4_at 78 = .ok (.iload_n 1, 1) := by decide +kernel
theorem dX4_at_79 : decode cX4_at 79 = .ok (.invokevirtual 187, 3) := by decide +kernel
theorem dX4_at_82 : decode cX4_at 82 = .ok (.ireturn, 1) := by decide +kernel
theorem dX4_at_83 : decode cX4_at 83 = .ok (.aload_n 0, 1) := by decide +kernel
theorem dX4_at_84 : decode cX4_at 84 = .ok (.getfield 22, 3) := by decide +kernel
theorem dX4_at_87 : decode cX4_at 87 = .ok (.iload_n 1, 1) := by decide +kernel
theorem dX4_at_88 : decode cX4_at 88 = .ok (.invokevirtual 190, 3) := by decide +kernel
theorem dX4_at_91 : decode cX4_at 91 = .ok (.ireturn, 1) := by decide +kernel
theorem dX4_at_92 : decode cX4_at 92 = .ok (.aload_n 0, 1) := by decide +kernel
theorem dX4_at_93 : decode cX4_at 93 = .ok (.getfield 22, 3) := by decide +kernel
theorem dX4_at_96 : decode cX4_at 96 = .ok (.iload_n 1, 1) := by decide +kernel
theorem dX4_at_97 : decode cX4_at 97 = .ok (.invokevirtual 193, 3) := by decide +kernel
theorem dX4_at_100 : decode cX4_at 100 = .ok (.invokestatic 109, 3) := by decide +kernel
theorem dX4_at_103 : decode cX4_at 103 = .ok (.ireturn, 1) := by decide +kernel
theorem dX4_at_104 : decode cX4_at 104 = .ok (.bipush (-2), 2) := by decide +kernel
theorem dX4_at_106 : decode cX4_at 106 = .ok (.ireturn, 1) := by decide +kernel
set_option maxRecDepth 20000 in
theorem ggX4_sound_X4_isTrack : GoodIn wsX4_sound wsX4_isTrack := goodIn_r _ [6, 7, 8, 5, 9] (by decide +kernel) (by decide +kernel)
set_option maxRecDepth 20000 in
theorem gX4_sound_X4_isTrack : GoodIn wsX4_sound (va_wsS RX4 71 yX4_isTrack wsX4_isTrack) := goodIn_app (goodIn_of _ (by decide +kernel)) ggX4_sound_X4_isTrack
set_option maxRecDepth 20000 in
theorem ggX4_sound_X2_perforate : GoodIn wsX4_sound wsX2_perforate := goodIn_r _ [14, 15, 16, 17, 18, 19, 20, 21, 22, 8, 5, 9, 23, 24, 25, 26, 27, 28, 29, 30, 31, 32, 33, 34, 35, 36, 37, 38, 39, 40, 41, 42, 43, 44, 45, 46, 47, 48, 49, 50, 51, 52, 53, 54, 55, 56, 57, 58, 59, 60, 61, 62, 63, 64, 13, 65, 4, 6, 7, 66, 67, 68, 69, 70, 71, 72, 73, 74, 75, 76, 77, 78, 79, 80, 81, 82, 83, 84, 85, 118, 119, 120, 121, 122, 123, 124, 125, 126, 127] (by decide +kernel) (by decide +kernel)
set_option maxRecDepth 20000 in
theorem gX4_sound_X2_perforate : GoodIn wsX4_sound (wsV RX4 175 RX2 yX2_perforate wsX2_perforate) := goodIn_app (goodIn_of _ (by decide +kernel)) ggX4_sound_X2_perforate
set_option maxRecDepth 20000 in
theorem ggX4_sound_X2_soundStart : GoodIn wsX4_sound wsX2_soundStart := goodIn_r _ [89, 90, 91, 92, 13, 93, 94, 95, 96, 97, 4, 5, 6, 7, 8, 9, 98, 99, 100, 101, 81, 66, 67, 118, 119, 120] (by decide +kernel) (by decide +kernel)
set_option maxRecDepth 20000 in
theorem gX4_sound_X2_soundStart : GoodIn wsX4_sound (wsV RX4 196 RX2 yX2_soundStart wsX2_soundStart) := goodIn_app (goodIn_of _ (by decide +kernel)) ggX4_sound_X2_soundStart
set_option maxRecDepth 20000 in
theorem ggX4_sound_X2_soundEnd : GoodIn wsX4_sound wsX2_soundEnd := goodIn_r _ [105, 94, 95, 96, 13, 97, 4, 5, 6, 7, 8, 9, 98, 99, 100, 101, 81, 66, 67, 118, 119, 120] (by decide +kernel) (by decide +kernel)
set_option maxRecDepth 20000 in
theorem gX4_sound_X2_soundEnd : GoodIn wsX4_sound (wsV RX4 199 RX2 yX2_soundEnd wsX2_soundEnd) := goodIn_app (goodIn_of _ (by decide +kernel)) ggX4_sound_X2_soundEnd
set_option maxRecDepth 20000 in
theorem ggX4_sound_X3_touching : GoodIn wsX4_sound wsX3_touching := goodIn_r _ [109, 31, 110, 33, 34, 20, 35, 36, 37, 38, 39, 40, 55, 42, 43, 44, 45, 56, 47, 48, 49, 50, 121, 122, 123, 124, 125, 126, 127] (by decide +kernel) (by decide +kernel)
set_option maxRecDepth 20000 in
theorem gX4_sound_X3_touching : GoodIn wsX4_sound (wsV RX4 202 RX3 yX3_touching wsX3_touching) := goodIn_app (goodIn_of _ (by decide +kernel)) ggX4_sound_X3_touching
theorem dX4_sound_0 : decode cX4_sound 0 = .ok (.iload_n 1, 1) := by decide +kernel
theorem dX4_sound_1 : decode cX4_sound 1 = .ok (.invokestatic 71, 3) := by decide +kernel
theorem dX4_sound_4 : decode cX4_sound 4 = .ok (.ifCond .ne 5, 3) := by decide +kernel
theorem dX4_sound_7 : decode cX4_sound 7 = .ok (.iconst (-1), 1) := by decide +kernel
theorem dX4_sound_8 : decode cX4_sound 8 = .ok (.ireturn, 1) := by decide +kernel
theorem dX4_sound_9 : decode cX4_sound 9 = .ok (.aload_n 0, 1) := by decide +kernel
theorem dX4_sound_10 : decode cX4_sound 10 = .ok (.getfield 22, 3) := by decide +kernel
theorem dX4_sound_13 : decode cX4_sound 13 = .ok (.aload_n 0, 1) := by decide +kernel
theorem dX4_sound_14 : decode cX4_sound 14 = .ok (.getfield 10, 3) := by decide +kernel
theorem dX4_sound_17 : decode cX4_sound 17 = .ok (.invokevirtual 175, 3) := by decide +kernel
theorem dX4_sound_20 : decode cX4_sound 20 = .ok (.aload_n 0, 1) := by decide +kernel
theorem dX4_sound_21 : decode cX4_sound 21 = .ok (.getfield 22, 3) := by decide +kernel
theorem dX4_sound_24 : decode cX4_sound 24 = .ok (.iload_n 1, 1) := by decide +kernel
theorem dX4_sound_25 : decode cX4_sound 25 = .ok (.iload_n 2, 1) := by decide +kernel
theorem dX4_sound_26 : decode cX4_sound 26 = .ok (.invokevirtual 196, 3) := by decide +kernel
theorem dX4_sound_29 : decode cX4_sound 29 = .ok (.istore 4, 2) := by decide +kernel
theorem dX4_sound_31 : decode cX4_sound 31 = .ok (.iload 4, 2) := by decide +kernel
theorem dX4_sound_33 : decode cX4_sound 33 = .ok (.ifCond .ge 5, 3) := by decide +kernel
theorem dX4_sound_36 : decode cX4_sound 36 = .ok (.iconst (-1), 1) := by decide +kernel
theorem dX4_sound_37 : decode cX4_sound 37 = .ok (.ireturn, 1) := by decide +kernel
theorem dX4_sound_38 : decode cX4_sound 38 = .ok (.aload_n 0, 1) := by decide +kernel
theorem dX4_sound_39 : decode cX4_sound 39 = .ok (.getfield 22, 3) := by decide +kernel
theorem dX4_sound_42 : decode cX4_sound 42 = .ok (.iload_n 1, 1) := by decide +kernel
theorem dX4_sound_43 : decode cX4_sound 43 = .ok (.iload 4, 2) := by decide +kernel
theorem dX4_sound_45 : decode cX4_sound 45 = .ok (.invokevirtual 199, 3) := by decide +kernel
theorem dX4_sound_48 : decode cX4_sound 48 = .ok (.istore 5, 2) := by decide +kernel
theorem dX4_sound_50 : decode cX4_sound 50 = .ok (.iload_n 3, 1) := by decide +kernel
theorem dX4_sound_51 : decode cX4_sound 51 = .ok (.tableswitch 44 0 2 #[25, 28, 31], 25) := by decide +kernel
theorem dX4_sound_76 : decode cX4_sound 76 = .ok (.iload 4, 2) := by decide +kernel
theorem dX4_sound_78 : decode cX4_sound 78 = .ok (.ireturn, 1) := by decide +kernel
theorem dX4_sound_79 : decode cX4_sound 79 = .ok (.iload 5, 2) := by decide +kernel
theorem dX4_sound_81 : decode cX4_sound 81 = .ok (.ireturn, 1) := by decide +kernel
theorem dX4_sound_82 : decode cX4_sound 82 = .ok (.aload_n 0, 1) := by decide +kernel
theorem dX4_sound_83 : decode cX4_sound 83 = .ok (.getfield 10, 3) := by decide +kernel
theorem dX4_sound_86 : decode cX4_sound 86 = .ok (.iload_n 1, 1) := by decide +kernel
theorem dX4_sound_87 : decode cX4_sound 87 = .ok (.iload 4, 2) := by decide +kernel
theorem dX4_sound_89 : decode cX4_sound 89 = .ok (.iload 5, 2) := by decide +kernel
theorem dX4_sound_91 : decode cX4_sound 91 = .ok (.invokevirtual 202, 3) := by decide +kernel
theorem dX4_sound_94 : decode cX4_sound 94 = .ok (.ireturn, 1) := by decide +kernel
theorem dX4_sound_95 : decode cX4_sound 95 = .ok (.bipush (-2), 2) := by decide +kernel
theorem dX4_sound_97 : decode cX4_sound 97 = .ok (.ireturn, 1) := by decide +kernel
set_option maxRecDepth 20000 in
theorem ggX4_count_X2_perforate : GoodIn wsX4_count wsX2_perforate := goodIn_r _ [9, 10, 11, 12, 13, 14, 15, 16, 17, 18, 19, 20, 21, 22, 23, 24, 25, 26, 27, 28, 29, 30, 31, 32, 33, 34, 35, 36, 37, 38, 39, 40, 41, 42, 43, 44, 45, 46, 47, 48, 49, 50, 51, 52, 53, 54, 55, 56, 57, 58, 59, 60, 61, 62, 8, 63, 64, 65, 66, 67, 68, 69, 70, 71, 72, 73, 74, 75, 76, 77, 78, 79, 80, 81, 82, 83, 84, 85, 86, 175, 176, 177, 178, 179, 180, 181, 182, 183, 184] (by decide +kernel) (by decide +kernel)
set_option maxRecDepth 20000 in
theorem gX4_count_X2_perforate : GoodIn wsX4_count (wsV RX4 175 RX2 yX2_perforate wsX2_perforate) := goodIn_app (goodIn_of _ (by decide +kernel)) ggX4_count_X2_perforate
set_option maxRecDepth 20000 in
theorem ggX4_count_X3_size : GoodIn wsX4_count wsX3_size := goodIn_r _ [28, 29, 178, 179, 180, 181, 182, 183, 184] (by decide +kernel) (by decide +kernel)
set_option maxRecDepth 20000 in
theorem gX4_count_X3_size : GoodIn wsX4_count (wsV RX4 78 RX3 yX3_size wsX3_size) := goodIn_app (goodIn_of _ (by decide +kernel)) ggX4_count_X3_size
set_option maxRecDepth 20000 in
theorem ggX4_count_X2_allHoles : GoodIn wsX4_count wsX2_allHoles := goodIn_r _ [91, 83, 84, 85, 8, 86, 11, 67, 19, 68, 66, 18, 20, 92, 93, 94, 95, 96, 97, 98, 175, 176, 177] (by decide +kernel) (by decide +kernel)
set_option maxRecDepth 20000 in
theorem gX4_count_X2_allHoles : GoodIn wsX4_count (wsV RX4 206 RX2 yX2_allHoles wsX2_allHoles) := goodIn_app (goodIn_of _ (by decide +kernel)) ggX4_count_X2_allHoles
set_option maxRecDepth 20000 in
theorem ggX4_count_X2_weakSteps : GoodIn wsX4_count wsX2_weakSteps := goodIn_r _ [102, 103, 104, 105, 8, 106, 10, 107, 108, 109, 110, 78, 79, 80, 81, 83, 84, 85, 86, 11, 67, 19, 68, 66, 18, 20, 175, 176, 177] (by decide +kernel) (by decide +kernel)
set_option maxRecDepth 20000 in
theorem gX4_count_X2_weakSteps : GoodIn wsX4_count (wsV RX4 209 RX2 yX2_weakSteps wsX2_weakSteps) := goodIn_app (goodIn_of _ (by decide +kernel)) ggX4_count_X2_weakSteps
set_option maxRecDepth 20000 in
theorem ggX4_count_X2_firstWeakStep : GoodIn wsX4_count wsX2_firstWeakStep := goodIn_r _ [114, 103, 104, 105, 8, 106, 10, 107, 108, 109, 110, 78, 79, 80, 81, 83, 84, 85, 86, 11, 67, 19, 68, 66, 18, 20, 175, 176, 177] (by decide +kernel) (by decide +kernel)
set_option maxRecDepth 20000 in
theorem gX4_count_X2_firstWeakStep : GoodIn wsX4_count (wsV RX4 212 RX2 yX2_firstWeakStep wsX2_firstWeakStep) := goodIn_app (goodIn_of _ (by decide +kernel)) ggX4_count_X2_firstWeakStep
set_option maxRecDepth 20000 in
theorem ggX4_count_X4_noneIfMissing : GoodIn wsX4_count wsX4_noneIfMissing := goodIn_r _ [117] (by decide +kernel) (by decide +kernel)
set_option maxRecDepth 20000 in
theorem gX4_count_X4_noneIfMissing : GoodIn wsX4_count (va_wsS RX4 215 yX4_noneIfMissing wsX4_noneIfMissing) := goodIn_app (goodIn_of _ (by decide +kernel)) ggX4_count_X4_noneIfMissing
set_option maxRecDepth 20000 in
theorem ggX4_count_X4_allSounds : GoodIn wsX4_count wsX4_allSounds := goodIn_r _ [121, 1, 122, 123, 124, 8, 125, 126, 127, 128, 129, 130, 131, 132, 133, 64, 19, 65, 66, 18, 20, 134, 135, 136, 137, 82, 67, 68, 168, 169, 170, 171, 172, 173, 174, 175, 176, 177] (by decide +kernel) (by decide +kernel)
set_option maxRecDepth 20000 in
theorem gX4_count_X4_allSounds : GoodIn wsX4_count (wsV RX4 218 RX4 yX4_allSounds wsX4_allSounds) := goodIn_app (goodIn_of _ (by decide +kernel)) ggX4_count_X4_allSounds
set_option maxRecDepth 20000 in
theorem ggX4_count_X4_notesWithGap : GoodIn wsX4_count wsX4_notesWithGap := goodIn_r _ [141, 2, 87, 26, 27, 15, 28, 29, 142, 143, 144, 19, 145, 1, 146, 40, 41, 42, 43, 35, 36, 37, 38, 147, 45, 46, 47, 48, 148, 31, 32, 33, 34, 149, 131, 132, 8, 133, 64, 65, 66, 18, 20, 134, 135, 136, 137, 82, 67, 68, 168, 169, 170, 171, 172, 173, 174, 178, 179, 180, 181, 182, 183, 184, 175, 176, 177] (by decide +kernel) (by decide +kernel)
set_option maxRecDepth 20000 in
theorem gX4_count_X4_notesWithGap : GoodIn wsX4_count (wsV RX4 221 RX4 yX4_notesWithGap wsX4_notesWithGap) := goodIn_app (goodIn_of _ (by decide +kernel)) ggX4_count_X4_notesWithGap
set_option maxRecDepth 20000 in
theorem ggX4_count_X3_greatestLast : GoodIn wsX4_count wsX3_greatestLast := goodIn_r _ [153, 29, 154, 79, 80, 81, 54, 45, 46, 15, 47, 48, 35, 36, 37, 38, 178, 179, 180, 181, 182, 183, 184] (by decide +kernel) (by decide +kernel)
set_option maxRecDepth 20000 in
theorem gX4_count_X3_greatestLast : GoodIn wsX4_count (wsV RX4 113 RX3 yX3_greatestLast wsX3_greatestLast) := goodIn_app (goodIn_of _ (by decide +kernel)) ggX4_count_X3_greatestLast
set_option maxRecDepth 20000 in
theorem ggX4_count_X3_settingOf : GoodIn wsX4_count wsX3_settingOf := goodIn_r _ [16, 17, 18, 19, 20, 178, 179, 180, 181, 182, 183, 184] (by decide +kernel) (by decide +kernel)
set_option maxRecDepth 20000 in
theorem gX4_count_X3_settingOf : GoodIn wsX4_count (wsV RX4 59 RX3 yX3_settingOf wsX3_settingOf) := goodIn_app (goodIn_of _ (by decide +kernel)) ggX4_count_X3_settingOf
set_option maxRecDepth 20000 in
theorem ggX4_count_X1_length : GoodIn wsX4_count wsX1_length := goodIn_r _ [160, 161, 185, 186, 187, 188, 189, 190, 191, 192] (by decide +kernel) (by decide +kernel)
set_option maxRecDepth 20000 in
theorem gX4_count_X1_length : GoodIn wsX4_count (wsV RX4 224 RX1 yX1_length wsX1_length) := goodIn_app (goodIn_of _ (by decide +kernel)) ggX4_count_X1_length
set_option maxRecDepth 20000 in
theorem ggX4_count_X0_size : GoodIn wsX4_count wsX0_size := goodIn_r _ [166, 167, 193, 194, 195] (by decide +kernel) (by decide +kernel)
set_option maxRecDepth 20000 in
theorem gX4_count_X0_size : GoodIn wsX4_count (wsV RX4 227 RX0 yX0_size wsX0_size) := goodIn_app (goodIn_of _ (by decide +kernel)) ggX4_count_X0_size
theorem dX4_count_0 : decode cX4_count 0 = .ok (.aload_n 0, 1) := by decide +kernel
theorem dX4_count_1 : decode cX4_count 1 = .ok (.getfield 22, 3) := by decide +kernel
theorem dX4_count_4 : decode cX4_count 4 = .ok (.aload_n 0, 1) := by decide +kernel
theorem dX4_count_5 : decode cX4_count 5 = .ok (.getfield 10, 3) := by decide +kernel
theorem dX4_count_8 : decode cX4_count 8 = .ok (.invokevirtual 175, 3) := by decide +kernel
theorem dX4_count_11 : decode cX4_count 11 = .ok (.iload_n 1, 1) := by decide +kernel
theorem dX4_count_12 : decode cX4_count 12 = .ok (.tableswitch 176 0 12 #[68, 76, 84, 92, 103, 108, 113, 124, 133, 142, 151, 160, 168], 68) := by decide +kernel
theorem dX4_count_80 : decode cX4_count 80 = .ok (.aload_n 0, 1) := by decide +kernel
theorem dX4_count_81 : decode cX4_count 81 = .ok (.getfield 10, 3) := by decide +kernel
theorem dX4_count_84 : decode cX4_count 84 = .ok (.invokevirtual 78, 3) := by decide +kernel
theorem dX4_count_87 : decode cX4_count 87 = .ok (.ireturn, 1) := by decide +kernel
theorem dX4_count_88 : decode cX4_count 88 = .ok (.aload_n 0, 1) := by decide +kernel
theorem dX4_count_89 : decode cX4_count 89 = .ok (.getfield 22, 3) := by decide +kernel
theorem dX4_count_92 : decode cX4_count 92 = .ok (.invokevirtual 206, 3) := by decide +kernel
theorem dX4_count_95 : decode cX4_count 95 = .ok (.ireturn, 1) := by decide +kernel
theorem dX4_count_96 : decode cX4_count 96 = .ok (.aload_n 0, 1) := by decide +kernel
theorem dX4_count_97 : decode cX4_count 97 = .ok (.getfield 22, 3) := by decide +kernel
theorem dX4_count_100 : decode cX4_count 100 = .ok (.invokevirtual 209, 3) := by decide +kernel
theorem dX4_count_103 : decode cX4_count 103 = .ok (.ireturn, 1) := by decide +kernel
theorem dX4_count_104 : decode cX4_count 104 = .ok (.aload_n 0, 1) := by decide +kernel
theorem dX4_count_105 : decode cX4_count 105 = .ok (.getfield 22, 3) := by decide +kernel
theorem dX4_count_108 : decode cX4_count 108 = .ok (.invokevirtual 212, 3) := by decide +kernel
theorem dX4_count_111 : decode cX4_count 111 = .ok (.invokestatic 215, 3) := by decide +kernel
theorem dX4_count_114 : decode cX4_count 114 = .ok (.ireturn, 1) := by decide +kernel
theorem dX4_count_115 : decode cX4_count 115 = .ok (.aload_n 0, 1) := by decide +kernel
theorem dX4_count_116 : decode cX4_count 116 = .ok (.invokevirtual 218, 3) := by decide +kernel
theorem dX4_count_119 : decode cX4_count 119 = .ok (.ireturn, 1) := by decide +kernel
theorem dX4_count_120 : decode cX4_count 120 = .ok (.aload_n 0, 1) := by decide +kernel
theorem dX4_count_121 : decode cX4_count 121 = .ok (.invokevirtual 221, 3) := by decide +kernel
theorem dX4_count_124 : decode cX4_count 124 = .ok (.ireturn, 1) := by decide +kernel
theorem dX4_count_125 : decode cX4_count 125 = .ok (.aload_n 0, 1) := by decide +kernel
theorem dX4_count_126 : decode cX4_count 126 = .ok (.getfield 10, 3) := by decide +kernel
theorem dX4_count_129 : decode cX4_count 129 = .ok (.invokevirtual 113, 3) := by decide +kernel
theorem dX4_count_132 : decode cX4_count 132 = .ok (.invokestatic 215, 3) := by decide +kernel
theorem dX4_count_135 : decode cX4_count 135 = .ok (.ireturn, 1) := by decide +kernel
theorem dX4_count_136 : decode cX4_count 136 = .ok (.aload_n 0, 1) := by decide +kernel
theorem dX4_count_137 : decode cX4_count 137 = .ok (.getfield 10, 3) := by decide +kernel
theorem dX4_count_140 : decode cX4_count 140 = .ok (.iconst 0, 1) := by decide +kernel
theorem dX4_count_141 : decode cX4_count 141 = .ok (.invokevirtual 59, 3) := by decide +kernel
theorem dX4_count_144 : decode cX4_count 144 = .ok (.ireturn, 1) := by decide +kernel
theorem dX4_count_145 : decode cX4_count 145 = .ok (.aload_n 0, 1) := by decide +kernel
theorem dX4_count_146 : decode cX4_count 146 = .ok (.getfield 10, 3) := by decide +kernel
theorem dX4_count_149 : decode cX4_count 149 = .ok (.iconst 1, 1) := by decide +kernel
theorem dX4_count_150 : decode cX4_count 150 = .ok (.invokevirtual 59, 3) := by decide +kernel
theorem dX4_count_153 : decode cX4_count 153 = .ok (.ireturn, 1) := by decide +kernel
theorem dX4_count_154 : decode cX4_count 154 = .ok (.aload_n 0, 1) := by decide +kernel
theorem dX4_count_155 : decode cX4_count 155 = .ok (.getfield 10, 3) := by decide +kernel
theorem dX4_count_158 : decode cX4_count 158 = .ok (.iconst 2, 1) := by decide +kernel
theorem dX4_count_159 : decode cX4_count 159 = .ok (.invokevirtual 59, 3) := by decide +kernel
theorem dX4_count_162 : decode cX4_count 162 = .ok (.ireturn, 1) := by decide +kernel
theorem dX4_count_163 : decode cX4_count 163 = .ok (.aload_n 0, 1) := by decide +kernel
theorem dX4_count_164 : decode cX4_count 164 = .ok (.getfield 10, 3) := by decide +kernel
theorem dX4_count_167 : decode cX4_count 167 = .ok (.iconst 3, 1) := by decide +kernel
theorem dX4_count_168 : decode cX4_count 168 = .ok (.invokevirtual 59, 3) := by decide +kernel
theorem dX4_count_171 : decode cX4_count 171 = .ok (.ireturn, 1) := by decide +kernel
theorem dX4_count_172 : decode cX4_count 172 = .ok (.aload_n 0, 1) := by decide +kernel
theorem dX4_count_173 : decode cX4_count 173 = .ok (.getfield 29, 3) := by decide +kernel
theorem dX4_count_176 : decode cX4_count 176 = .ok (.invokevirtual 224, 3) := by decide +kernel
theorem dX4_count_179 : decode cX4_count 179 = .ok (.ireturn, 1) := by decide +kernel
theorem dX4_count_180 : decode cX4_count 180 = .ok (.aload_n 0, 1) := by decide +kernel
theorem dX4_count_181 : decode cX4_count 181 = .ok (.getfield 36, 3) := by decide +kernel
theorem dX4_count_184 : decode cX4_count 184 = .ok (.invokevirtual 227, 3) := by decide +kernel
theorem dX4_count_187 : decode cX4_count 187 = .ok (.ireturn, 1) := by decide +kernel
theorem dX4_count_188 : decode cX4_count 188 = .ok (.bipush (-2), 2) := by decide +kernel
theorem dX4_count_190 : decode cX4_count 190 = .ok (.ireturn, 1) := by decide +kernel
set_option maxRecDepth 20000 in
theorem ggX4_bestShift_X3_has : GoodIn wsX4_bestShift wsX3_has := goodIn_r _ [8, 9, 122, 123, 124, 125, 126, 127, 128] (by decide +kernel) (by decide +kernel)
set_option maxRecDepth 20000 in
theorem gX4_bestShift_X3_has : GoodIn wsX4_bestShift (wsV RX4 89 RX3 yX3_has wsX3_has) := goodIn_app (goodIn_of _ (by decide +kernel)) ggX4_bestShift_X3_has
set_option maxRecDepth 20000 in
theorem ggX4_bestShift_X4_isIn : GoodIn wsX4_bestShift wsX4_isIn := goodIn_r _ [13] (by decide +kernel) (by decide +kernel)
set_option maxRecDepth 20000 in
theorem gX4_bestShift_X4_isIn : GoodIn wsX4_bestShift (va_wsS RX4 48 yX4_isIn wsX4_isIn) := goodIn_app (goodIn_of _ (by decide +kernel)) ggX4_bestShift_X4_isIn
set_option maxRecDepth 20000 in
theorem ggX4_bestShift_X3_become : GoodIn wsX4_bestShift wsX3_become := goodIn_r _ [17, 9, 18, 19, 20, 21, 22, 23, 24, 25, 7, 26, 27, 28, 29, 30, 31, 122, 123, 124, 125, 126, 127, 128] (by decide +kernel) (by decide +kernel)
set_option maxRecDepth 20000 in
theorem gX4_bestShift_X3_become : GoodIn wsX4_bestShift (wsV RX4 127 RX3 yX3_become wsX3_become) := goodIn_app (goodIn_of _ (by decide +kernel)) ggX4_bestShift_X3_become
set_option maxRecDepth 20000 in
theorem ggX4_bestShift_X3_giveShift : GoodIn wsX4_bestShift wsX3_giveShift := goodIn_r _ [35, 21, 36, 5, 6, 7, 8, 9, 122, 123, 124, 125, 126, 127, 128] (by decide +kernel) (by decide +kernel)
set_option maxRecDepth 20000 in
theorem gX4_bestShift_X3_giveShift : GoodIn wsX4_bestShift (wsV RX4 99 RX3 yX3_giveShift wsX3_giveShift) := goodIn_app (goodIn_of _ (by decide +kernel)) ggX4_bestShift_X3_giveShift
set_option maxRecDepth 20000 in
theorem ggX4_bestShift_X2_perforate : GoodIn wsX4_bestShift wsX2_perforate := goodIn_r _ [41, 42, 43, 44, 45, 46, 7, 47, 27, 11, 12, 13, 48, 49, 50, 51, 52, 53, 54, 55, 9, 56, 57, 58, 59, 18, 36, 5, 6, 8, 60, 61, 62, 63, 19, 64, 65, 66, 67, 20, 68, 69, 70, 71, 72, 73, 74, 75, 76, 77, 21, 78, 79, 80, 40, 81, 82, 83, 10, 84, 85, 86, 87, 88, 89, 22, 90, 91, 92, 93, 94, 95, 96, 97, 98, 99, 100, 101, 102, 129, 130, 131, 122, 123, 124, 125, 126, 127, 128] (by decide +kernel) (by decide +kernel)
set_option maxRecDepth 20000 in
theorem gX4_bestShift_X2_perforate : GoodIn wsX4_bestShift (wsV RX4 175 RX2 yX2_perforate wsX2_perforate) := goodIn_app (goodIn_of _ (by decide +kernel)) ggX4_bestShift_X2_perforate
set_option maxRecDepth 20000 in
theorem ggX4_bestShift_X2_weakSteps : GoodIn wsX4_bestShift wsX2_weakSteps := goodIn_r _ [106, 107, 108, 109, 40, 110, 42, 111, 112, 113, 114, 94, 95, 96, 97, 99, 100, 101, 102, 43, 84, 12, 85, 10, 11, 13, 129, 130, 131] (by decide +kernel) (by decide +kernel)
set_option maxRecDepth 20000 in
theorem gX4_bestShift_X2_weakSteps : GoodIn wsX4_bestShift (wsV RX4 209 RX2 yX2_weakSteps wsX2_weakSteps) := goodIn_app (goodIn_of _ (by decide +kernel)) ggX4_bestShift_X2_weakSteps
theorem dX4_bestShift_0 : decode cX4_bestShift 0 = .ok (.aload_n 0, 1) := by decide +kernel
theorem dX4_bestShift_1 : decode cX4_bestShift 1 = .ok (.getfield 10, 3) := by decide +kernel
theorem dX4_bestShift_4 : decode cX4_bestShift 4 = .ok (.iload_n 1, 1) := by decide +kernel
theorem dX4_bestShift_5 : decode cX4_bestShift 5 = .ok (.invokevirtual 89, 3) := by decide +kernel
theorem dX4_bestShift_8 : decode cX4_bestShift 8 = .ok (.ifCond .ne 5, 3) := by decide +kernel
theorem dX4_bestShift_11 : decode cX4_bestShift 11 = .ok (.iconst (-1), 1) := by decide +kernel
theorem dX4_bestShift_12 : decode cX4_bestShift 12 = .ok (.ireturn, 1) := by decide +kernel
theorem dX4_bestShift_13 : decode cX4_bestShift 13 = .ok (.iload_n 2, 1) := by decide +kernel
theorem dX4_bestShift_14 : decode cX4_bestShift 14 = .ok (.iconst 0, 1) := by decide +kernel
theorem dX4_bestShift_15 : decode cX4_bestShift 15 = .ok (.iconst 1, 1) := by decide +kernel
theorem dX4_bestShift_16 : decode cX4_bestShift 16 = .ok (.invokestatic 48, 3) := by decide +kernel
theorem dX4_bestShift_19 : decode cX4_bestShift 19 = .ok (.ifCond .ne 6, 3) := by decide +kernel
theorem dX4_bestShift_22 : decode cX4_bestShift 22 = .ok (.bipush (-2), 2) := by decide +kernel
theorem dX4_bestShift_24 : decode cX4_bestShift 24 = .ok (.ireturn, 1) := by decide +kernel
theorem dX4_bestShift_25 : decode cX4_bestShift 25 = .ok (.aload_n 0, 1) := by decide +kernel
theorem dX4_bestShift_26 : decode cX4_bestShift 26 = .ok (.getfield 16, 3) := by decide +kernel
theorem dX4_bestShift_29 : decode cX4_bestShift 29 = .ok (.aload_n 0, 1) := by decide +kernel
theorem dX4_bestShift_30 : decode cX4_bestShift 30 = .ok (.getfield 10, 3) := by decide +kernel
theorem dX4_bestShift_33 : decode cX4_bestShift 33 = .ok (.invokevirtual 127, 3) := by decide +kernel
theorem dX4_bestShift_36 : decode cX4_bestShift 36 = .ok (.iconst 0, 1) := by decide +kernel
theorem dX4_bestShift_37 : decode cX4_bestShift 37 = .ok (.istore_n 3, 1) := by decide +kernel
theorem dX4_bestShift_38 : decode cX4_bestShift 38 = .ok (.bipush 101, 2) := by decide +kernel
theorem dX4_bestShift_40 : decode cX4_bestShift 40 = .ok (.istore 4, 2) := by decide +kernel
theorem dX4_bestShift_42 : decode cX4_bestShift 42 = .ok (.iconst 0, 1) := by decide +kernel
theorem dX4_bestShift_43 : decode cX4_bestShift 43 = .ok (.istore 5, 2) := by decide +kernel
theorem dX4_bestShift_45 : decode cX4_bestShift 45 = .ok (.iload 5, 2) := by decide +kernel
theorem dX4_bestShift_47 : decode cX4_bestShift 47 = .ok (.bipush 12, 2) := by decide +kernel
theorem dX4_bestShift_49 : decode cX4_bestShift 49 = .ok (.if_icmp .gt 53, 3) := by decide +kernel
theorem dX4_bestShift_52 : decode cX4_bestShift 52 = .ok (.aload_n 0, 1) := by decide +kernel
theorem dX4_bestShift_53 : decode cX4_bestShift 53 = .ok (.getfield 16, 3) := by decide +kernel
theorem dX4_bestShift_56 : decode cX4_bestShift 56 = .ok (.iload_n 1, 1) := by decide +kernel
theorem dX4_bestShift_57 : decode cX4_bestShift 57 = .ok (.iload 5, 2) := by decide +kernel
theorem dX4_bestShift_59 : decode cX4_bestShift 59 = .ok (.invokevirtual 99, 3) := by decide +kernel
theorem dX4_bestShift_62 : decode cX4_bestShift 62 = .ok (.aload_n 0, 1) := by decide +kernel
theorem dX4_bestShift_63 : decode cX4_bestShift 63 = .ok (.getfield 22, 3) := by decide +kernel
theorem dX4_bestShift_66 : decode cX4_bestShift 66 = .ok (.aload_n 0, 1) := by decide +kernel
theorem dX4_bestShift_67 : decode cX4_bestShift 67 = .ok (.getfield 16, 3) := by decide +kernel
theorem dX4_bestShift_70 : decode cX4_bestShift 70 = .ok (.invokevirtual 175, 3) := by decide +kernel
theorem dX4_bestShift_73 : decode cX4_bestShift 73 = .ok (.aload_n 0, 1) := by decide +kernel
theorem dX4_bestShift_74 : decode cX4_bestShift 74 = .ok (.getfield 22, 3) := by decide +kernel
theorem dX4_bestShift_77 : decode cX4_bestShift 77 = .ok (.invokevirtual 209, 3) := by decide +kernel
theorem dX4_bestShift_80 : decode cX4_bestShift 80 = .ok (.istore 6, 2) := by decide +kernel
theorem dX4_bestShift_82 : decode cX4_bestShift 82 = .ok (.iload 6, 2) := by decide +kernel
theorem dX4_bestShift_84 : decode cX4_bestShift 84 = .ok (.iload 4, 2) := by decide +kernel
theorem dX4_bestShift_86 : decode cX4_bestShift 86 = .ok (.if_icmp .ge 10, 3) := by decide +kernel
theorem dX4_bestShift_89 : decode cX4_bestShift 89 = .ok (.iload 6, 2) := by decide +kernel
theorem dX4_bestShift_91 : decode cX4_bestShift 91 = .ok (.istore 4, 2) := by decide +kernel
theorem dX4_bestShift_93 : decode cX4_bestShift 93 = .ok (.iload 5, 2) := by decide +kernel
theorem dX4_bestShift_95 : decode cX4_bestShift 95 = .ok (.istore_n 3, 1) := by decide +kernel
theorem dX4_bestShift_96 : decode cX4_bestShift 96 = .ok (.iinc 5 1, 3) := by decide +kernel
theorem dX4_bestShift_99 : decode cX4_bestShift 99 = .ok (.goto (-54), 3) := by decide +kernel
theorem dX4_bestShift_102 : decode cX4_bestShift 102 = .ok (.iload_n 2, 1) := by decide +kernel
theorem dX4_bestShift_103 : decode cX4_bestShift 103 = .ok (.ifCond .ne 7, 3) := by decide +kernel
theorem dX4_bestShift_106 : decode cX4_bestShift 106 = .ok (.iload_n 3, 1) := by decide +kernel
theorem dX4_bestShift_107 : decode cX4_bestShift 107 = .ok (.goto 5, 3) := by decide +kernel
theorem dX4_bestShift_110 : decode cX4_bestShift 110 = .ok (.iload 4, 2) := by decide +kernel
theorem dX4_bestShift_112 : decode cX4_bestShift 112 = .ok (.ireturn, 1) := by decide +kernel
set_option maxRecDepth 20000 in
theorem ggX4_greatestRun_X3_become : GoodIn wsX4_greatestRun wsX3_become := goodIn_r _ [10, 11, 12, 13, 14, 15, 16, 17, 18, 19, 9, 20, 21, 22, 23, 24, 25, 123, 124, 125, 126, 127, 128, 129] (by decide +kernel) (by decide +kernel)
set_option maxRecDepth 20000 in
theorem gX4_greatestRun_X3_become : GoodIn wsX4_greatestRun (wsV RX4 127 RX3 yX3_become wsX3_become) := goodIn_app (goodIn_of _ (by decide +kernel)) ggX4_greatestRun_X3_become
set_option maxRecDepth 20000 in
theorem ggX4_greatestRun_X3_giveSetting : GoodIn wsX4_greatestRun wsX3_giveSetting := goodIn_r _ [29, 21, 30, 31, 32, 123, 124, 125, 126, 127, 128, 129] (by decide +kernel) (by decide +kernel)
set_option maxRecDepth 20000 in
theorem gX4_greatestRun_X3_giveSetting : GoodIn wsX4_greatestRun (wsV RX4 67 RX3 yX3_giveSetting wsX3_giveSetting) := goodIn_app (goodIn_of _ (by decide +kernel)) ggX4_greatestRun_X3_giveSetting
set_option maxRecDepth 20000 in
theorem ggX4_greatestRun_X2_perforate : GoodIn wsX4_greatestRun wsX2_perforate := goodIn_r _ [37, 38, 39, 40, 41, 42, 9, 43, 21, 30, 31, 32, 44, 45, 46, 47, 48, 49, 50, 51, 11, 52, 53, 54, 55, 12, 56, 57, 58, 59, 60, 61, 62, 63, 13, 64, 65, 66, 67, 14, 68, 69, 70, 71, 72, 73, 74, 75, 76, 77, 15, 78, 79, 80, 36, 81, 82, 83, 84, 85, 86, 87, 88, 89, 90, 16, 91, 92, 93, 94, 95, 96, 97, 98, 99, 100, 101, 102, 103, 130, 131, 132, 123, 124, 125, 126, 127, 128, 129] (by decide +kernel) (by decide +kernel)
set_option maxRecDepth 20000 in
theorem gX4_greatestRun_X2_perforate : GoodIn wsX4_greatestRun (wsV RX4 175 RX2 yX2_perforate wsX2_perforate) := goodIn_app (goodIn_of _ (by decide +kernel)) ggX4_greatestRun_X2_perforate
set_option maxRecDepth 20000 in
theorem ggX4_greatestRun_X2_weakSteps : GoodIn wsX4_greatestRun wsX2_weakSteps := goodIn_r _ [107, 108, 109, 110, 36, 111, 38, 112, 113, 114, 115, 95, 96, 97, 98, 100, 101, 102, 103, 39, 85, 31, 86, 84, 30, 32, 130, 131, 132] (by decide +kernel) (by decide +kernel)
set_option maxRecDepth 20000 in
theorem gX4_greatestRun_X2_weakSteps : GoodIn wsX4_greatestRun (wsV RX4 209 RX2 yX2_weakSteps wsX2_weakSteps) := goodIn_app (goodIn_of _ (by decide +kernel)) ggX4_greatestRun_X2_weakSteps
theorem dX4_greatestRun_0 : decode cX4_greatestRun 0 = .ok (.aload_n 0, 1) := by decide +kernel
theorem dX4_greatestRun_1 : decode cX4_greatestRun 1 = .ok (.getfield 16, 3) := by decide +kernel
theorem dX4_greatestRun_4 : decode cX4_greatestRun 4 = .ok (.aload_n 0, 1) := by decide +kernel
theorem dX4_greatestRun_5 : decode cX4_greatestRun 5 = .ok (.getfield 10, 3) := by decide +kernel
theorem dX4_greatestRun_8 : decode cX4_greatestRun 8 = .ok (.invokevirtual 127, 3) := by decide +kernel
theorem dX4_greatestRun_11 : decode cX4_greatestRun 11 = .ok (.getstatic 56, 3) := by decide +kernel
theorem dX4_greatestRun_14 : decode cX4_greatestRun 14 = .ok (.iconst 0, 1) := by decide +kernel
theorem dX4_greatestRun_15 : decode cX4_greatestRun 15 = .ok (.iaload, 1) := by decide +kernel
theorem dX4_greatestRun_16 : decode cX4_greatestRun 16 = .ok (.istore_n 1, 1) := by decide +kernel
theorem dX4_greatestRun_17 : decode cX4_greatestRun 17 = .ok (.iload_n 1, 1) := by decide +kernel
theorem dX4_greatestRun_18 : decode cX4_greatestRun 18 = .ok (.getstatic 52, 3) := by decide +kernel
theorem dX4_greatestRun_21 : decode cX4_greatestRun 21 = .ok (.iconst 0, 1) := by decide +kernel
theorem dX4_greatestRun_22 : decode cX4_greatestRun 22 = .ok (.iaload, 1) := by decide +kernel
theorem dX4_greatestRun_23 : decode cX4_greatestRun 23 = .ok (.if_icmp .lt 41, 3) := by decide +kernel
theorem dX4_greatestRun_26 : decode cX4_greatestRun 26 = .ok (.aload_n 0, 1) := by decide +kernel
theorem dX4_greatestRun_27 : decode cX4_greatestRun 27 = .ok (.getfield 16, 3) := by decide +kernel
theorem dX4_greatestRun_30 : decode cX4_greatestRun 30 = .ok (.iconst 0, 1) := by decide +kernel
theorem dX4_greatestRun_31 : decode cX4_greatestRun 31 = .ok (.iload_n 1, 1) := by decide +kernel
theorem dX4_greatestRun_32 : decode cX4_greatestRun 32 = .ok (.invokevirtual 67, 3) := by decide +kernel
theorem dX4_greatestRun_35 : decode cX4_greatestRun 35 = .ok (.aload_n 0, 1) := by decide +kernel
theorem dX4_greatestRun_36 : decode cX4_greatestRun 36 = .ok (.getfield 22, 3) := by decide +kernel
theorem dX4_greatestRun_39 : decode cX4_greatestRun 39 = .ok (.aload_n 0, 1) := by decide +kernel
theorem dX4_greatestRun_40 : decode cX4_greatestRun 40 = .ok (.getfield 16, 3) := by decide +kernel
theorem dX4_greatestRun_43 : decode cX4_greatestRun 43 = .ok (.invokevirtual 175, 3) := by decide +kernel
theorem dX4_greatestRun_46 : decode cX4_greatestRun 46 = .ok (.aload_n 0, 1) := by decide +kernel
theorem dX4_greatestRun_47 : decode cX4_greatestRun 47 = .ok (.getfield 22, 3) := by decide +kernel
theorem dX4_greatestRun_50 : decode cX4_greatestRun 50 = .ok (.invokevirtual 209, 3) := by decide +kernel
theorem dX4_greatestRun_53 : decode cX4_greatestRun 53 = .ok (.ifCond .ne 5, 3) := by decide +kernel
theorem dX4_greatestRun_56 : decode cX4_greatestRun 56 = .ok (.iload_n 1, 1) := by decide +kernel
theorem dX4_greatestRun_57 : decode cX4_greatestRun 57 = .ok (.ireturn, 1) := by decide +kernel
theorem dX4_greatestRun_58 : decode cX4_greatestRun 58 = .ok (.iinc 1 (-1), 3) := by decide +kernel
theorem dX4_greatestRun_61 : decode cX4_greatestRun 61 = .ok (.goto (-44), 3) := by decide +kernel
theorem dX4_greatestRun_64 : decode cX4_greatestRun 64 = .ok (.bipush (-6), 2) := by decide +kernel
theorem dX4_greatestRun_66 : decode cX4_greatestRun 66 = .ok (.ireturn, 1) := by decide +kernel
set_option maxRecDepth 20000 in
theorem ggX4_swallowed_X4_isTrack : GoodIn wsX4_swallowed wsX4_isTrack := goodIn_r _ [6, 7, 8, 5, 9] (by decide +kernel) (by decide +kernel)
set_option maxRecDepth 20000 in
theorem gX4_swallowed_X4_isTrack : GoodIn wsX4_swallowed (va_wsS RX4 71 yX4_isTrack wsX4_isTrack) := goodIn_app (goodIn_of _ (by decide +kernel)) ggX4_swallowed_X4_isTrack
set_option maxRecDepth 20000 in
theorem ggX4_swallowed_X2_perforate : GoodIn wsX4_swallowed wsX2_perforate := goodIn_r _ [14, 15, 16, 17, 18, 19, 20, 21, 22, 8, 5, 9, 23, 24, 25, 26, 27, 28, 29, 30, 31, 32, 33, 34, 35, 36, 37, 38, 39, 40, 41, 42, 43, 44, 45, 46, 47, 48, 49, 50, 51, 52, 53, 54, 55, 56, 57, 58, 59, 60, 61, 62, 63, 64, 13, 65, 4, 6, 7, 66, 67, 68, 69, 70, 71, 72, 73, 74, 75, 76, 77, 78, 79, 80, 81, 82, 83, 84, 85, 104, 105, 106, 107, 108, 109, 110, 111, 112, 113] (by decide +kernel) (by decide +kernel)
set_option maxRecDepth 20000 in
theorem gX4_swallowed_X2_perforate : GoodIn wsX4_swallowed (wsV RX4 175 RX2 yX2_perforate wsX2_perforate) := goodIn_app (goodIn_of _ (by decide +kernel)) ggX4_swallowed_X2_perforate
set_option maxRecDepth 20000 in
theorem ggX4_swallowed_X3_size : GoodIn wsX4_swallowed wsX3_size := goodIn_r _ [30, 31, 107, 108, 109, 110, 111, 112, 113] (by decide +kernel) (by decide +kernel)
set_option maxRecDepth 20000 in
theorem gX4_swallowed_X3_size : GoodIn wsX4_swallowed (wsV RX4 78 RX3 yX3_size wsX3_size) := goodIn_app (goodIn_of _ (by decide +kernel)) ggX4_swallowed_X3_size
set_option maxRecDepth 20000 in
theorem ggX4_swallowed_X3_trackOf : GoodIn wsX4_swallowed wsX3_trackOf := goodIn_r _ [35, 36, 37, 38, 39, 20, 40, 31, 107, 108, 109, 110, 111, 112, 113] (by decide +kernel) (by decide +kernel)
set_option maxRecDepth 20000 in
theorem gX4_swallowed_X3_trackOf : GoodIn wsX4_swallowed (wsV RX4 160 RX3 yX3_trackOf wsX3_trackOf) := goodIn_app (goodIn_of _ (by decide +kernel)) ggX4_swallowed_X3_trackOf
set_option maxRecDepth 20000 in
theorem ggX4_swallowed_X3_firstOf : GoodIn wsX4_swallowed wsX3_firstOf := goodIn_r _ [44, 45, 37, 38, 39, 20, 40, 31, 107, 108, 109, 110, 111, 112, 113] (by decide +kernel) (by decide +kernel)
set_option maxRecDepth 20000 in
theorem gX4_swallowed_X3_firstOf : GoodIn wsX4_swallowed (wsV RX4 163 RX3 yX3_firstOf wsX3_firstOf) := goodIn_app (goodIn_of _ (by decide +kernel)) ggX4_swallowed_X3_firstOf
set_option maxRecDepth 20000 in
theorem ggX4_swallowed_X2_isHeard : GoodIn wsX4_swallowed wsX2_isHeard := goodIn_r _ [92, 4, 5, 6, 7, 8, 9, 93, 94, 95, 13, 96, 81, 66, 67, 104, 105, 106] (by decide +kernel) (by decide +kernel)
set_option maxRecDepth 20000 in
theorem gX4_swallowed_X2_isHeard : GoodIn wsX4_swallowed (wsV RX4 228 RX2 yX2_isHeard wsX2_isHeard) := goodIn_app (goodIn_of _ (by decide +kernel)) ggX4_swallowed_X2_isHeard
theorem dX4_swallowed_0 : decode cX4_swallowed 0 = .ok (.iload_n 1, 1) := by decide +kernel
theorem dX4_swallowed_1 : decode cX4_swallowed 1 = .ok (.invokestatic 71, 3) := by decide +kernel
theorem dX4_swallowed_4 : decode cX4_swallowed 4 = .ok (.ifCond .ne 5, 3) := by decide +kernel
theorem dX4_swallowed_7 : decode cX4_swallowed 7 = .ok (.iconst (-1), 1) := by decide +kernel
theorem dX4_swallowed_8 : decode cX4_swallowed 8 = .ok (.ireturn, 1) := by decide +kernel
theorem dX4_swallowed_9 : decode cX4_swallowed 9 = .ok (.aload_n 0, 1) := by decide +kernel
theorem dX4_swallowed_10 : decode cX4_swallowed 10 = .ok (.getfield 22, 3) := by decide +kernel
theorem dX4_swallowed_13 : decode cX4_swallowed 13 = .ok (.aload_n 0, 1) := by decide +kernel
theorem dX4_swallowed_14 : decode cX4_swallowed 14 = .ok (.getfield 10, 3) := by decide +kernel
theorem dX4_swallowed_17 : decode cX4_swallowed 17 = .ok (.invokevirtual 175, 3) := by decide +kernel
theorem dX4_swallowed_20 : decode cX4_swallowed 20 = .ok (.iconst 0, 1) := by decide +kernel
theorem dX4_swallowed_21 : decode cX4_swallowed 21 = .ok (.istore_n 2, 1) := by decide +kernel
theorem dX4_swallowed_22 : decode cX4_swallowed 22 = .ok (.iconst 0, 1) := by decide +kernel
theorem dX4_swallowed_23 : decode cX4_swallowed 23 = .ok (.istore_n 3, 1) := by decide +kernel
theorem dX4_swallowed_24 : decode cX4_swallowed 24 = .ok (.iload_n 3, 1) := by decide +kernel
theorem dX4_swallowed_25 : decode cX4_swallowed 25 = .ok (.aload_n 0, 1) := by decide +kernel
theorem dX4_swallowed_26 : decode cX4_swallowed 26 = .ok (.getfield 10, 3) := by decide +kernel
theorem dX4_swallowed_29 : decode cX4_swallowed 29 = .ok (.invokevirtual 78, 3) := by decide +kernel
theorem dX4_swallowed_32 : decode cX4_swallowed 32 = .ok (.if_icmp .ge 45, 3) := by decide +kernel
theorem dX4_swallowed_35 : decode cX4_swallowed 35 = .ok (.aload_n 0, 1) := by decide +kernel
theorem dX4_swallowed_36 : decode cX4_swallowed 36 = .ok (.getfield 10, 3) := by decide +kernel
theorem dX4_swallowed_39 : decode cX4_swallowed 39 = .ok (.iload_n 3, 1) := by decide +kernel
theorem dX4_swallowed_40 : decode cX4_swallowed 40 = .ok (.invokevirtual 160, 3) := by decide +kernel
theorem dX4_swallowed_43 : decode cX4_swallowed 43 = .ok (.iload_n 1, 1) := by decide +kernel
theorem dX4_swallowed_44 : decode cX4_swallowed 44 = .ok (.if_icmp .ne 27, 3) := by decide +kernel
theorem dX4_swallowed_47 : decode cX4_swallowed 47 = .ok (.aload_n 0, 1) := by decide +kernel
theorem dX4_swallowed_48 : decode cX4_swallowed 48 = .ok (.getfield 22, 3) := by decide +kernel
theorem dX4_swallowed_51 : decode cX4_swallowed 51 = .ok (.iload_n 1, 1) := by decide +kernel
theorem dX4_swallowed_52 : decode cX4_swallowed 52 = .ok (.aload_n 0, 1) := by decide +kernel
theorem dX4_swallowed_53 : decode cX4_swallowed 53 = .ok (.getfield 10, 3) := by decide +kernel
theorem dX4_swallowed_56 : decode cX4_swallowed 56 = .ok (.iload_n 3, 1) := by decide +kernel
theorem dX4_swallowed_57 : decode cX4_swallowed 57 = .ok (.invokevirtual 163, 3) := by decide +kernel
theorem dX4_swallowed_60 : decode cX4_swallowed 60 = .ok (.iconst 1, 1) := by decide +kernel
theorem dX4_swallowed_61 : decode cX4_swallowed 61 = .ok (.isub, 1) := by decide +kernel
theorem dX4_swallowed_62 : decode cX4_swallowed 62 = .ok (.invokevirtual 228, 3) := by decide +kernel
theorem dX4_swallowed_65 : decode cX4_swallowed 65 = .ok (.ifCond .eq 6, 3) := by decide +kernel
theorem dX4_swallowed_68 : decode cX4_swallowed 68 = .ok (.iinc 2 1, 3) := by decide +kernel
theorem dX4_swallowed_71 : decode cX4_swallowed 71 = .ok (.iinc 3 1, 3) := by decide +kernel
theorem dX4_swallowed_74 : decode cX4_swallowed 74 = .ok (.goto (-50), 3) := by decide +kernel
theorem dX4_swallowed_77 : decode cX4_swallowed 77 = .ok (.iload_n 2, 1) := by decide +kernel
theorem dX4_swallowed_78 : decode cX4_swallowed 78 = .ok (.ireturn, 1) := by decide +kernel
set_option maxRecDepth 20000 in
theorem ggX4_freeGoal_X4_isPassage : GoodIn wsX4_freeGoal wsX4_isPassage := goodIn_r _ [5, 6, 7, 4, 8, 9, 10, 11] (by decide +kernel) (by decide +kernel)
set_option maxRecDepth 20000 in
theorem gX4_freeGoal_X4_isPassage : GoodIn wsX4_freeGoal (va_wsS RX4 130 yX4_isPassage wsX4_isPassage) := goodIn_app (goodIn_of _ (by decide +kernel)) ggX4_freeGoal_X4_isPassage
set_option maxRecDepth 20000 in
theorem ggX4_freeGoal_X3_within : GoodIn wsX4_freeGoal wsX3_within := goodIn_r _ [16, 17, 18, 19, 20, 15, 21, 22, 23, 24, 25, 26, 27, 28, 29, 30, 31, 32, 33, 34, 35, 68, 69, 70, 71, 72, 73, 74] (by decide +kernel) (by decide +kernel)
set_option maxRecDepth 20000 in
theorem gX4_freeGoal_X3_within : GoodIn wsX4_freeGoal (wsV RX4 134 RX3 yX3_within wsX3_within) := goodIn_app (goodIn_of _ (by decide +kernel)) ggX4_freeGoal_X3_within
set_option maxRecDepth 20000 in
theorem ggX4_freeGoal_X3_size : GoodIn wsX4_freeGoal wsX3_size := goodIn_r _ [39, 17, 68, 69, 70, 71, 72, 73, 74] (by decide +kernel) (by decide +kernel)
set_option maxRecDepth 20000 in
theorem gX4_freeGoal_X3_size : GoodIn wsX4_freeGoal (wsV RX4 78 RX3 yX3_size wsX3_size) := goodIn_app (goodIn_of _ (by decide +kernel)) ggX4_freeGoal_X3_size
set_option maxRecDepth 20000 in
theorem ggX4_freeGoal_X4_isFreeAt : GoodIn wsX4_freeGoal wsX4_isFreeAt := goodIn_r _ [43, 1, 36, 37, 38, 15, 39, 17, 44, 19, 20, 21, 22, 23, 24, 25, 26, 27, 28, 29, 30, 31, 32, 33, 34, 35, 45, 46, 47, 48, 49, 50, 51, 52, 53, 54, 55, 56, 57, 58, 59, 60, 61, 62, 63, 64, 65, 66, 67, 68, 69, 70, 71, 72, 73, 74] (by decide +kernel) (by decide +kernel)
set_option maxRecDepth 20000 in
theorem gX4_freeGoal_X4_isFreeAt : GoodIn wsX4_freeGoal (wsV RX4 137 RX4 yX4_isFreeAt wsX4_isFreeAt) := goodIn_app (goodIn_of _ (by decide +kernel)) ggX4_freeGoal_X4_isFreeAt
theorem dX4_freeGoal_0 : decode cX4_freeGoal 0 = .ok (.iload_n 1, 1) := by decide +kernel
theorem dX4_freeGoal_1 : decode cX4_freeGoal 1 = .ok (.iload_n 2, 1) := by decide +kernel
theorem dX4_freeGoal_2 : decode cX4_freeGoal 2 = .ok (.invokestatic 130, 3) := by decide +kernel
theorem dX4_freeGoal_5 : decode cX4_freeGoal 5 = .ok (.ifCond .ne 6, 3) := by decide +kernel
theorem dX4_freeGoal_8 : decode cX4_freeGoal 8 = .ok (.bipush (-2), 2) := by decide +kernel
theorem dX4_freeGoal_10 : decode cX4_freeGoal 10 = .ok (.ireturn, 1) := by decide +kernel
theorem dX4_freeGoal_11 : decode cX4_freeGoal 11 = .ok (.aload_n 0, 1) := by decide +kernel
theorem dX4_freeGoal_12 : decode cX4_freeGoal 12 = .ok (.getfield 10, 3) := by decide +kernel
theorem dX4_freeGoal_15 : decode cX4_freeGoal 15 = .ok (.iload_n 1, 1) := by decide +kernel
theorem dX4_freeGoal_16 : decode cX4_freeGoal 16 = .ok (.iload_n 2, 1) := by decide +kernel
theorem dX4_freeGoal_17 : decode cX4_freeGoal 17 = .ok (.invokevirtual 134, 3) := by decide +kernel
theorem dX4_freeGoal_20 : decode cX4_freeGoal 20 = .ok (.istore_n 3, 1) := by decide +kernel
theorem dX4_freeGoal_21 : decode cX4_freeGoal 21 = .ok (.iload_n 3, 1) := by decide +kernel
theorem dX4_freeGoal_22 : decode cX4_freeGoal 22 = .ok (.ifCond .eq 17, 3) := by decide +kernel
theorem dX4_freeGoal_25 : decode cX4_freeGoal 25 = .ok (.aload_n 0, 1) := by decide +kernel
theorem dX4_freeGoal_26 : decode cX4_freeGoal 26 = .ok (.getfield 10, 3) := by decide +kernel
theorem dX4_freeGoal_29 : decode cX4_freeGoal 29 = .ok (.invokevirtual 78, 3) := by decide +kernel
theorem dX4_freeGoal_32 : decode cX4_freeGoal 32 = .ok (.iload_n 3, 1) := by decide +kernel
theorem dX4_freeGoal_33 : decode cX4_freeGoal 33 = .ok (.iadd, 1) := by decide +kernel
theorem dX4_freeGoal_34 : decode cX4_freeGoal 34 = .ok (.bipush 40, 2) := by decide +kernel
theorem dX4_freeGoal_36 : decode cX4_freeGoal 36 = .ok (.if_icmp .le 6, 3) := by decide +kernel
theorem dX4_freeGoal_39 : decode cX4_freeGoal 39 = .ok (.bipush (-6), 2) := by decide +kernel
theorem dX4_freeGoal_41 : decode cX4_freeGoal 41 = .ok (.ireturn, 1) := by decide +kernel
theorem dX4_freeGoal_42 : decode cX4_freeGoal 42 = .ok (.iconst 0, 1) := by decide +kernel
theorem dX4_freeGoal_43 : decode cX4_freeGoal 43 = .ok (.istore 4, 2) := by decide +kernel
theorem dX4_freeGoal_45 : decode cX4_freeGoal 45 = .ok (.iload 4, 2) := by decide +kernel
theorem dX4_freeGoal_47 : decode cX4_freeGoal 47 = .ok (.bipush 100, 2) := by decide +kernel
theorem dX4_freeGoal_49 : decode cX4_freeGoal 49 = .ok (.if_icmp .ge 23, 3) := by decide +kernel
theorem dX4_freeGoal_52 : decode cX4_freeGoal 52 = .ok (.aload_n 0, 1) := by decide +kernel
theorem dX4_freeGoal_53 : decode cX4_freeGoal 53 = .ok (.iload_n 1, 1) := by decide +kernel
theorem dX4_freeGoal_54 : decode cX4_freeGoal 54 = .ok (.iload_n 2, 1) := by decide +kernel
theorem dX4_freeGoal_55 : decode cX4_freeGoal 55 = .ok (.iload 4, 2) := by decide +kernel
theorem dX4_freeGoal_57 : decode cX4_freeGoal 57 = .ok (.invokevirtual 137, 3) := by decide +kernel
theorem dX4_freeGoal_60 : decode cX4_freeGoal 60 = .ok (.ifCond .eq 6, 3) := by decide +kernel
theorem dX4_freeGoal_63 : decode cX4_freeGoal 63 = .ok (.iload 4, 2) := by decide +kernel
theorem dX4_freeGoal_65 : decode cX4_freeGoal 65 = .ok (.ireturn, 1) := by decide +kernel
theorem dX4_freeGoal_66 : decode cX4_freeGoal 66 = .ok (.iinc 4 1, 3) := by decide +kernel
theorem dX4_freeGoal_69 : decode cX4_freeGoal 69 = .ok (.goto (-24), 3) := by decide +kernel
theorem dX4_freeGoal_72 : decode cX4_freeGoal 72 = .ok (.bipush (-6), 2) := by decide +kernel
theorem dX4_freeGoal_74 : decode cX4_freeGoal 74 = .ok (.ireturn, 1) := by decide +kernel
set_option maxRecDepth 20000 in
theorem ggX4_put_X4_charactersIn : GoodIn wsX4_put wsX4_charactersIn := goodIn_r _ [5, 6, 7, 4, 8, 9, 10, 11] (by decide +kernel) (by decide +kernel)
set_option maxRecDepth 20000 in
theorem gX4_put_X4_charactersIn : GoodIn wsX4_put (va_wsS RX4 231 yX4_charactersIn wsX4_charactersIn) := goodIn_app (goodIn_of _ (by decide +kernel)) ggX4_put_X4_charactersIn
set_option maxRecDepth 20000 in
theorem ggX4_put_X1_length : GoodIn wsX4_put wsX1_length := goodIn_r _ [16, 17, 30, 31, 32, 33, 34, 35, 36, 37] (by decide +kernel) (by decide +kernel)
set_option maxRecDepth 20000 in
theorem gX4_put_X1_length : GoodIn wsX4_put (wsV RX4 224 RX1 yX1_length wsX1_length) := goodIn_app (goodIn_of _ (by decide +kernel)) ggX4_put_X1_length
set_option maxRecDepth 20000 in
theorem ggX4_put_X4_codeIn : GoodIn wsX4_put wsX4_codeIn := goodIn_r _ [8, 9, 10, 4, 11] (by decide +kernel) (by decide +kernel)
set_option maxRecDepth 20000 in
theorem gX4_put_X4_codeIn : GoodIn wsX4_put (va_wsS RX4 235 yX4_codeIn wsX4_codeIn) := goodIn_app (goodIn_of _ (by decide +kernel)) ggX4_put_X4_codeIn
set_option maxRecDepth 20000 in
theorem ggX4_put_X1_append : GoodIn wsX4_put wsX1_append := goodIn_r _ [21, 17, 22, 30, 31, 32, 33, 34, 35, 36, 37] (by decide +kernel) (by decide +kernel)
set_option maxRecDepth 20000 in
theorem gX4_put_X1_append : GoodIn wsX4_put (wsV RX4 239 RX1 yX1_append wsX1_append) := goodIn_app (goodIn_of _ (by decide +kernel)) ggX4_put_X1_append
theorem dX4_put_0 : decode cX4_put 0 = .ok (.lload_n 1, 1) := by decide +kernel
theorem dX4_put_1 : decode cX4_put 1 = .ok (.invokestatic 231, 3) := by decide +kernel
theorem dX4_put_4 : decode cX4_put 4 = .ok (.istore_n 3, 1) := by decide +kernel
theorem dX4_put_5 : decode cX4_put 5 = .ok (.iload_n 3, 1) := by decide +kernel
theorem dX4_put_6 : decode cX4_put 6 = .ok (.ifCond .ne 6, 3) := by decide +kernel
theorem dX4_put_9 : decode cX4_put 9 = .ok (.bipush (-2), 2) := by decide +kernel
theorem dX4_put_11 : decode cX4_put 11 = .ok (.ireturn, 1) := by decide +kernel
theorem dX4_put_12 : decode cX4_put 12 = .ok (.aload_n 0, 1) := by decide +kernel
theorem dX4_put_13 : decode cX4_put 13 = .ok (.getfield 29, 3) := by decide +kernel
theorem dX4_put_16 : decode cX4_put 16 = .ok (.invokevirtual 224, 3) := by decide +kernel
theorem dX4_put_19 : decode cX4_put 19 = .ok (.iload_n 3, 1) := by decide +kernel
theorem dX4_put_20 : decode cX4_put 20 = .ok (.iadd, 1) := by decide +kernel
theorem dX4_put_21 : decode cX4_put 21 = .ok (.bipush 60, 2) := by decide +kernel
theorem dX4_put_23 : decode cX4_put 23 = .ok (.if_icmp .le 6, 3) := by decide +kernel
theorem dX4_put_26 : decode cX4_put 26 = .ok (.bipush (-4), 2) := by decide +kernel
theorem dX4_put_28 : decode cX4_put 28 = .ok (.ireturn, 1) := by decide +kernel
theorem dX4_put_29 : decode cX4_put 29 = .ok (.iload_n 3, 1) := by decide +kernel
theorem dX4_put_30 : decode cX4_put 30 = .ok (.iconst 1, 1) := by decide +kernel
theorem dX4_put_31 : decode cX4_put 31 = .ok (.isub, 1) := by decide +kernel
theorem dX4_put_32 : decode cX4_put 32 = .ok (.istore 4, 2) := by decide +kernel
theorem dX4_put_34 : decode cX4_put 34 = .ok (.iload 4, 2) := by decide +kernel
theorem dX4_put_36 : decode cX4_put 36 = .ok (.ifCond .lt 23, 3) := by decide +kernel
theorem dX4_put_39 : decode cX4_put 39 = .ok (.aload_n 0, 1) := by decide +kernel
theorem dX4_put_40 : decode cX4_put 40 = .ok (.getfield 29, 3) := by decide +kernel
theorem dX4_put_43 : decode cX4_put 43 = .ok (.lload_n 1, 1) := by decide +kernel
theorem dX4_put_44 : decode cX4_put 44 = .ok (.iload 4, 2) := by decide +kernel
theorem dX4_put_46 : decode cX4_put 46 = .ok (.invokestatic 235, 3) := by decide +kernel
theorem dX4_put_49 : decode cX4_put 49 = .ok (.i2c, 1) := by decide +kernel
theorem dX4_put_50 : decode cX4_put 50 = .ok (.invokevirtual 239, 3) := by decide +kernel
theorem dX4_put_53 : decode cX4_put 53 = .ok (.iinc 4 (-1), 3) := by decide +kernel
theorem dX4_put_56 : decode cX4_put 56 = .ok (.goto (-22), 3) := by decide +kernel
theorem dX4_put_59 : decode cX4_put 59 = .ok (.aload_n 0, 1) := by decide +kernel
theorem dX4_put_60 : decode cX4_put 60 = .ok (.getfield 29, 3) := by decide +kernel
theorem dX4_put_63 : decode cX4_put 63 = .ok (.invokevirtual 224, 3) := by decide +kernel
theorem dX4_put_66 : decode cX4_put 66 = .ok (.ireturn, 1) := by decide +kernel
set_option maxRecDepth 20000 in
theorem ggX4_wipe_X1_length : GoodIn wsX4_wipe wsX1_length := goodIn_r _ [6, 7, 19, 20, 21, 22, 23, 24, 25, 26] (by decide +kernel) (by decide +kernel)
set_option maxRecDepth 20000 in
theorem gX4_wipe_X1_length : GoodIn wsX4_wipe (wsV RX4 224 RX1 yX1_length wsX1_length) := goodIn_app (goodIn_of _ (by decide +kernel)) ggX4_wipe_X1_length
set_option maxRecDepth 20000 in
theorem ggX4_wipe_X1_clear : GoodIn wsX4_wipe wsX1_clear := goodIn_r _ [11, 7, 19, 20, 21, 22, 23, 24, 25, 26] (by decide +kernel) (by decide +kernel)
set_option maxRecDepth 20000 in
theorem gX4_wipe_X1_clear : GoodIn wsX4_wipe (wsV RX4 157 RX1 yX1_clear wsX1_clear) := goodIn_app (goodIn_of _ (by decide +kernel)) ggX4_wipe_X1_clear
theorem dX4_wipe_0 : decode cX4_wipe 0 = .ok (.aload_n 0, 1) := by decide +kernel
theorem dX4_wipe_1 : decode cX4_wipe 1 = .ok (.getfield 29, 3) := by decide +kernel
theorem dX4_wipe_4 : decode cX4_wipe 4 = .ok (.invokevirtual 224, 3) := by decide +kernel
theorem dX4_wipe_7 : decode cX4_wipe 7 = .ok (.istore_n 1, 1) := by decide +kernel
theorem dX4_wipe_8 : decode cX4_wipe 8 = .ok (.aload_n 0, 1) := by decide +kernel
theorem dX4_wipe_9 : decode cX4_wipe 9 = .ok (.getfield 29, 3) := by decide +kernel
theorem dX4_wipe_12 : decode cX4_wipe 12 = .ok (.invokevirtual 157, 3) := by decide +kernel
theorem dX4_wipe_15 : decode cX4_wipe 15 = .ok (.iload_n 1, 1) := by decide +kernel
theorem dX4_wipe_16 : decode cX4_wipe 16 = .ok (.ireturn, 1) := by decide +kernel
set_option maxRecDepth 20000 in
theorem ggX4_fault_X1_scan : GoodIn wsX4_fault wsX1_scan := goodIn_r _ [6, 7, 8, 9, 10, 11, 12, 5, 13, 14, 15, 16, 17, 18, 19, 20, 21, 22, 23, 24, 25, 26, 27, 28, 29, 30, 31, 32, 33, 34, 35, 36, 37, 38, 50, 51, 52, 53, 54, 55, 56, 57] (by decide +kernel) (by decide +kernel)
set_option maxRecDepth 20000 in
theorem gX4_fault_X1_scan : GoodIn wsX4_fault (wsV RX4 144 RX1 yX1_scan wsX1_scan) := goodIn_app (goodIn_of _ (by decide +kernel)) ggX4_fault_X1_scan
set_option maxRecDepth 20000 in
theorem ggX4_fault_X1_position : GoodIn wsX4_fault wsX1_position := goodIn_r _ [42, 7, 50, 51, 52, 53, 54, 55, 56, 57] (by decide +kernel) (by decide +kernel)
set_option maxRecDepth 20000 in
theorem gX4_fault_X1_position : GoodIn wsX4_fault (wsV RX4 243 RX1 yX1_position wsX1_position) := goodIn_app (goodIn_of _ (by decide +kernel)) ggX4_fault_X1_position
theorem dX4_fault_0 : decode cX4_fault 0 = .ok (.aload_n 0, 1) := by decide +kernel
theorem dX4_fault_1 : decode cX4_fault 1 = .ok (.getfield 29, 3) := by decide +kernel
theorem dX4_fault_4 : decode cX4_fault 4 = .ok (.invokevirtual 144, 3) := by decide +kernel
theorem dX4_fault_7 : decode cX4_fault 7 = .ok (.ifCond .eq 8, 3) := by decide +kernel
theorem dX4_fault_10 : decode cX4_fault 10 = .ok (.bipush (-6), 2) := by decide +kernel
theorem dX4_fault_12 : decode cX4_fault 12 = .ok (.goto 10, 3) := by decide +kernel
theorem dX4_fault_15 : decode cX4_fault 15 = .ok (.aload_n 0, 1) := by decide +kernel
theorem dX4_fault_16 : decode cX4_fault 16 = .ok (.getfield 29, 3) := by decide +kernel
theorem dX4_fault_19 : decode cX4_fault 19 = .ok (.invokevirtual 243, 3) := by decide +kernel
theorem dX4_fault_22 : decode cX4_fault 22 = .ok (.ireturn, 1) := by decide +kernel
set_option maxRecDepth 20000 in
theorem ggX4_undo_X0_size : GoodIn wsX4_undo wsX0_size := goodIn_r _ [7, 8, 50, 51, 52] (by decide +kernel) (by decide +kernel)
set_option maxRecDepth 20000 in
theorem gX4_undo_X0_size : GoodIn wsX4_undo (wsV RX4 227 RX0 yX0_size wsX0_size) := goodIn_app (goodIn_of _ (by decide +kernel)) ggX4_undo_X0_size
set_option maxRecDepth 20000 in
theorem ggX4_undo_X0_takeBack : GoodIn wsX4_undo wsX0_takeBack := goodIn_r _ [12, 8, 13, 14, 15, 16, 6, 17, 18, 19, 20, 21, 22, 23, 24, 25, 26, 27, 28, 29, 30, 31, 32, 33, 34, 35, 36, 37, 38, 39, 40, 41, 42, 50, 51, 52, 53, 54, 55, 56, 57, 58, 59] (by decide +kernel) (by decide +kernel)
set_option maxRecDepth 20000 in
theorem gX4_undo_X0_takeBack : GoodIn wsX4_undo (wsV RX4 246 RX0 yX0_takeBack wsX0_takeBack) := goodIn_app (goodIn_of _ (by decide +kernel)) ggX4_undo_X0_takeBack
theorem dX4_undo_0 : decode cX4_undo 0 = .ok (.aload_n 0, 1) := by decide +kernel
theorem dX4_undo_1 : decode cX4_undo 1 = .ok (.getfield 36, 3) := by decide +kernel
theorem dX4_undo_4 : decode cX4_undo 4 = .ok (.invokevirtual 227, 3) := by decide +kernel
theorem dX4_undo_7 : decode cX4_undo 7 = .ok (.ifCond .ne 6, 3) := by decide +kernel
theorem dX4_undo_10 : decode cX4_undo 10 = .ok (.bipush (-5), 2) := by decide +kernel
theorem dX4_undo_12 : decode cX4_undo 12 = .ok (.ireturn, 1) := by decide +kernel
theorem dX4_undo_13 : decode cX4_undo 13 = .ok (.aload_n 0, 1) := by decide +kernel
theorem dX4_undo_14 : decode cX4_undo 14 = .ok (.getfield 36, 3) := by decide +kernel
theorem dX4_undo_17 : decode cX4_undo 17 = .ok (.aload_n 0, 1) := by decide +kernel
theorem dX4_undo_18 : decode cX4_undo 18 = .ok (.getfield 10, 3) := by decide +kernel
theorem dX4_undo_21 : decode cX4_undo 21 = .ok (.invokevirtual 246, 3) := by decide +kernel
theorem dX4_undo_24 : decode cX4_undo 24 = .ok (.aload_n 0, 1) := by decide +kernel
theorem dX4_undo_25 : decode cX4_undo 25 = .ok (.getfield 36, 3) := by decide +kernel
theorem dX4_undo_28 : decode cX4_undo 28 = .ok (.invokevirtual 227, 3) := by decide +kernel
theorem dX4_undo_31 : decode cX4_undo 31 = .ok (.ireturn, 1) := by decide +kernel
set_option maxRecDepth 20000 in
theorem ggX4_save_X4_isIn : GoodIn wsX4_save wsX4_isIn := goodIn_r _ [7] (by decide +kernel) (by decide +kernel)
set_option maxRecDepth 20000 in
theorem gX4_save_X4_isIn : GoodIn wsX4_save (va_wsS RX4 48 yX4_isIn wsX4_isIn) := goodIn_app (goodIn_of _ (by decide +kernel)) ggX4_save_X4_isIn
set_option maxRecDepth 20000 in
theorem ggX4_save_X3_become : GoodIn wsX4_save wsX3_become := goodIn_r _ [12, 13, 14, 15, 16, 17, 18, 19, 20, 21, 11, 22, 23, 24, 25, 26, 27, 39, 40, 41, 42, 43, 44, 45] (by decide +kernel) (by decide +kernel)
set_option maxRecDepth 20000 in
theorem gX4_save_X3_become : GoodIn wsX4_save (wsV RX4 127 RX3 yX3_become wsX3_become) := goodIn_app (goodIn_of _ (by decide +kernel)) ggX4_save_X3_become
set_option maxRecDepth 20000 in
theorem ggX4_save_X3_size : GoodIn wsX4_save wsX3_size := goodIn_r _ [31, 13, 39, 40, 41, 42, 43, 44, 45] (by decide +kernel) (by decide +kernel)
set_option maxRecDepth 20000 in
theorem gX4_save_X3_size : GoodIn wsX4_save (wsV RX4 78 RX3 yX3_size wsX3_size) := goodIn_app (goodIn_of _ (by decide +kernel)) ggX4_save_X3_size
theorem dX4_save_0 : decode cX4_save 0 = .ok (.iload_n 1, 1) := by decide +kernel
theorem dX4_save_1 : decode cX4_save 1 = .ok (.iconst 0, 1) := by decide +kernel
theorem dX4_save_2 : decode cX4_save 2 = .ok (.iconst 1, 1) := by decide +kernel
theorem dX4_save_3 : decode cX4_save 3 = .ok (.invokestatic 48, 3) := by decide +kernel
theorem dX4_save_6 : decode cX4_save 6 = .ok (.ifCond .ne 6, 3) := by decide +kernel
theorem dX4_save_9 : decode cX4_save 9 = .ok (.bipush (-2), 2) := by decide +kernel
theorem dX4_save_11 : decode cX4_save 11 = .ok (.ireturn, 1) := by decide +kernel
theorem dX4_save_12 : decode cX4_save 12 = .ok (.aload_n 0, 1) := by decide +kernel
theorem dX4_save_13 : decode cX4_save 13 = .ok (.getfield 40, 3) := by decide +kernel
theorem dX4_save_16 : decode cX4_save 16 = .ok (.iload_n 1, 1) := by decide +kernel
theorem dX4_save_17 : decode cX4_save 17 = .ok (.aaload, 1) := by decide +kernel
theorem dX4_save_18 : decode cX4_save 18 = .ok (.aload_n 0, 1) := by decide +kernel
theorem dX4_save_19 : decode cX4_save 19 = .ok (.getfield 10, 3) := by decide +kernel
theorem dX4_save_22 : decode cX4_save 22 = .ok (.invokevirtual 127, 3) := by decide +kernel
theorem dX4_save_25 : decode cX4_save 25 = .ok (.aload_n 0, 1) := by decide +kernel
theorem dX4_save_26 : decode cX4_save 26 = .ok (.getfield 44, 3) := by decide +kernel
theorem dX4_save_29 : decode cX4_save 29 = .ok (.iload_n 1, 1) := by decide +kernel
theorem dX4_save_30 : decode cX4_save 30 = .ok (.iconst 1, 1) := by decide +kernel
theorem dX4_save_31 : decode cX4_save 31 = .ok (.bastore, 1) := by decide +kernel
theorem dX4_save_32 : decode cX4_save 32 = .ok (.aload_n 0, 1) := by decide +kernel
theorem dX4_save_33 : decode cX4_save 33 = .ok (.getfield 10, 3) := by decide +kernel
theorem dX4_save_36 : decode cX4_save 36 = .ok (.invokevirtual 78, 3) := by decide +kernel
theorem dX4_save_39 : decode cX4_save 39 = .ok (.ireturn, 1) := by decide +kernel
set_option maxRecDepth 20000 in
theorem ggX4_restore_X4_isIn : GoodIn wsX4_restore wsX4_isIn := goodIn_r _ [8] (by decide +kernel) (by decide +kernel)
set_option maxRecDepth 20000 in
theorem gX4_restore_X4_isIn : GoodIn wsX4_restore (va_wsS RX4 48 yX4_isIn wsX4_isIn) := goodIn_app (goodIn_of _ (by decide +kernel)) ggX4_restore_X4_isIn
set_option maxRecDepth 20000 in
theorem ggX4_restore_X0_record : GoodIn wsX4_restore wsX0_record := goodIn_r _ [13, 14, 15, 16, 17, 18, 19, 12, 20, 21, 22, 23, 24, 25, 26, 27, 28, 29, 30, 31, 32, 33, 34, 35, 36, 37, 38, 39, 40, 41, 42, 43, 44, 57, 58, 59, 60, 61, 62, 63, 64, 65, 66] (by decide +kernel) (by decide +kernel)
set_option maxRecDepth 20000 in
theorem gX4_restore_X0_record : GoodIn wsX4_restore (wsV RX4 63 RX0 yX0_record wsX0_record) := goodIn_app (goodIn_of _ (by decide +kernel)) ggX4_restore_X0_record
set_option maxRecDepth 20000 in
theorem ggX4_restore_X3_become : GoodIn wsX4_restore wsX3_become := goodIn_r _ [29, 30, 31, 32, 33, 34, 35, 36, 37, 38, 28, 39, 40, 41, 42, 43, 44, 60, 61, 62, 63, 64, 65, 66] (by decide +kernel) (by decide +kernel)
set_option maxRecDepth 20000 in
theorem gX4_restore_X3_become : GoodIn wsX4_restore (wsV RX4 127 RX3 yX3_become wsX3_become) := goodIn_app (goodIn_of _ (by decide +kernel)) ggX4_restore_X3_become
set_option maxRecDepth 20000 in
theorem ggX4_restore_X3_size : GoodIn wsX4_restore wsX3_size := goodIn_r _ [49, 30, 60, 61, 62, 63, 64, 65, 66] (by decide +kernel) (by decide +kernel)
set_option maxRecDepth 20000 in
theorem gX4_restore_X3_size : GoodIn wsX4_restore (wsV RX4 78 RX3 yX3_size wsX3_size) := goodIn_app (goodIn_of _ (by decide +kernel)) ggX4_restore_X3_size
theorem dX4_restore_0 : decode cX4_restore 0 = .ok (.iload_n 1, 1) := by decide +kernel
theorem dX4_restore_1 : decode cX4_restore 1 = .ok (.iconst 0, 1) := by decide +kernel
theorem dX4_restore_2 : decode cX4_restore 2 = .ok (.iconst 1, 1) := by decide +kernel
theorem dX4_restore_3 : decode cX4_restore 3 = .ok (.invokestatic 48, 3) := by decide +kernel
theorem dX4_restore_6 : decode cX4_restore 6 = .ok (.ifCond .ne 6, 3) := by decide +kernel
theorem dX4_restore_9 : decode cX4_restore 9 = .ok (.bipush (-2), 2) := by decide +kernel
theorem dX4_restore_11 : decode cX4_restore 11 = .ok (.ireturn, 1) := by decide +kernel
theorem dX4_restore_12 : decode cX4_restore 12 = .ok (.aload_n 0, 1) := by decide +kernel
theorem dX4_restore_13 : decode cX4_restore 13 = .ok (.getfield 44, 3) := by decide +kernel
theorem dX4_restore_16 : decode cX4_restore 16 = .ok (.iload_n 1, 1) := by decide +kernel
theorem dX4_restore_17 : decode cX4_restore 17 = .ok (.baload, 1) := by decide +kernel
theorem dX4_restore_18 : decode cX4_restore 18 = .ok (.ifCond .ne 6, 3) := by decide +kernel
theorem dX4_restore_21 : decode cX4_restore 21 = .ok (.bipush (-5), 2) := by decide +kernel
theorem dX4_restore_23 : decode cX4_restore 23 = .ok (.ireturn, 1) := by decide +kernel
theorem dX4_restore_24 : decode cX4_restore 24 = .ok (.aload_n 0, 1) := by decide +kernel
theorem dX4_restore_25 : decode cX4_restore 25 = .ok (.getfield 36, 3) := by decide +kernel
theorem dX4_restore_28 : decode cX4_restore 28 = .ok (.aload_n 0, 1) := by decide +kernel
theorem dX4_restore_29 : decode cX4_restore 29 = .ok (.getfield 10, 3) := by decide +kernel
theorem dX4_restore_32 : decode cX4_restore 32 = .ok (.invokevirtual 63, 3) := by decide +kernel
theorem dX4_restore_35 : decode cX4_restore 35 = .ok (.aload_n 0, 1) := by decide +kernel
theorem dX4_restore_36 : decode cX4_restore 36 = .ok (.getfield 10, 3) := by decide +kernel
theorem dX4_restore_39 : decode cX4_restore 39 = .ok (.aload_n 0, 1) := by decide +kernel
theorem dX4_restore_40 : decode cX4_restore 40 = .ok (.getfield 40, 3) := by decide +kernel
theorem dX4_restore_43 : decode cX4_restore 43 = .ok (.iload_n 1, 1) := by decide +kernel
theorem dX4_restore_44 : decode cX4_restore 44 = .ok (.aaload, 1) := by decide +kernel
theorem dX4_restore_45 : decode cX4_restore 45 = .ok (.invokevirtual 127, 3) := by decide +kernel
theorem dX4_restore_48 : decode cX4_restore 48 = .ok (.aload_n 0, 1) := by decide +kernel
theorem dX4_restore_49 : decode cX4_restore 49 = .ok (.getfield 10, 3) := by decide +kernel
theorem dX4_restore_52 : decode cX4_restore 52 = .ok (.invokevirtual 78, 3) := by decide +kernel
theorem dX4_restore_55 : decode cX4_restore 55 = .ok (.ireturn, 1) := by decide +kernel
theorem dX4_isIn_0 : decode cX4_isIn 0 = .ok (.iload_n 0, 1) := by decide +kernel
theorem dX4_isIn_1 : decode cX4_isIn 1 = .ok (.iload_n 1, 1) := by decide +kernel
theorem dX4_isIn_2 : decode cX4_isIn 2 = .ok (.if_icmp .lt 12, 3) := by decide +kernel
theorem dX4_isIn_5 : decode cX4_isIn 5 = .ok (.iload_n 0, 1) := by decide +kernel
theorem dX4_isIn_6 : decode cX4_isIn 6 = .ok (.iload_n 2, 1) := by decide +kernel
theorem dX4_isIn_7 : decode cX4_isIn 7 = .ok (.if_icmp .gt 7, 3) := by decide +kernel
theorem dX4_isIn_10 : decode cX4_isIn 10 = .ok (.iconst 1, 1) := by decide +kernel
theorem dX4_isIn_11 : decode cX4_isIn 11 = .ok (.goto 4, 3) := by decide +kernel
theorem dX4_isIn_14 : decode cX4_isIn 14 = .ok (.iconst 0, 1) := by decide +kernel
theorem dX4_isIn_15 : decode cX4_isIn 15 = .ok (.ireturn, 1) := by decide +kernel
set_option maxRecDepth 20000 in
theorem ggX4_isTrack_X4_isIn : GoodIn wsX4_isTrack wsX4_isIn := goodIn_r _ [4] (by decide +kernel) (by decide +kernel)
set_option maxRecDepth 20000 in
theorem gX4_isTrack_X4_isIn : GoodIn wsX4_isTrack (va_wsS RX4 48 yX4_isIn wsX4_isIn) := goodIn_app (goodIn_of _ (by decide +kernel)) ggX4_isTrack_X4_isIn
theorem dX4_isTrack_0 : decode cX4_isTrack 0 = .ok (.iload_n 0, 1) := by decide +kernel
theorem dX4_isTrack_1 : decode cX4_isTrack 1 = .ok (.iconst 0, 1) := by decide +kernel
theorem dX4_isTrack_2 : decode cX4_isTrack 2 = .ok (.bipush 11, 2) := by decide +kernel
theorem dX4_isTrack_4 : decode cX4_isTrack 4 = .ok (.invokestatic 48, 3) := by decide +kernel
theorem dX4_isTrack_7 : decode cX4_isTrack 7 = .ok (.ireturn, 1) := by decide +kernel
set_option maxRecDepth 20000 in
theorem ggX4_isStep_X4_isIn : GoodIn wsX4_isStep wsX4_isIn := goodIn_r _ [4] (by decide +kernel) (by decide +kernel)
set_option maxRecDepth 20000 in
theorem gX4_isStep_X4_isIn : GoodIn wsX4_isStep (va_wsS RX4 48 yX4_isIn wsX4_isIn) := goodIn_app (goodIn_of _ (by decide +kernel)) ggX4_isStep_X4_isIn
theorem dX4_isStep_0 : decode cX4_isStep 0 = .ok (.iload_n 0, 1) := by decide +kernel
theorem dX4_isStep_1 : decode cX4_isStep 1 = .ok (.iconst 0, 1) := by decide +kernel
theorem dX4_isStep_2 : decode cX4_isStep 2 = .ok (.bipush 99, 2) := by decide +kernel
theorem dX4_isStep_4 : decode cX4_isStep 4 = .ok (.invokestatic 48, 3) := by decide +kernel
theorem dX4_isStep_7 : decode cX4_isStep 7 = .ok (.ireturn, 1) := by decide +kernel
set_option maxRecDepth 20000 in
theorem ggX4_isPassage_X4_isStep : GoodIn wsX4_isPassage wsX4_isStep := goodIn_r _ [4, 5, 6, 3, 7] (by decide +kernel) (by decide +kernel)
set_option maxRecDepth 20000 in
theorem gX4_isPassage_X4_isStep : GoodIn wsX4_isPassage (va_wsS RX4 75 yX4_isStep wsX4_isStep) := goodIn_app (goodIn_of _ (by decide +kernel)) ggX4_isPassage_X4_isStep
theorem dX4_isPassage_0 : decode cX4_isPassage 0 = .ok (.iload_n 0, 1) := by decide +kernel
theorem dX4_isPassage_1 : decode cX4_isPassage 1 = .ok (.invokestatic 75, 3) := by decide +kernel
theorem dX4_isPassage_4 : decode cX4_isPassage 4 = .ok (.ifCond .eq 19, 3) := by decide +kernel
theorem dX4_isPassage_7 : decode cX4_isPassage 7 = .ok (.iload_n 1, 1) := by decide +kernel
theorem dX4_isPassage_8 : decode cX4_isPassage 8 = .ok (.invokestatic 75, 3) := by decide +kernel
theorem dX4_isPassage_11 : decode cX4_isPassage 11 = .ok (.ifCond .eq 12, 3) := by decide +kernel
theorem dX4_isPassage_14 : decode cX4_isPassage 14 = .ok (.iload_n 0, 1) := by decide +kernel
theorem dX4_isPassage_15 : decode cX4_isPassage 15 = .ok (.iload_n 1, 1) := by decide +kernel
theorem dX4_isPassage_16 : decode cX4_isPassage 16 = .ok (.if_icmp .gt 7, 3) := by decide +kernel
theorem dX4_isPassage_19 : decode cX4_isPassage 19 = .ok (.iconst 1, 1) := by decide +kernel
theorem dX4_isPassage_20 : decode cX4_isPassage 20 = .ok (.goto 4, 3) := by decide +kernel
theorem dX4_isPassage_23 : decode cX4_isPassage 23 = .ok (.iconst 0, 1) := by decide +kernel
theorem dX4_isPassage_24 : decode cX4_isPassage 24 = .ok (.ireturn, 1) := by decide +kernel
theorem dX4_asNumber_0 : decode cX4_asNumber 0 = .ok (.iload_n 0, 1) := by decide +kernel
theorem dX4_asNumber_1 : decode cX4_asNumber 1 = .ok (.ifCond .eq 7, 3) := by decide +kernel
theorem dX4_asNumber_4 : decode cX4_asNumber 4 = .ok (.iconst 1, 1) := by decide +kernel
theorem dX4_asNumber_5 : decode cX4_asNumber 5 = .ok (.goto 4, 3) := by decide +kernel
theorem dX4_asNumber_8 : decode cX4_asNumber 8 = .ok (.iconst 0, 1) := by decide +kernel
theorem dX4_asNumber_9 : decode cX4_asNumber 9 = .ok (.ireturn, 1) := by decide +kernel
theorem dX4_noneIfMissing_0 : decode cX4_noneIfMissing 0 = .ok (.iload_n 0, 1) := by decide +kernel
theorem dX4_noneIfMissing_1 : decode cX4_noneIfMissing 1 = .ok (.ifCond .ge 8, 3) := by decide +kernel
theorem dX4_noneIfMissing_4 : decode cX4_noneIfMissing 4 = .ok (.bipush (-6), 2) := by decide +kernel
theorem dX4_noneIfMissing_6 : decode cX4_noneIfMissing 6 = .ok (.goto 4, 3) := by decide +kernel
theorem dX4_noneIfMissing_9 : decode cX4_noneIfMissing 9 = .ok (.iload_n 0, 1) := by decide +kernel
theorem dX4_noneIfMissing_10 : decode cX4_noneIfMissing 10 = .ok (.ireturn, 1) := by decide +kernel
set_option maxRecDepth 20000 in
theorem ggX4_codeIn_X4_isIn : GoodIn wsX4_codeIn wsX4_isIn := goodIn_r _ [4] (by decide +kernel) (by decide +kernel)
set_option maxRecDepth 20000 in
theorem gX4_codeIn_X4_isIn : GoodIn wsX4_codeIn (va_wsS RX4 48 yX4_isIn wsX4_isIn) := goodIn_app (goodIn_of _ (by decide +kernel)) ggX4_codeIn_X4_isIn
theorem dX4_codeIn_0 : decode cX4_codeIn 0 = .ok (.iload_n 2, 1) := by decide +kernel
theorem dX4_codeIn_1 : decode cX4_codeIn 1 = .ok (.iconst 0, 1) := by decide +kernel
theorem dX4_codeIn_2 : decode cX4_codeIn 2 = .ok (.bipush 7, 2) := by decide +kernel
theorem dX4_codeIn_4 : decode cX4_codeIn 4 = .ok (.invokestatic 48, 3) := by decide +kernel
theorem dX4_codeIn_7 : decode cX4_codeIn 7 = .ok (.ifCond .eq 17, 3) := by decide +kernel
theorem dX4_codeIn_10 : decode cX4_codeIn 10 = .ok (.lload_n 0, 1) := by decide +kernel
theorem dX4_codeIn_11 : decode cX4_codeIn 11 = .ok (.bipush 8, 2) := by decide +kernel
theorem dX4_codeIn_13 : decode cX4_codeIn 13 = .ok (.iload_n 2, 1) := by decide +kernel
theorem dX4_codeIn_14 : decode cX4_codeIn 14 = .ok (.imul, 1) := by decide +kernel
theorem dX4_codeIn_15 : decode cX4_codeIn 15 = .ok (.lushr, 1) := by decide +kernel
theorem dX4_codeIn_16 : decode cX4_codeIn 16 = .ok (.l2i, 1) := by decide +kernel
theorem dX4_codeIn_17 : decode cX4_codeIn 17 = .ok (.sipush 255, 3) := by decide +kernel
theorem dX4_codeIn_20 : decode cX4_codeIn 20 = .ok (.iand, 1) := by decide +kernel
theorem dX4_codeIn_21 : decode cX4_codeIn 21 = .ok (.goto 4, 3) := by decide +kernel
theorem dX4_codeIn_24 : decode cX4_codeIn 24 = .ok (.iconst 0, 1) := by decide +kernel
theorem dX4_codeIn_25 : decode cX4_codeIn 25 = .ok (.ireturn, 1) := by decide +kernel
set_option maxRecDepth 20000 in
theorem ggX4_charactersIn_X4_codeIn : GoodIn wsX4_charactersIn wsX4_codeIn := goodIn_r _ [4, 5, 6, 3, 7] (by decide +kernel) (by decide +kernel)
set_option maxRecDepth 20000 in
theorem gX4_charactersIn_X4_codeIn : GoodIn wsX4_charactersIn (va_wsS RX4 235 yX4_codeIn wsX4_codeIn) := goodIn_app (goodIn_of _ (by decide +kernel)) ggX4_charactersIn_X4_codeIn
set_option maxRecDepth 20000 in
theorem ggX4_charactersIn_X4_isIn : GoodIn wsX4_charactersIn wsX4_isIn := goodIn_r _ [7] (by decide +kernel) (by decide +kernel)
set_option maxRecDepth 20000 in
theorem gX4_charactersIn_X4_isIn : GoodIn wsX4_charactersIn (va_wsS RX4 48 yX4_isIn wsX4_isIn) := goodIn_app (goodIn_of _ (by decide +kernel)) ggX4_charactersIn_X4_isIn
theorem dX4_charactersIn_0 : decode cX4_charactersIn 0 = .ok (.iconst 0, 1) := by decide +kernel
theorem dX4_charactersIn_1 : decode cX4_charactersIn 1 = .ok (.istore_n 2, 1) := by decide +kernel
theorem dX4_charactersIn_2 : decode cX4_charactersIn 2 = .ok (.iload_n 2, 1) := by decide +kernel
theorem dX4_charactersIn_3 : decode cX4_charactersIn 3 = .ok (.bipush 8, 2) := by decide +kernel
theorem dX4_charactersIn_5 : decode cX4_charactersIn 5 = .ok (.if_icmp .ge 49, 3) := by decide +kernel
theorem dX4_charactersIn_8 : decode cX4_charactersIn 8 = .ok (.lload_n 0, 1) := by decide +kernel
theorem dX4_charactersIn_9 : decode cX4_charactersIn 9 = .ok (.iload_n 2, 1) := by decide +kernel
theorem dX4_charactersIn_10 : decode cX4_charactersIn 10 = .ok (.invokestatic 235, 3) := by decide +kernel
theorem dX4_charactersIn_13 : decode cX4_charactersIn 13 = .ok (.istore_n 3, 1) := by decide +kernel
theorem dX4_charactersIn_14 : decode cX4_charactersIn 14 = .ok (.iload_n 3, 1) := by decide +kernel
theorem dX4_charactersIn_15 : decode cX4_charactersIn 15 = .ok (.ifCond .ne 20, 3) := by decide +kernel
theorem dX4_charactersIn_18 : decode cX4_charactersIn 18 = .ok (.lload_n 0, 1) := by decide +kernel
theorem dX4_charactersIn_19 : decode cX4_charactersIn 19 = .ok (.bipush 8, 2) := by decide +kernel
theorem dX4_charactersIn_21 : decode cX4_charactersIn 21 = .ok (.iload_n 2, 1) := by decide +kernel
theorem dX4_charactersIn_22 : decode cX4_charactersIn 22 = .ok (.imul, 1) := by decide +kernel
theorem dX4_charactersIn_23 : decode cX4_charactersIn 23 = .ok (.lushr, 1) := by decide +kernel
theorem dX4_charactersIn_24 : decode cX4_charactersIn 24 = .ok (.lconst 0, 1) := by decide +kernel
theorem dX4_charactersIn_25 : decode cX4_charactersIn 25 = .ok (.lcmp, 1) := by decide +kernel
theorem dX4_charactersIn_26 : decode cX4_charactersIn 26 = .ok (.ifCond .ne 7, 3) := by decide +kernel
theorem dX4_charactersIn_29 : decode cX4_charactersIn 29 = .ok (.iload_n 2, 1) := by decide +kernel
theorem dX4_charactersIn_30 : decode cX4_charactersIn 30 = .ok (.goto 4, 3) := by decide +kernel
theorem dX4_charactersIn_33 : decode cX4_charactersIn 33 = .ok (.iconst 0, 1) := by decide +kernel
theorem dX4_charactersIn_34 : decode cX4_charactersIn 34 = .ok (.ireturn, 1) := by decide +kernel
theorem dX4_charactersIn_35 : decode cX4_charactersIn 35 = .ok (.iload_n 3, 1) := by decide +kernel
theorem dX4_charactersIn_36 : decode cX4_charactersIn 36 = .ok (.bipush 33, 2) := by decide +kernel
theorem dX4_charactersIn_38 : decode cX4_charactersIn 38 = .ok (.bipush 126, 2) := by decide +kernel
theorem dX4_charactersIn_40 : decode cX4_charactersIn 40 = .ok (.invokestatic 48, 3) := by decide +kernel
theorem dX4_charactersIn_43 : decode cX4_charactersIn 43 = .ok (.ifCond .ne 5, 3) := by decide +kernel
theorem dX4_charactersIn_46 : decode cX4_charactersIn 46 = .ok (.iconst 0, 1) := by decide +kernel
theorem dX4_charactersIn_47 : decode cX4_charactersIn 47 = .ok (.ireturn, 1) := by decide +kernel
theorem dX4_charactersIn_48 : decode cX4_charactersIn 48 = .ok (.iinc 2 1, 3) := by decide +kernel
theorem dX4_charactersIn_51 : decode cX4_charactersIn 51 = .ok (.goto (-49), 3) := by decide +kernel
theorem dX4_charactersIn_54 : decode cX4_charactersIn 54 = .ok (.bipush 8, 2) := by decide +kernel
theorem dX4_charactersIn_56 : decode cX4_charactersIn 56 = .ok (.ireturn, 1) := by decide +kernel
set_option maxRecDepth 20000 in
theorem ggX4_isFreeAt_X3_size : GoodIn wsX4_isFreeAt wsX3_size := goodIn_r _ [6, 7, 49, 50, 51, 52, 53, 54, 55] (by decide +kernel) (by decide +kernel)
set_option maxRecDepth 20000 in
theorem gX4_isFreeAt_X3_size : GoodIn wsX4_isFreeAt (wsV RX4 78 RX3 yX3_size wsX3_size) := goodIn_app (goodIn_of _ (by decide +kernel)) ggX4_isFreeAt_X3_size
set_option maxRecDepth 20000 in
theorem ggX4_isFreeAt_X3_liesWithin : GoodIn wsX4_isFreeAt wsX3_liesWithin := goodIn_r _ [11, 12, 13, 14, 5, 15, 7, 16, 17, 18, 19, 20, 21, 22, 23, 24, 25, 49, 50, 51, 52, 53, 54, 55] (by decide +kernel) (by decide +kernel)
set_option maxRecDepth 20000 in
theorem gX4_isFreeAt_X3_liesWithin : GoodIn wsX4_isFreeAt (wsV RX4 249 RX3 yX3_liesWithin wsX3_liesWithin) := goodIn_app (goodIn_of _ (by decide +kernel)) ggX4_isFreeAt_X3_liesWithin
set_option maxRecDepth 20000 in
theorem ggX4_isFreeAt_X3_firstOf : GoodIn wsX4_isFreeAt wsX3_firstOf := goodIn_r _ [19, 20, 12, 13, 14, 5, 15, 7, 49, 50, 51, 52, 53, 54, 55] (by decide +kernel) (by decide +kernel)
set_option maxRecDepth 20000 in
theorem gX4_isFreeAt_X3_firstOf : GoodIn wsX4_isFreeAt (wsV RX4 163 RX3 yX3_firstOf wsX3_firstOf) := goodIn_app (goodIn_of _ (by decide +kernel)) ggX4_isFreeAt_X3_firstOf
set_option maxRecDepth 20000 in
theorem ggX4_isFreeAt_X3_lastOf : GoodIn wsX4_isFreeAt wsX3_lastOf := goodIn_r _ [24, 25, 12, 13, 14, 5, 15, 7, 49, 50, 51, 52, 53, 54, 55] (by decide +kernel) (by decide +kernel)
set_option maxRecDepth 20000 in
theorem gX4_isFreeAt_X3_lastOf : GoodIn wsX4_isFreeAt (wsV RX4 166 RX3 yX3_lastOf wsX3_lastOf) := goodIn_app (goodIn_of _ (by decide +kernel)) ggX4_isFreeAt_X3_lastOf
set_option maxRecDepth 20000 in
theorem ggX4_isFreeAt_X3_trackOf : GoodIn wsX4_isFreeAt wsX3_trackOf := goodIn_r _ [31, 32, 12, 13, 14, 5, 15, 7, 49, 50, 51, 52, 53, 54, 55] (by decide +kernel) (by decide +kernel)
set_option maxRecDepth 20000 in
theorem gX4_isFreeAt_X3_trackOf : GoodIn wsX4_isFreeAt (wsV RX4 160 RX3 yX3_trackOf wsX3_trackOf) := goodIn_app (goodIn_of _ (by decide +kernel)) ggX4_isFreeAt_X3_trackOf
set_option maxRecDepth 20000 in
theorem ggX4_isFreeAt_X3_isTaken : GoodIn wsX4_isFreeAt wsX3_isTaken := goodIn_r _ [36, 37, 38, 39, 5, 40, 7, 41, 29, 30, 31, 32, 12, 13, 14, 15, 16, 17, 18, 19, 20, 21, 22, 23, 24, 25, 49, 50, 51, 52, 53, 54, 55] (by decide +kernel) (by decide +kernel)
set_option maxRecDepth 20000 in
theorem gX4_isFreeAt_X3_isTaken : GoodIn wsX4_isFreeAt (wsV RX4 82 RX3 yX3_isTaken wsX3_isTaken) := goodIn_app (goodIn_of _ (by decide +kernel)) ggX4_isFreeAt_X3_isTaken
theorem dX4_isFreeAt_0 : decode cX4_isFreeAt 0 = .ok (.iconst 0, 1) := by decide +kernel
theorem dX4_isFreeAt_1 : decode cX4_isFreeAt 1 = .ok (.istore 4, 2) := by decide +kernel
theorem dX4_isFreeAt_3 : decode cX4_isFreeAt 3 = .ok (.iload 4, 2) := by decide +kernel
theorem dX4_isFreeAt_5 : decode cX4_isFreeAt 5 = .ok (.aload_n 0, 1) := by decide +kernel
theorem dX4_isFreeAt_6 : decode cX4_isFreeAt 6 = .ok (.getfield 10, 3) := by decide +kernel
theorem dX4_isFreeAt_9 : decode cX4_isFreeAt 9 = .ok (.invokevirtual 78, 3) := by decide +kernel
theorem dX4_isFreeAt_12 : decode cX4_isFreeAt 12 = .ok (.if_icmp .ge 85, 3) := by decide +kernel
theorem dX4_isFreeAt_15 : decode cX4_isFreeAt 15 = .ok (.aload_n 0, 1) := by decide +kernel
theorem dX4_isFreeAt_16 : decode cX4_isFreeAt 16 = .ok (.getfield 10, 3) := by decide +kernel
theorem dX4_isFreeAt_19 : decode cX4_isFreeAt 19 = .ok (.iload 4, 2) := by decide +kernel
theorem dX4_isFreeAt_21 : decode cX4_isFreeAt 21 = .ok (.iload_n 1, 1) := by decide +kernel
theorem dX4_isFreeAt_22 : decode cX4_isFreeAt 22 = .ok (.iload_n 2, 1) := by decide +kernel
theorem dX4_isFreeAt_23 : decode cX4_isFreeAt 23 = .ok (.invokevirtual 249, 3) := by decide +kernel
theorem dX4_isFreeAt_26 : decode cX4_isFreeAt 26 = .ok (.ifCond .eq 65, 3) := by decide +kernel
theorem dX4_isFreeAt_29 : decode cX4_isFreeAt 29 = .ok (.aload_n 0, 1) := by decide +kernel
theorem dX4_isFreeAt_30 : decode cX4_isFreeAt 30 = .ok (.getfield 10, 3) := by decide +kernel
theorem dX4_isFreeAt_33 : decode cX4_isFreeAt 33 = .ok (.iload 4, 2) := by decide +kernel
theorem dX4_isFreeAt_35 : decode cX4_isFreeAt 35 = .ok (.invokevirtual 163, 3) := by decide +kernel
theorem dX4_isFreeAt_38 : decode cX4_isFreeAt 38 = .ok (.iload_n 1, 1) := by decide +kernel
theorem dX4_isFreeAt_39 : decode cX4_isFreeAt 39 = .ok (.isub, 1) := by decide +kernel
theorem dX4_isFreeAt_40 : decode cX4_isFreeAt 40 = .ok (.iload_n 3, 1) := by decide +kernel
theorem dX4_isFreeAt_41 : decode cX4_isFreeAt 41 = .ok (.iadd, 1) := by decide +kernel
theorem dX4_isFreeAt_42 : decode cX4_isFreeAt 42 = .ok (.istore 5, 2) := by decide +kernel
theorem dX4_isFreeAt_44 : decode cX4_isFreeAt 44 = .ok (.aload_n 0, 1) := by decide +kernel
theorem dX4_isFreeAt_45 : decode cX4_isFreeAt 45 = .ok (.getfield 10, 3) := by decide +kernel
theorem dX4_isFreeAt_48 : decode cX4_isFreeAt 48 = .ok (.iload 4, 2) := by decide +kernel
theorem dX4_isFreeAt_50 : decode cX4_isFreeAt 50 = .ok (.invokevirtual 166, 3) := by decide +kernel
theorem dX4_isFreeAt_53 : decode cX4_isFreeAt 53 = .ok (.iload_n 1, 1) := by decide +kernel
theorem dX4_isFreeAt_54 : decode cX4_isFreeAt 54 = .ok (.isub, 1) := by decide +kernel
theorem dX4_isFreeAt_55 : decode cX4_isFreeAt 55 = .ok (.iload_n 3, 1) := by decide +kernel
theorem dX4_isFreeAt_56 : decode cX4_isFreeAt 56 = .ok (.iadd, 1) := by decide +kernel
theorem dX4_isFreeAt_57 : decode cX4_isFreeAt 57 = .ok (.istore 6, 2) := by decide +kernel
theorem dX4_isFreeAt_59 : decode cX4_isFreeAt 59 = .ok (.iload 6, 2) := by decide +kernel
theorem dX4_isFreeAt_61 : decode cX4_isFreeAt 61 = .ok (.bipush 100, 2) := by decide +kernel
theorem dX4_isFreeAt_63 : decode cX4_isFreeAt 63 = .ok (.if_icmp .ge 26, 3) := by decide +kernel
theorem dX4_isFreeAt_66 : decode cX4_isFreeAt 66 = .ok (.aload_n 0, 1) := by decide +kernel
theorem dX4_isFreeAt_67 : decode cX4_isFreeAt 67 = .ok (.getfield 10, 3) := by decide +kernel
theorem dX4_isFreeAt_70 : decode cX4_isFreeAt 70 = .ok (.aload_n 0, 1) := by decide +kernel
theorem dX4_isFreeAt_71 : decode cX4_isFreeAt 71 = .ok (.getfield 10, 3) := by decide +kernel
theorem dX4_isFreeAt_74 : decode cX4_isFreeAt 74 = .ok (.iload 4, 2) := by decide +kernel
theorem dX4_isFreeAt_76 : decode cX4_isFreeAt 76 = .ok (.invokevirtual 160, 3) := by decide +kernel
theorem dX4_isFreeAt_79 : decode cX4_isFreeAt 79 = .ok (.iload 5, 2) := by decide +kernel
theorem dX4_isFreeAt_81 : decode cX4_isFreeAt 81 = .ok (.iload 6, 2) := by decide +kernel
theorem dX4_isFreeAt_83 : decode cX4_isFreeAt 83 = .ok (.invokevirtual 82, 3) := by decide +kernel
theorem dX4_isFreeAt_86 : decode cX4_isFreeAt 86 = .ok (.ifCond .eq 5, 3) := by decide +kernel
theorem dX4_isFreeAt_89 : decode cX4_isFreeAt 89 = .ok (.iconst 0, 1) := by decide +kernel
theorem dX4_isFreeAt_90 : decode cX4_isFreeAt 90 = .ok (.ireturn, 1) := by decide +kernel
theorem dX4_isFreeAt_91 : decode cX4_isFreeAt 91 = .ok (.iinc 4 1, 3) := by decide +kernel
theorem dX4_isFreeAt_94 : decode cX4_isFreeAt 94 = .ok (.goto (-91), 3) := by decide +kernel
theorem dX4_isFreeAt_97 : decode cX4_isFreeAt 97 = .ok (.iconst 1, 1) := by decide +kernel
theorem dX4_isFreeAt_98 : decode cX4_isFreeAt 98 = .ok (.ireturn, 1) := by decide +kernel
set_option maxRecDepth 20000 in
theorem ggX4_addFoundNotes_X1_found : GoodIn wsX4_addFoundNotes wsX1_found := goodIn_r _ [7, 8, 86, 87, 88, 89, 90, 91, 92, 93] (by decide +kernel) (by decide +kernel)
set_option maxRecDepth 20000 in
theorem gX4_addFoundNotes_X1_found : GoodIn wsX4_addFoundNotes (wsV RX4 151 RX1 yX1_found wsX1_found) := goodIn_app (goodIn_of _ (by decide +kernel)) ggX4_addFoundNotes_X1_found
set_option maxRecDepth 20000 in
theorem ggX4_addFoundNotes_X1_foundTrack : GoodIn wsX4_addFoundNotes wsX1_foundTrack := goodIn_r _ [12, 13, 14, 15, 16, 6, 17, 8, 86, 87, 88, 89, 90, 91, 92, 93] (by decide +kernel) (by decide +kernel)
set_option maxRecDepth 20000 in
theorem gX4_addFoundNotes_X1_foundTrack : GoodIn wsX4_addFoundNotes (wsV RX4 252 RX1 yX1_foundTrack wsX1_foundTrack) := goodIn_app (goodIn_of _ (by decide +kernel)) ggX4_addFoundNotes_X1_foundTrack
set_option maxRecDepth 20000 in
theorem ggX4_addFoundNotes_X1_foundFirst : GoodIn wsX4_addFoundNotes wsX1_foundFirst := goodIn_r _ [21, 22, 14, 15, 16, 6, 17, 8, 86, 87, 88, 89, 90, 91, 92, 93] (by decide +kernel) (by decide +kernel)
set_option maxRecDepth 20000 in
theorem gX4_addFoundNotes_X1_foundFirst : GoodIn wsX4_addFoundNotes (wsV RX4 255 RX1 yX1_foundFirst wsX1_foundFirst) := goodIn_app (goodIn_of _ (by decide +kernel)) ggX4_addFoundNotes_X1_foundFirst
set_option maxRecDepth 20000 in
theorem ggX4_addFoundNotes_X1_foundLast : GoodIn wsX4_addFoundNotes wsX1_foundLast := goodIn_r _ [26, 27, 14, 15, 16, 6, 17, 8, 86, 87, 88, 89, 90, 91, 92, 93] (by decide +kernel) (by decide +kernel)
set_option maxRecDepth 20000 in
theorem gX4_addFoundNotes_X1_foundLast : GoodIn wsX4_addFoundNotes (wsV RX4 258 RX1 yX1_foundLast wsX1_foundLast) := goodIn_app (goodIn_of _ (by decide +kernel)) ggX4_addFoundNotes_X1_foundLast
set_option maxRecDepth 20000 in
theorem ggX4_addFoundNotes_X3_isTaken : GoodIn wsX4_addFoundNotes wsX3_isTaken := goodIn_r _ [32, 33, 34, 35, 31, 36, 37, 38, 39, 40, 41, 42, 43, 44, 45, 46, 47, 48, 49, 50, 51, 52, 53, 54, 55, 56, 94, 95, 96, 97, 98, 99, 100] (by decide +kernel) (by decide +kernel)
set_option maxRecDepth 20000 in
theorem gX4_addFoundNotes_X3_isTaken : GoodIn wsX4_addFoundNotes (wsV RX4 82 RX3 yX3_isTaken wsX3_isTaken) := goodIn_app (goodIn_of _ (by decide +kernel)) ggX4_addFoundNotes_X3_isTaken
set_option maxRecDepth 20000 in
theorem ggX4_addFoundNotes_X1_foundAccent : GoodIn wsX4_addFoundNotes wsX1_foundAccent := goodIn_r _ [60, 61, 14, 15, 16, 6, 17, 8, 86, 87, 88, 89, 90, 91, 92, 93] (by decide +kernel) (by decide +kernel)
set_option maxRecDepth 20000 in
theorem gX4_addFoundNotes_X1_foundAccent : GoodIn wsX4_addFoundNotes (wsV RX4 261 RX1 yX1_foundAccent wsX1_foundAccent) := goodIn_app (goodIn_of _ (by decide +kernel)) ggX4_addFoundNotes_X1_foundAccent
set_option maxRecDepth 20000 in
theorem ggX4_addFoundNotes_X3_add : GoodIn wsX4_addFoundNotes wsX3_add := goodIn_r _ [65, 37, 42, 51, 56, 66, 67, 68, 69, 70, 31, 71, 47, 48, 49, 50, 43, 44, 45, 46, 38, 39, 40, 41, 72, 73, 74, 75, 76, 77, 78, 94, 95, 96, 97, 98, 99, 100] (by decide +kernel) (by decide +kernel)
set_option maxRecDepth 20000 in
theorem gX4_addFoundNotes_X3_add : GoodIn wsX4_addFoundNotes (wsV RX4 85 RX3 yX3_add wsX3_add) := goodIn_app (goodIn_of _ (by decide +kernel)) ggX4_addFoundNotes_X3_add
theorem dX4_addFoundNotes_0 : decode cX4_addFoundNotes 0 = .ok (.iconst 0, 1) := by decide +kernel
theorem dX4_addFoundNotes_1 : decode cX4_addFoundNotes 1 = .ok (.istore_n 1, 1) := by decide +kernel
theorem dX4_addFoundNotes_2 : decode cX4_addFoundNotes 2 = .ok (.iload_n 1, 1) := by decide +kernel
theorem dX4_addFoundNotes_3 : decode cX4_addFoundNotes 3 = .ok (.aload_n 0, 1) := by decide +kernel
theorem dX4_addFoundNotes_4 : decode cX4_addFoundNotes 4 = .ok (.getfield 29, 3) := by decide +kernel
theorem dX4_addFoundNotes_7 : decode cX4_addFoundNotes 7 = .ok (.invokevirtual 151, 3) := by decide +kernel
theorem dX4_addFoundNotes_10 : decode cX4_addFoundNotes 10 = .ok (.if_icmp .ge 86, 3) := by decide +kernel
theorem dX4_addFoundNotes_13 : decode cX4_addFoundNotes 13 = .ok (.aload_n 0, 1) := by decide +kernel
theorem dX4_addFoundNotes_14 : decode cX4_addFoundNotes 14 = .ok (.getfield 16, 3) := by decide +kernel
theorem dX4_addFoundNotes_17 : decode cX4_addFoundNotes 17 = .ok (.aload_n 0, 1) := by decide +kernel
theorem dX4_addFoundNotes_18 : decode cX4_addFoundNotes 18 = .ok (.getfield 29, 3) := by decide +kernel
theorem dX4_addFoundNotes_21 : decode cX4_addFoundNotes 21 = .ok (.iload_n 1, 1) := by decide +kernel
theorem dX4_addFoundNotes_22 : decode cX4_addFoundNotes 22 = .ok (.invokevirtual 252, 3) := by decide +kernel
theorem dX4_addFoundNotes_25 : decode cX4_addFoundNotes 25 = .ok (.aload_n 0, 1) := by decide +kernel
theorem dX4_addFoundNotes_26 : decode cX4_addFoundNotes 26 = .ok (.getfield 29, 3) := by decide +kernel
theorem dX4_addFoundNotes_29 : decode cX4_addFoundNotes 29 = .ok (.iload_n 1, 1) := by decide +kernel
theorem dX4_addFoundNotes_30 : decode cX4_addFoundNotes 30 = .ok (.invokevirtual 255, 3) := by decide +kernel
theorem dX4_addFoundNotes_33 : decode cX4_addFoundNotes 33 = .ok (.aload_n 0, 1) := by decide +kernel
theorem dX4_addFoundNotes_34 : decode cX4_addFoundNotes 34 = .ok (.getfield 29, 3) := by decide +kernel
theorem dX4_addFoundNotes_37 : decode cX4_addFoundNotes 37 = .ok (.iload_n 1, 1) := by decide +kernel
theorem dX4_addFoundNotes_38 : decode cX4_addFoundNotes 38 = .ok (.invokevirtual 258, 3) := by decide +kernel
theorem dX4_addFoundNotes_41 : decode cX4_addFoundNotes 41 = .ok (.invokevirtual 82, 3) := by decide +kernel
theorem dX4_addFoundNotes_44 : decode cX4_addFoundNotes 44 = .ok (.ifCond .eq 5, 3) := by decide +kernel
theorem dX4_addFoundNotes_47 : decode cX4_addFoundNotes 47 = .ok (.iconst 0, 1) := by decide +kernel
theorem dX4_addFoundNotes_48 : decode cX4_addFoundNotes 48 = .ok (.ireturn, 1) := by decide +kernel
theorem dX4_addFoundNotes_49 : decode cX4_addFoundNotes 49 = .ok (.aload_n 0, 1) := by decide +kernel
theorem dX4_addFoundNotes_50 : decode cX4_addFoundNotes 50 = .ok (.getfield 16, 3) := by decide +kernel
theorem dX4_addFoundNotes_53 : decode cX4_addFoundNotes 53 = .ok (.aload_n 0, 1) := by decide +kernel
theorem dX4_addFoundNotes_54 : decode cX4_addFoundNotes 54 = .ok (.getfield 29, 3) := by decide +kernel
theorem dX4_addFoundNotes_57 : decode cX4_addFoundNotes 57 = .ok (.iload_n 1, 1) := by decide +kernel
theorem dX4_addFoundNotes_58 : decode cX4_addFoundNotes 58 = .ok (.invokevirtual 252, 3) := by decide +kernel
theorem dX4_addFoundNotes_61 : decode cX4_addFoundNotes 61 = .ok (.aload_n 0, 1) := by decide +kernel
theorem dX4_addFoundNotes_62 : decode cX4_addFoundNotes 62 = .ok (.getfield 29, 3) := by decide +kernel
theorem dX4_addFoundNotes_65 : decode cX4_addFoundNotes 65 = .ok (.iload_n 1, 1) := by decide +kernel
theorem dX4_addFoundNotes_66 : decode cX4_addFoundNotes 66 = .ok (.invokevirtual 255, 3) := by decide +kernel
theorem dX4_addFoundNotes_69 : decode cX4_addFoundNotes 69 = .ok (.aload_n 0, 1) := by decide +kernel
theorem dX4_addFoundNotes_70 : decode cX4_addFoundNotes 70 = .ok (.getfield 29, 3) := by decide +kernel
theorem dX4_addFoundNotes_73 : decode cX4_addFoundNotes 73 = .ok (.iload_n 1, 1) := by decide +kernel
theorem dX4_addFoundNotes_74 : decode cX4_addFoundNotes 74 = .ok (.invokevirtual 258, 3) := by decide +kernel
theorem dX4_addFoundNotes_77 : decode cX4_addFoundNotes 77 = .ok (.iconst 0, 1) := by decide +kernel
theorem dX4_addFoundNotes_78 : decode cX4_addFoundNotes 78 = .ok (.aload_n 0, 1) := by decide +kernel
theorem dX4_addFoundNotes_79 : decode cX4_addFoundNotes 79 = .ok (.getfield 29, 3) := by decide +kernel
theorem dX4_addFoundNotes_82 : decode cX4_addFoundNotes 82 = .ok (.iload_n 1, 1) := by decide +kernel
theorem dX4_addFoundNotes_83 : decode cX4_addFoundNotes 83 = .ok (.invokevirtual 261, 3) := by decide +kernel
theorem dX4_addFoundNotes_86 : decode cX4_addFoundNotes 86 = .ok (.invokevirtual 85, 3) := by decide +kernel
theorem dX4_addFoundNotes_89 : decode cX4_addFoundNotes 89 = .ok (.pop, 1) := by decide +kernel
theorem dX4_addFoundNotes_90 : decode cX4_addFoundNotes 90 = .ok (.iinc 1 1, 3) := by decide +kernel
theorem dX4_addFoundNotes_93 : decode cX4_addFoundNotes 93 = .ok (.goto (-91), 3) := by decide +kernel
theorem dX4_addFoundNotes_96 : decode cX4_addFoundNotes 96 = .ok (.iconst 1, 1) := by decide +kernel
theorem dX4_addFoundNotes_97 : decode cX4_addFoundNotes 97 = .ok (.ireturn, 1) := by decide +kernel
set_option maxRecDepth 20000 in
theorem ggX4_isHeardWhole_X3_firstOf : GoodIn wsX4_isHeardWhole wsX3_firstOf := goodIn_r _ [7, 8, 9, 10, 11, 6, 12, 13, 49, 50, 51, 52, 53, 54, 55] (by decide +kernel) (by decide +kernel)
set_option maxRecDepth 20000 in
theorem gX4_isHeardWhole_X3_firstOf : GoodIn wsX4_isHeardWhole (wsV RX4 163 RX3 yX3_firstOf wsX3_firstOf) := goodIn_app (goodIn_of _ (by decide +kernel)) ggX4_isHeardWhole_X3_firstOf
set_option maxRecDepth 20000 in
theorem ggX4_isHeardWhole_X3_lastOf : GoodIn wsX4_isHeardWhole wsX3_lastOf := goodIn_r _ [17, 18, 9, 10, 11, 6, 12, 13, 49, 50, 51, 52, 53, 54, 55] (by decide +kernel) (by decide +kernel)
set_option maxRecDepth 20000 in
theorem gX4_isHeardWhole_X3_lastOf : GoodIn wsX4_isHeardWhole (wsV RX4 166 RX3 yX3_lastOf wsX3_lastOf) := goodIn_app (goodIn_of _ (by decide +kernel)) ggX4_isHeardWhole_X3_lastOf
set_option maxRecDepth 20000 in
theorem ggX4_isHeardWhole_X3_trackOf : GoodIn wsX4_isHeardWhole wsX3_trackOf := goodIn_r _ [22, 23, 9, 10, 11, 6, 12, 13, 49, 50, 51, 52, 53, 54, 55] (by decide +kernel) (by decide +kernel)
set_option maxRecDepth 20000 in
theorem gX4_isHeardWhole_X3_trackOf : GoodIn wsX4_isHeardWhole (wsV RX4 160 RX3 yX3_trackOf wsX3_trackOf) := goodIn_app (goodIn_of _ (by decide +kernel)) ggX4_isHeardWhole_X3_trackOf
set_option maxRecDepth 20000 in
theorem ggX4_isHeardWhole_X2_isHeard : GoodIn wsX4_isHeardWhole wsX2_isHeard := goodIn_r _ [28, 29, 30, 31, 32, 33, 34, 35, 36, 37, 27, 38, 39, 40, 41, 56, 57, 58] (by decide +kernel) (by decide +kernel)
set_option maxRecDepth 20000 in
theorem gX4_isHeardWhole_X2_isHeard : GoodIn wsX4_isHeardWhole (wsV RX4 228 RX2 yX2_isHeard wsX2_isHeard) := goodIn_app (goodIn_of _ (by decide +kernel)) ggX4_isHeardWhole_X2_isHeard
theorem dX4_isHeardWhole_0 : decode cX4_isHeardWhole 0 = .ok (.aload_n 0, 1) := by decide +kernel
theorem dX4_isHeardWhole_1 : decode cX4_isHeardWhole 1 = .ok (.getfield 10, 3) := by decide +kernel
theorem dX4_isHeardWhole_4 : decode cX4_isHeardWhole 4 = .ok (.iload_n 1, 1) := by decide +kernel
theorem dX4_isHeardWhole_5 : decode cX4_isHeardWhole 5 = .ok (.invokevirtual 163, 3) := by decide +kernel
theorem dX4_isHeardWhole_8 : decode cX4_isHeardWhole 8 = .ok (.istore_n 2, 1) := by decide +kernel
theorem dX4_isHeardWhole_9 : decode cX4_isHeardWhole 9 = .ok (.iload_n 2, 1) := by decide +kernel
theorem dX4_isHeardWhole_10 : decode cX4_isHeardWhole 10 = .ok (.aload_n 0, 1) := by decide +kernel
theorem dX4_isHeardWhole_11 : decode cX4_isHeardWhole 11 = .ok (.getfield 10, 3) := by decide +kernel
theorem dX4_isHeardWhole_14 : decode cX4_isHeardWhole 14 = .ok (.iload_n 1, 1) := by decide +kernel
theorem dX4_isHeardWhole_15 : decode cX4_isHeardWhole 15 = .ok (.invokevirtual 166, 3) := by decide +kernel
theorem dX4_isHeardWhole_18 : decode cX4_isHeardWhole 18 = .ok (.if_icmp .gt 30, 3) := by decide +kernel
theorem dX4_isHeardWhole_21 : decode cX4_isHeardWhole 21 = .ok (.aload_n 0, 1) := by decide +kernel
theorem dX4_isHeardWhole_22 : decode cX4_isHeardWhole 22 = .ok (.getfield 22, 3) := by decide +kernel
theorem dX4_isHeardWhole_25 : decode cX4_isHeardWhole 25 = .ok (.aload_n 0, 1) := by decide +kernel
theorem dX4_isHeardWhole_26 : decode cX4_isHeardWhole 26 = .ok (.getfield 10, 3) := by decide +kernel
theorem dX4_isHeardWhole_29 : decode cX4_isHeardWhole 29 = .ok (.iload_n 1, 1) := by decide +kernel
theorem dX4_isHeardWhole_30 : decode cX4_isHeardWhole 30 = .ok (.invokevirtual 160, 3) := by decide +kernel
theorem dX4_isHeardWhole_33 : decode cX4_isHeardWhole 33 = .ok (.iload_n 2, 1) := by decide +kernel
theorem dX4_isHeardWhole_34 : decode cX4_isHeardWhole 34 = .ok (.invokevirtual 228, 3) := by decide +kernel
theorem dX4_isHeardWhole_37 : decode cX4_isHeardWhole 37 = .ok (.ifCond .ne 5, 3) := by decide +kernel
theorem dX4_isHeardWhole_40 : decode cX4_isHeardWhole 40 = .ok (.iconst 0, 1) := by decide +kernel
theorem dX4_isHeardWhole_41 : decode cX4_isHeardWhole 41 = .ok (.ireturn, 1) := by decide +kernel
theorem dX4_isHeardWhole_42 : decode cX4_isHeardWhole 42 = .ok (.iinc 2 1, 3) := by decide +kernel
theorem dX4_isHeardWhole_45 : decode cX4_isHeardWhole 45 = .ok (.goto (-36), 3) := by decide +kernel
theorem dX4_isHeardWhole_48 : decode cX4_isHeardWhole 48 = .ok (.iconst 1, 1) := by decide +kernel
theorem dX4_isHeardWhole_49 : decode cX4_isHeardWhole 49 = .ok (.ireturn, 1) := by decide +kernel
set_option maxRecDepth 20000 in
theorem ggX4_notesWithGap_X3_size : GoodIn wsX4_notesWithGap wsX3_size := goodIn_r _ [6, 7, 57, 58, 59, 60, 61, 62, 63] (by decide +kernel) (by decide +kernel)
set_option maxRecDepth 20000 in
theorem gX4_notesWithGap_X3_size : GoodIn wsX4_notesWithGap (wsV RX4 78 RX3 yX3_size wsX3_size) := goodIn_app (goodIn_of _ (by decide +kernel)) ggX4_notesWithGap_X3_size
set_option maxRecDepth 20000 in
theorem ggX4_notesWithGap_X4_isHeardWhole : GoodIn wsX4_notesWithGap wsX4_isHeardWhole := goodIn_r _ [12, 1, 13, 14, 15, 16, 5, 17, 18, 19, 20, 21, 22, 7, 23, 24, 25, 26, 27, 28, 29, 30, 31, 32, 33, 34, 35, 36, 37, 38, 11, 39, 40, 41, 42, 43, 44, 45, 46, 47, 48, 49, 50, 51, 52, 53, 54, 55, 56, 57, 58, 59, 60, 61, 62, 63, 64, 65, 66] (by decide +kernel) (by decide +kernel)
set_option maxRecDepth 20000 in
theorem gX4_notesWithGap_X4_isHeardWhole : GoodIn wsX4_notesWithGap (wsV RX4 178 RX4 yX4_isHeardWhole wsX4_isHeardWhole) := goodIn_app (goodIn_of _ (by decide +kernel)) ggX4_notesWithGap_X4_isHeardWhole
theorem dX4_notesWithGap_0 : decode cX4_notesWithGap 0 = .ok (.iconst 0, 1) := by decide +kernel
theorem dX4_notesWithGap_1 : decode cX4_notesWithGap 1 = .ok (.istore_n 1, 1) := by decide +kernel
theorem dX4_notesWithGap_2 : decode cX4_notesWithGap 2 = .ok (.iconst 0, 1) := by decide +kernel
theorem dX4_notesWithGap_3 : decode cX4_notesWithGap 3 = .ok (.istore_n 2, 1) := by decide +kernel
theorem dX4_notesWithGap_4 : decode cX4_notesWithGap 4 = .ok (.iload_n 2, 1) := by decide +kernel
theorem dX4_notesWithGap_5 : decode cX4_notesWithGap 5 = .ok (.aload_n 0, 1) := by decide +kernel
theorem dX4_notesWithGap_6 : decode cX4_notesWithGap 6 = .ok (.getfield 10, 3) := by decide +kernel
theorem dX4_notesWithGap_9 : decode cX4_notesWithGap 9 = .ok (.invokevirtual 78, 3) := by decide +kernel
theorem dX4_notesWithGap_12 : decode cX4_notesWithGap 12 = .ok (.if_icmp .ge 20, 3) := by decide +kernel
theorem dX4_notesWithGap_15 : decode cX4_notesWithGap 15 = .ok (.aload_n 0, 1) := by decide +kernel
theorem dX4_notesWithGap_16 : decode cX4_notesWithGap 16 = .ok (.iload_n 2, 1) := by decide +kernel
theorem dX4_notesWithGap_17 : decode cX4_notesWithGap 17 = .ok (.invokevirtual 178, 3) := by decide +kernel
theorem dX4_notesWithGap_20 : decode cX4_notesWithGap 20 = .ok (.ifCond .ne 6, 3) := by decide +kernel
theorem dX4_notesWithGap_23 : decode cX4_notesWithGap 23 = .ok (.iinc 1 1, 3) := by decide +kernel
theorem dX4_notesWithGap_26 : decode cX4_notesWithGap 26 = .ok (.iinc 2 1, 3) := by decide +kernel
theorem dX4_notesWithGap_29 : decode cX4_notesWithGap 29 = .ok (.goto (-25), 3) := by decide +kernel
theorem dX4_notesWithGap_32 : decode cX4_notesWithGap 32 = .ok (.iload_n 1, 1) := by decide +kernel
theorem dX4_notesWithGap_33 : decode cX4_notesWithGap 33 = .ok (.ireturn, 1) := by decide +kernel
set_option maxRecDepth 20000 in
theorem ggX4_allSounds_X2_sounds : GoodIn wsX4_allSounds wsX2_sounds := goodIn_r _ [6, 7, 8, 9, 5, 10, 11, 12, 13, 14, 15, 16, 17, 18, 19, 20, 21, 22, 23, 24, 25, 26, 27, 35, 36, 37] (by decide +kernel) (by decide +kernel)
set_option maxRecDepth 20000 in
theorem gX4_allSounds_X2_sounds : GoodIn wsX4_allSounds (wsV RX4 264 RX2 yX2_sounds wsX2_sounds) := goodIn_app (goodIn_of _ (by decide +kernel)) ggX4_allSounds_X2_sounds
theorem dX4_allSounds_0 : decode cX4_allSounds 0 = .ok (.iconst 0, 1) := by decide +kernel
theorem dX4_allSounds_1 : decode cX4_allSounds 1 = .ok (.istore_n 1, 1) := by decide +kernel
theorem dX4_allSounds_2 : decode cX4_allSounds 2 = .ok (.iconst 0, 1) := by decide +kernel
theorem dX4_allSounds_3 : decode cX4_allSounds 3 = .ok (.istore_n 2, 1) := by decide +kernel
theorem dX4_allSounds_4 : decode cX4_allSounds 4 = .ok (.iload_n 2, 1) := by decide +kernel
theorem dX4_allSounds_5 : decode cX4_allSounds 5 = .ok (.bipush 12, 2) := by decide +kernel
theorem dX4_allSounds_7 : decode cX4_allSounds 7 = .ok (.if_icmp .ge 20, 3) := by decide +kernel
theorem dX4_allSounds_10 : decode cX4_allSounds 10 = .ok (.iload_n 1, 1) := by decide +kernel
theorem dX4_allSounds_11 : decode cX4_allSounds 11 = .ok (.aload_n 0, 1) := by decide +kernel
theorem dX4_allSounds_12 : decode cX4_allSounds 12 = .ok (.getfield 22, 3) := by decide +kernel
theorem dX4_allSounds_15 : decode cX4_allSounds 15 = .ok (.iload_n 2, 1) := by decide +kernel
theorem dX4_allSounds_16 : decode cX4_allSounds 16 = .ok (.invokevirtual 264, 3) := by decide +kernel
theorem dX4_allSounds_19 : decode cX4_allSounds 19 = .ok (.iadd, 1) := by decide +kernel
theorem dX4_allSounds_20 : decode cX4_allSounds 20 = .ok (.istore_n 1, 1) := by decide +kernel
theorem dX4_allSounds_21 : decode cX4_allSounds 21 = .ok (.iinc 2 1, 3) := by decide +kernel
theorem dX4_allSounds_24 : decode cX4_allSounds 24 = .ok (.goto (-20), 3) := by decide +kernel
theorem dX4_allSounds_27 : decode cX4_allSounds 27 = .ok (.iload_n 1, 1) := by decide +kernel
theorem dX4_allSounds_28 : decode cX4_allSounds 28 = .ok (.ireturn, 1) := by decide +kernel
theorem dX5_init_0 : decode cX5_init 0 = .ok (.aload_n 0, 1) := by decide +kernel
theorem dX5_init_1 : decode cX5_init 1 = .ok (.invokespecial 1, 3) := by decide +kernel
theorem dX5_init_4 : decode cX5_init 4 = .ok (.aload_n 0, 1) := by decide +kernel
theorem dX5_init_5 : decode cX5_init 5 = .ok (.sipush 205, 3) := by decide +kernel
theorem dX5_init_8 : decode cX5_init 8 = .ok (.newarray .int, 2) := by decide +kernel
theorem dX5_init_10 : decode cX5_init 10 = .ok (.putfield 7, 3) := by decide +kernel
theorem dX5_init_13 : decode cX5_init 13 = .ok (.aload_n 0, 1) := by decide +kernel
theorem dX5_init_14 : decode cX5_init 14 = .ok (.sipush 205, 3) := by decide +kernel
theorem dX5_init_17 : decode cX5_init 17 = .ok (.newarray .int, 2) := by decide +kernel
theorem dX5_init_19 : decode cX5_init 19 = .ok (.putfield 13, 3) := by decide +kernel
theorem dX5_init_22 : decode cX5_init 22 = .ok (.aload_n 0, 1) := by decide +kernel
theorem dX5_init_23 : decode cX5_init 23 = .ok (.sipush 1230, 3) := by decide +kernel
theorem dX5_init_26 : decode cX5_init 26 = .ok (.newarray .int, 2) := by decide +kernel
theorem dX5_init_28 : decode cX5_init 28 = .ok (.putfield 16, 3) := by decide +kernel
theorem dX5_init_31 : decode cX5_init 31 = .ok (.aload_n 0, 1) := by decide +kernel
theorem dX5_init_32 : decode cX5_init 32 = .ok (.sipush 410, 3) := by decide +kernel
theorem dX5_init_35 : decode cX5_init 35 = .ok (.newarray .int, 2) := by decide +kernel
theorem dX5_init_37 : decode cX5_init 37 = .ok (.putfield 19, 3) := by decide +kernel
theorem dX5_init_40 : decode cX5_init 40 = .ok (.aload_n 0, 1) := by decide +kernel
theorem dX5_init_41 : decode cX5_init 41 = .ok (.iconst 2, 1) := by decide +kernel
theorem dX5_init_42 : decode cX5_init 42 = .ok (.newarray .int, 2) := by decide +kernel
theorem dX5_init_44 : decode cX5_init 44 = .ok (.putfield 22, 3) := by decide +kernel
theorem dX5_init_47 : decode cX5_init 47 = .ok (.aload_n 0, 1) := by decide +kernel
theorem dX5_init_48 : decode cX5_init 48 = .ok (.bipush 60, 2) := by decide +kernel
theorem dX5_init_50 : decode cX5_init 50 = .ok (.newarray .int, 2) := by decide +kernel
theorem dX5_init_52 : decode cX5_init 52 = .ok (.putfield 25, 3) := by decide +kernel
theorem dX5_init_55 : decode cX5_init 55 = .ok (.aload_n 0, 1) := by decide +kernel
theorem dX5_init_56 : decode cX5_init 56 = .ok (.bipush 100, 2) := by decide +kernel
theorem dX5_init_58 : decode cX5_init 58 = .ok (.newarray .int, 2) := by decide +kernel
theorem dX5_init_60 : decode cX5_init 60 = .ok (.putfield 28, 3) := by decide +kernel
theorem dX5_init_63 : decode cX5_init 63 = .ok (.aload_n 0, 1) := by decide +kernel
theorem dX5_init_64 : decode cX5_init 64 = .ok (.bipush 100, 2) := by decide +kernel
theorem dX5_init_66 : decode cX5_init 66 = .ok (.newarray .int, 2) := by decide +kernel
theorem dX5_init_68 : decode cX5_init 68 = .ok (.putfield 31, 3) := by decide +kernel
theorem dX5_init_71 : decode cX5_init 71 = .ok (.aload_n 0, 1) := by decide +kernel
theorem dX5_init_72 : decode cX5_init 72 = .ok (.iconst 5, 1) := by decide +kernel
theorem dX5_init_73 : decode cX5_init 73 = .ok (.newarray .int, 2) := by decide +kernel
theorem dX5_init_75 : decode cX5_init 75 = .ok (.putfield 34, 3) := by decide +kernel
theorem dX5_init_78 : decode cX5_init 78 = .ok (.aload_n 0, 1) := by decide +kernel
theorem dX5_init_79 : decode cX5_init 79 = .ok (.getfield 7, 3) := by decide +kernel
theorem dX5_init_82 : decode cX5_init 82 = .ok (.iconst 0, 1) := by decide +kernel
theorem dX5_init_83 : decode cX5_init 83 = .ok (.iconst 3, 1) := by decide +kernel
theorem dX5_init_84 : decode cX5_init 84 = .ok (.iastore, 1) := by decide +kernel
theorem dX5_init_85 : decode cX5_init 85 = .ok (.aload_n 0, 1) := by decide +kernel
theorem dX5_init_86 : decode cX5_init 86 = .ok (.getfield 7, 3) := by decide +kernel
theorem dX5_init_89 : decode cX5_init 89 = .ok (.iconst 1, 1) := by decide +kernel
theorem dX5_init_90 : decode cX5_init 90 = .ok (.iconst 1, 1) := by decide +kernel
theorem dX5_init_91 : decode cX5_init 91 = .ok (.iastore, 1) := by decide +kernel
theorem dX5_init_92 : decode cX5_init 92 = .ok (.aload_n 0, 1) := by decide +kernel
theorem dX5_init_93 : decode cX5_init 93 = .ok (.getfield 7, 3) := by decide +kernel
theorem dX5_init_96 : decode cX5_init 96 = .ok (.iconst 2, 1) := by decide +kernel
theorem dX5_init_97 : decode cX5_init 97 = .ok (.iconst 1, 1) := by decide +kernel
theorem dX5_init_98 : decode cX5_init 98 = .ok (.iastore, 1) := by decide +kernel
theorem dX5_init_99 : decode cX5_init 99 = .ok (.aload_n 0, 1) := by decide +kernel
theorem dX5_init_100 : decode cX5_init 100 = .ok (.getfield 7, 3) := by decide +kernel
theorem dX5_init_103 : decode cX5_init 103 = .ok (.iconst 3, 1) := by decide +kernel
theorem dX5_init_104 : decode cX5_init 104 = .ok (.iconst 4, 1) := by decide +kernel
theorem dX5_init_105 : decode cX5_init 105 = .ok (.iastore, 1) := by decide +kernel
theorem dX5_init_106 : decode cX5_init 106 = .ok (.return_, 1) := by decide +kernel
theorem dX5_moves_0 : decode cX5_moves 0 = .ok (.iconst 0, 1) := by decide +kernel
theorem dX5_moves_1 : decode cX5_moves 1 = .ok (.istore 4, 2) := by decide +kernel
theorem dX5_moves_3 : decode cX5_moves 3 = .ok (.iload 4, 2) := by decide +kernel
theorem dX5_moves_5 : decode cX5_moves 5 = .ok (.sipush 205, 3) := by decide +kernel
theorem dX5_moves_8 : decode cX5_moves 8 = .ok (.if_icmp .ge 21, 3) := by decide +kernel
theorem dX5_moves_11 : decode cX5_moves 11 = .ok (.aload_n 2, 1) := by decide +kernel
theorem dX5_moves_12 : decode cX5_moves 12 = .ok (.iload_n 3, 1) := by decide +kernel
theorem dX5_moves_13 : decode cX5_moves 13 = .ok (.iload 4, 2) := by decide +kernel
theorem dX5_moves_15 : decode cX5_moves 15 = .ok (.iadd, 1) := by decide +kernel
theorem dX5_moves_16 : decode cX5_moves 16 = .ok (.aload_n 0, 1) := by decide +kernel
theorem dX5_moves_17 : decode cX5_moves 17 = .ok (.iload_n 1, 1) := by decide +kernel
theorem dX5_moves_18 : decode cX5_moves 18 = .ok (.iload 4, 2) := by decide +kernel
theorem dX5_moves_20 : decode cX5_moves 20 = .ok (.iadd, 1) := by decide +kernel
theorem dX5_moves_21 : decode cX5_moves 21 = .ok (.iaload, 1) := by decide +kernel
theorem dX5_moves_22 : decode cX5_moves 22 = .ok (.iastore, 1) := by decide +kernel
theorem dX5_moves_23 : decode cX5_moves 23 = .ok (.iinc 4 1, 3) := by decide +kernel
theorem dX5_moves_26 : decode cX5_moves 26 = .ok (.goto (-23), 3) := by decide +kernel
theorem dX5_moves_29 : decode cX5_moves 29 = .ok (.return_, 1) := by decide +kernel
theorem dX5_within_0 : decode cX5_within 0 = .ok (.iload_n 0, 1) := by decide +kernel
theorem dX5_within_1 : decode cX5_within 1 = .ok (.iload_n 1, 1) := by decide +kernel
theorem dX5_within_2 : decode cX5_within 2 = .ok (.if_icmp .lt 12, 3) := by decide +kernel
theorem dX5_within_5 : decode cX5_within 5 = .ok (.iload_n 0, 1) := by decide +kernel
theorem dX5_within_6 : decode cX5_within 6 = .ok (.iload_n 2, 1) := by decide +kernel
theorem dX5_within_7 : decode cX5_within 7 = .ok (.if_icmp .gt 7, 3) := by decide +kernel
theorem dX5_within_10 : decode cX5_within 10 = .ok (.iconst 1, 1) := by decide +kernel
theorem dX5_within_11 : decode cX5_within 11 = .ok (.goto 4, 3) := by decide +kernel
theorem dX5_within_14 : decode cX5_within 14 = .ok (.iconst 0, 1) := by decide +kernel
theorem dX5_within_15 : decode cX5_within 15 = .ok (.ireturn, 1) := by decide +kernel
set_option maxRecDepth 20000 in
theorem ggX5_record_X5_moves : GoodIn wsX5_record wsX5_moves := goodIn_r _ [7] (by decide +kernel) (by decide +kernel)
set_option maxRecDepth 20000 in
theorem gX5_record_X5_moves : GoodIn wsX5_record (va_wsS RX5 41 yX5_moves wsX5_moves) := goodIn_app (goodIn_of _ (by decide +kernel)) ggX5_record_X5_moves
theorem dX5_record_0 : decode cX5_record 0 = .ok (.aload_n 0, 1) := by decide +kernel
theorem dX5_record_1 : decode cX5_record 1 = .ok (.getfield 37, 3) := by decide +kernel
theorem dX5_record_4 : decode cX5_record 4 = .ok (.bipush 6, 2) := by decide +kernel
theorem dX5_record_6 : decode cX5_record 6 = .ok (.if_icmp .ne 44, 3) := by decide +kernel
theorem dX5_record_9 : decode cX5_record 9 = .ok (.iconst 0, 1) := by decide +kernel
theorem dX5_record_10 : decode cX5_record 10 = .ok (.istore_n 1, 1) := by decide +kernel
theorem dX5_record_11 : decode cX5_record 11 = .ok (.iload_n 1, 1) := by decide +kernel
theorem dX5_record_12 : decode cX5_record 12 = .ok (.sipush 1025, 3) := by decide +kernel
theorem dX5_record_15 : decode cX5_record 15 = .ok (.if_icmp .ge 25, 3) := by decide +kernel
theorem dX5_record_18 : decode cX5_record 18 = .ok (.aload_n 0, 1) := by decide +kernel
theorem dX5_record_19 : decode cX5_record 19 = .ok (.getfield 16, 3) := by decide +kernel
theorem dX5_record_22 : decode cX5_record 22 = .ok (.iload_n 1, 1) := by decide +kernel
theorem dX5_record_23 : decode cX5_record 23 = .ok (.aload_n 0, 1) := by decide +kernel
theorem dX5_record_24 : decode cX5_record 24 = .ok (.getfield 16, 3) := by decide +kernel
theorem dX5_record_27 : decode cX5_record 27 = .ok (.iload_n 1, 1) := by decide +kernel
theorem dX5_record_28 : decode cX5_record 28 = .ok (.sipush 205, 3) := by decide +kernel
theorem dX5_record_31 : decode cX5_record 31 = .ok (.iadd, 1) := by decide +kernel
theorem dX5_record_32 : decode cX5_record 32 = .ok (.iaload, 1) := by decide +kernel
theorem dX5_record_33 : decode cX5_record 33 = .ok (.iastore, 1) := by decide +kernel
theorem dX5_record_34 : decode cX5_record 34 = .ok (.iinc 1 1, 3) := by decide +kernel
theorem dX5_record_37 : decode cX5_record 37 = .ok (.goto (-26), 3) := by decide +kernel
theorem dX5_record_40 : decode cX5_record 40 = .ok (.aload_n 0, 1) := by decide +kernel
theorem dX5_record_41 : decode cX5_record 41 = .ok (.dup, 1) := by decide +kernel
theorem dX5_record_42 : decode cX5_record 42 = .ok (.getfield 37, 3) := by decide +kernel
theorem dX5_record_45 : decode cX5_record 45 = .ok (.iconst 1, 1) := by decide +kernel
theorem dX5_record_46 : decode cX5_record 46 = .ok (.isub, 1) := by decide +kernel
theorem dX5_record_47 : decode cX5_record 47 = .ok (.putfield 37, 3) := by decide +kernel
theorem dX5_record_50 : decode cX5_record 50 = .ok (.aload_n 0, 1) := by decide +kernel
theorem dX5_record_51 : decode cX5_record 51 = .ok (.getfield 7, 3) := by decide +kernel
theorem dX5_record_54 : decode cX5_record 54 = .ok (.iconst 0, 1) := by decide +kernel
theorem dX5_record_55 : decode cX5_record 55 = .ok (.aload_n 0, 1) := by decide +kernel
theorem dX5_record_56 : decode cX5_record 56 = .ok (.getfield 16, 3) := by decide +kernel
theorem dX5_record_59 : decode cX5_record 59 = .ok (.aload_n 0, 1) := by decide +kernel
theorem dX5_record_60 : decode cX5_record 60 = .ok (.getfield 37, 3) := by decide +kernel
theorem dX5_record_63 : decode cX5_record 63 = .ok (.sipush 205, 3) := by decide +kernel
theorem dX5_record_66 : decode cX5_record 66 = .ok (.imul, 1) := by decide +kernel
theorem dX5_record_67 : decode cX5_record 67 = .ok (.invokestatic 41, 3) := by decide +kernel
theorem dX5_record_70 : decode cX5_record 70 = .ok (.aload_n 0, 1) := by decide +kernel
theorem dX5_record_71 : decode cX5_record 71 = .ok (.dup, 1) := by decide +kernel
theorem dX5_record_72 : decode cX5_record 72 = .ok (.getfield 37, 3) := by decide +kernel
theorem dX5_record_75 : decode cX5_record 75 = .ok (.iconst 1, 1) := by decide +kernel
theorem dX5_record_76 : decode cX5_record 76 = .ok (.iadd, 1) := by decide +kernel
theorem dX5_record_77 : decode cX5_record 77 = .ok (.putfield 37, 3) := by decide +kernel
theorem dX5_record_80 : decode cX5_record 80 = .ok (.return_, 1) := by decide +kernel
set_option maxRecDepth 20000 in
theorem ggX5_isTrack_X5_within : GoodIn wsX5_isTrack wsX5_within := goodIn_r _ [4] (by decide +kernel) (by decide +kernel)
set_option maxRecDepth 20000 in
theorem gX5_isTrack_X5_within : GoodIn wsX5_isTrack (va_wsS RX5 45 yX5_within wsX5_within) := goodIn_app (goodIn_of _ (by decide +kernel)) ggX5_isTrack_X5_within
theorem dX5_isTrack_0 : decode cX5_isTrack 0 = .ok (.iload_n 0, 1) := by decide +kernel
theorem dX5_isTrack_1 : decode cX5_isTrack 1 = .ok (.iconst 0, 1) := by decide +kernel
theorem dX5_isTrack_2 : decode cX5_isTrack 2 = .ok (.bipush 11, 2) := by decide +kernel
theorem dX5_isTrack_4 : decode cX5_isTrack 4 = .ok (.invokestatic 45, 3) := by decide +kernel
theorem dX5_isTrack_7 : decode cX5_isTrack 7 = .ok (.ireturn, 1) := by decide +kernel
set_option maxRecDepth 20000 in
theorem ggX5_isStep_X5_within : GoodIn wsX5_isStep wsX5_within := goodIn_r _ [4] (by decide +kernel) (by decide +kernel)
set_option maxRecDepth 20000 in
theorem gX5_isStep_X5_within : GoodIn wsX5_isStep (va_wsS RX5 45 yX5_within wsX5_within) := goodIn_app (goodIn_of _ (by decide +kernel)) ggX5_isStep_X5_within
theorem dX5_isStep_0 : decode cX5_isStep 0 = .ok (.iload_n 0, 1) := by decide +kernel
theorem dX5_isStep_1 : decode cX5_isStep 1 = .ok (.iconst 0, 1) := by decide +kernel
theorem dX5_isStep_2 : decode cX5_isStep 2 = .ok (.bipush 99, 2) := by decide +kernel
theorem dX5_isStep_4 : decode cX5_isStep 4 = .ok (.invokestatic 45, 3) := by decide +kernel
theorem dX5_isStep_7 : decode cX5_isStep 7 = .ok (.ireturn, 1) := by decide +kernel
set_option maxRecDepth 20000 in
theorem ggX5_isNote_X5_within : GoodIn wsX5_isNote wsX5_within := goodIn_r _ [5] (by decide +kernel) (by decide +kernel)
set_option maxRecDepth 20000 in
theorem gX5_isNote_X5_within : GoodIn wsX5_isNote (va_wsS RX5 45 yX5_within wsX5_within) := goodIn_app (goodIn_of _ (by decide +kernel)) ggX5_isNote_X5_within
theorem dX5_isNote_0 : decode cX5_isNote 0 = .ok (.iload_n 1, 1) := by decide +kernel
theorem dX5_isNote_1 : decode cX5_isNote 1 = .ok (.iconst 0, 1) := by decide +kernel
theorem dX5_isNote_2 : decode cX5_isNote 2 = .ok (.aload_n 0, 1) := by decide +kernel
theorem dX5_isNote_3 : decode cX5_isNote 3 = .ok (.getfield 7, 3) := by decide +kernel
theorem dX5_isNote_6 : decode cX5_isNote 6 = .ok (.iconst 4, 1) := by decide +kernel
theorem dX5_isNote_7 : decode cX5_isNote 7 = .ok (.iaload, 1) := by decide +kernel
theorem dX5_isNote_8 : decode cX5_isNote 8 = .ok (.iconst 1, 1) := by decide +kernel
theorem dX5_isNote_9 : decode cX5_isNote 9 = .ok (.isub, 1) := by decide +kernel
theorem dX5_isNote_10 : decode cX5_isNote 10 = .ok (.invokestatic 45, 3) := by decide +kernel
theorem dX5_isNote_13 : decode cX5_isNote 13 = .ok (.ireturn, 1) := by decide +kernel
theorem dX5_part_0 : decode cX5_part 0 = .ok (.aload_n 0, 1) := by decide +kernel
theorem dX5_part_1 : decode cX5_part 1 = .ok (.getfield 7, 3) := by decide +kernel
theorem dX5_part_4 : decode cX5_part 4 = .ok (.iconst 5, 1) := by decide +kernel
theorem dX5_part_5 : decode cX5_part 5 = .ok (.iconst 5, 1) := by decide +kernel
theorem dX5_part_6 : decode cX5_part 6 = .ok (.iload_n 1, 1) := by decide +kernel
theorem dX5_part_7 : decode cX5_part 7 = .ok (.imul, 1) := by decide +kernel
theorem dX5_part_8 : decode cX5_part 8 = .ok (.iadd, 1) := by decide +kernel
theorem dX5_part_9 : decode cX5_part 9 = .ok (.iload_n 2, 1) := by decide +kernel
theorem dX5_part_10 : decode cX5_part 10 = .ok (.iadd, 1) := by decide +kernel
theorem dX5_part_11 : decode cX5_part 11 = .ok (.iaload, 1) := by decide +kernel
theorem dX5_part_12 : decode cX5_part 12 = .ok (.ireturn, 1) := by decide +kernel
theorem dX5_setPart_0 : decode cX5_setPart 0 = .ok (.aload_n 0, 1) := by decide +kernel
theorem dX5_setPart_1 : decode cX5_setPart 1 = .ok (.getfield 7, 3) := by decide +kernel
theorem dX5_setPart_4 : decode cX5_setPart 4 = .ok (.iconst 5, 1) := by decide +kernel
theorem dX5_setPart_5 : decode cX5_setPart 5 = .ok (.iconst 5, 1) := by decide +kernel
theorem dX5_setPart_6 : decode cX5_setPart 6 = .ok (.iload_n 1, 1) := by decide +kernel
theorem dX5_setPart_7 : decode cX5_setPart 7 = .ok (.imul, 1) := by decide +kernel
theorem dX5_setPart_8 : decode cX5_setPart 8 = .ok (.iadd, 1) := by decide +kernel
theorem dX5_setPart_9 : decode cX5_setPart 9 = .ok (.iload_n 2, 1) := by decide +kernel
theorem dX5_setPart_10 : decode cX5_setPart 10 = .ok (.iadd, 1) := by decide +kernel
theorem dX5_setPart_11 : decode cX5_setPart 11 = .ok (.iload_n 3, 1) := by decide +kernel
theorem dX5_setPart_12 : decode cX5_setPart 12 = .ok (.iastore, 1) := by decide +kernel
theorem dX5_setPart_13 : decode cX5_setPart 13 = .ok (.return_, 1) := by decide +kernel
set_option maxRecDepth 20000 in
theorem ggX5_move_X5_part : GoodIn wsX5_move wsX5_part := goodIn_r _ [5, 6, 11, 12, 13, 14, 15, 16, 17, 18, 19, 20, 21, 22, 23, 24, 25, 26] (by decide +kernel) (by decide +kernel)
set_option maxRecDepth 20000 in
theorem gX5_move_X5_part : GoodIn wsX5_move (wsV RX5 49 RX5 yX5_part wsX5_part) := goodIn_app (goodIn_of _ (by decide +kernel)) ggX5_move_X5_part
set_option maxRecDepth 20000 in
theorem ggX5_move_X5_setPart : GoodIn wsX5_move wsX5_setPart := goodIn_r _ [10, 6, 11, 12, 13, 14, 15, 16, 17, 18, 19, 20, 21, 22, 23, 24, 25, 26] (by decide +kernel) (by decide +kernel)
set_option maxRecDepth 20000 in
theorem gX5_move_X5_setPart : GoodIn wsX5_move (wsV RX5 53 RX5 yX5_setPart wsX5_setPart) := goodIn_app (goodIn_of _ (by decide +kernel)) ggX5_move_X5_setPart
theorem dX5_move_0 : decode cX5_move 0 = .ok (.iconst 0, 1) := by decide +kernel
theorem dX5_move_1 : decode cX5_move 1 = .ok (.istore_n 3, 1) := by decide +kernel
theorem dX5_move_2 : decode cX5_move 2 = .ok (.iload_n 3, 1) := by decide +kernel
theorem dX5_move_3 : decode cX5_move 3 = .ok (.iconst 5, 1) := by decide +kernel
theorem dX5_move_4 : decode cX5_move 4 = .ok (.if_icmp .ge 21, 3) := by decide +kernel
theorem dX5_move_7 : decode cX5_move 7 = .ok (.aload_n 0, 1) := by decide +kernel
theorem dX5_move_8 : decode cX5_move 8 = .ok (.iload_n 2, 1) := by decide +kernel
theorem dX5_move_9 : decode cX5_move 9 = .ok (.iload_n 3, 1) := by decide +kernel
theorem dX5_move_10 : decode cX5_move 10 = .ok (.aload_n 0, 1) := by decide +kernel
theorem dX5_move_11 : decode cX5_move 11 = .ok (.iload_n 1, 1) := by decide +kernel
theorem dX5_move_12 : decode cX5_move 12 = .ok (.iload_n 3, 1) := by decide +kernel
theorem dX5_move_13 : decode cX5_move 13 = .ok (.invokevirtual 49, 3) := by decide +kernel
theorem dX5_move_16 : decode cX5_move 16 = .ok (.invokevirtual 53, 3) := by decide +kernel
theorem dX5_move_19 : decode cX5_move 19 = .ok (.iinc 3 1, 3) := by decide +kernel
theorem dX5_move_22 : decode cX5_move 22 = .ok (.goto (-20), 3) := by decide +kernel
theorem dX5_move_25 : decode cX5_move 25 = .ok (.return_, 1) := by decide +kernel
set_option maxRecDepth 20000 in
theorem ggX5_isTaken_X5_part : GoodIn wsX5_isTaken wsX5_part := goodIn_r _ [6, 1, 7, 8, 9, 10, 11, 12, 13, 14, 15, 16, 17, 18, 19, 20, 21, 22] (by decide +kernel) (by decide +kernel)
set_option maxRecDepth 20000 in
theorem gX5_isTaken_X5_part : GoodIn wsX5_isTaken (wsV RX5 49 RX5 yX5_part wsX5_part) := goodIn_app (goodIn_of _ (by decide +kernel)) ggX5_isTaken_X5_part
theorem dX5_isTaken_0 : decode cX5_isTaken 0 = .ok (.iconst 0, 1) := by decide +kernel
theorem dX5_isTaken_1 : decode cX5_isTaken 1 = .ok (.istore 4, 2) := by decide +kernel
theorem dX5_isTaken_3 : decode cX5_isTaken 3 = .ok (.iconst 0, 1) := by decide +kernel
theorem dX5_isTaken_4 : decode cX5_isTaken 4 = .ok (.istore 5, 2) := by decide +kernel
theorem dX5_isTaken_6 : decode cX5_isTaken 6 = .ok (.iload 5, 2) := by decide +kernel
theorem dX5_isTaken_8 : decode cX5_isTaken 8 = .ok (.aload_n 0, 1) := by decide +kernel
theorem dX5_isTaken_9 : decode cX5_isTaken 9 = .ok (.getfield 7, 3) := by decide +kernel
theorem dX5_isTaken_12 : decode cX5_isTaken 12 = .ok (.iconst 4, 1) := by decide +kernel
theorem dX5_isTaken_13 : decode cX5_isTaken 13 = .ok (.iaload, 1) := by decide +kernel
theorem dX5_isTaken_14 : decode cX5_isTaken 14 = .ok (.if_icmp .ge 54, 3) := by decide +kernel
theorem dX5_isTaken_17 : decode cX5_isTaken 17 = .ok (.iload 4, 2) := by decide +kernel
theorem dX5_isTaken_19 : decode cX5_isTaken 19 = .ok (.ifCond .ne 36, 3) := by decide +kernel
theorem dX5_isTaken_22 : decode cX5_isTaken 22 = .ok (.aload_n 0, 1) := by decide +kernel
theorem dX5_isTaken_23 : decode cX5_isTaken 23 = .ok (.iload 5, 2) := by decide +kernel
theorem dX5_isTaken_25 : decode cX5_isTaken 25 = .ok (.iconst 0, 1) := by decide +kernel
theorem dX5_isTaken_26 : decode cX5_isTaken 26 = .ok (.invokevirtual 49, 3) := by decide +kernel
theorem dX5_isTaken_29 : decode cX5_isTaken 29 = .ok (.iload_n 1, 1) := by decide +kernel
theorem dX5_isTaken_30 : decode cX5_isTaken 30 = .ok (.if_icmp .ne 29, 3) := by decide +kernel
theorem dX5_isTaken_33 : decode cX5_isTaken 33 = .ok (.aload_n 0, 1) := by decide +kernel
theorem dX5_isTaken_34 : decode cX5_isTaken 34 = .ok (.iload 5, 2) := by decide +kernel
theorem dX5_isTaken_36 : decode cX5_isTaken 36 = .ok (.iconst 1, 1) := by decide +kernel
theorem dX5_isTaken_37 : decode cX5_isTaken 37 = .ok (.invokevirtual 49, 3) := by decide +kernel
theorem dX5_isTaken_40 : decode cX5_isTaken 40 = .ok (.iload_n 3, 1) := by decide +kernel
theorem dX5_isTaken_41 : decode cX5_isTaken 41 = .ok (.if_icmp .gt 18, 3) := by decide +kernel
theorem dX5_isTaken_44 : decode cX5_isTaken 44 = .ok (.aload_n 0, 1) := by decide +kernel
theorem dX5_isTaken_45 : decode cX5_isTaken 45 = .ok (.iload 5, 2) := by decide +kernel
theorem dX5_isTaken_47 : decode cX5_isTaken 47 = .ok (.iconst 2, 1) := by decide +kernel
theorem dX5_isTaken_48 : decode cX5_isTaken 48 = .ok (.invokevirtual 49, 3) := by decide +kernel
theorem dX5_isTaken_51 : decode cX5_isTaken 51 = .ok (.iload_n 2, 1) := by decide +kernel
theorem dX5_isTaken_52 : decode cX5_isTaken 52 = .ok (.if_icmp .lt 7, 3) := by decide +kernel
theorem dX5_isTaken_55 : decode cX5_isTaken 55 = .ok (.iconst 1, 1) := by decide +kernel
theorem dX5_isTaken_56 : decode cX5_isTaken 56 = .ok (.goto 4, 3) := by decide +kernel
theorem dX5_isTaken_59 : decode cX5_isTaken 59 = .ok (.iconst 0, 1) := by decide +kernel
theorem dX5_isTaken_60 : decode cX5_isTaken 60 = .ok (.istore 4, 2) := by decide +kernel
theorem dX5_isTaken_62 : decode cX5_isTaken 62 = .ok (.iinc 5 1, 3) := by decide +kernel
theorem dX5_isTaken_65 : decode cX5_isTaken 65 = .ok (.goto (-59), 3) := by decide +kernel
theorem dX5_isTaken_68 : decode cX5_isTaken 68 = .ok (.iload 4, 2) := by decide +kernel
theorem dX5_isTaken_70 : decode cX5_isTaken 70 = .ok (.ireturn, 1) := by decide +kernel
set_option maxRecDepth 20000 in
theorem ggX5_orderOf_X5_part : GoodIn wsX5_orderOf wsX5_part := goodIn_r _ [5, 6, 7, 8, 9, 10, 11, 12, 13, 14, 15, 16, 17, 18, 19, 20, 21, 22] (by decide +kernel) (by decide +kernel)
set_option maxRecDepth 20000 in
theorem gX5_orderOf_X5_part : GoodIn wsX5_orderOf (wsV RX5 49 RX5 yX5_part wsX5_part) := goodIn_app (goodIn_of _ (by decide +kernel)) ggX5_orderOf_X5_part
theorem dX5_orderOf_0 : decode cX5_orderOf 0 = .ok (.bipush 12, 2) := by decide +kernel
theorem dX5_orderOf_2 : decode cX5_orderOf 2 = .ok (.aload_n 0, 1) := by decide +kernel
theorem dX5_orderOf_3 : decode cX5_orderOf 3 = .ok (.iload_n 1, 1) := by decide +kernel
theorem dX5_orderOf_4 : decode cX5_orderOf 4 = .ok (.iconst 1, 1) := by decide +kernel
theorem dX5_orderOf_5 : decode cX5_orderOf 5 = .ok (.invokevirtual 49, 3) := by decide +kernel
theorem dX5_orderOf_8 : decode cX5_orderOf 8 = .ok (.imul, 1) := by decide +kernel
theorem dX5_orderOf_9 : decode cX5_orderOf 9 = .ok (.aload_n 0, 1) := by decide +kernel
theorem dX5_orderOf_10 : decode cX5_orderOf 10 = .ok (.iload_n 1, 1) := by decide +kernel
theorem dX5_orderOf_11 : decode cX5_orderOf 11 = .ok (.iconst 0, 1) := by decide +kernel
theorem dX5_orderOf_12 : decode cX5_orderOf 12 = .ok (.invokevirtual 49, 3) := by decide +kernel
theorem dX5_orderOf_15 : decode cX5_orderOf 15 = .ok (.iadd, 1) := by decide +kernel
theorem dX5_orderOf_16 : decode cX5_orderOf 16 = .ok (.ireturn, 1) := by decide +kernel
set_option maxRecDepth 20000 in
theorem ggX5_putIn_X5_orderOf : GoodIn wsX5_putIn wsX5_orderOf := goodIn_r _ [6, 7, 8, 9, 5, 10, 1, 19, 20, 21, 22, 23, 24, 25, 26, 27, 28, 29, 30, 31, 32, 33, 34] (by decide +kernel) (by decide +kernel)
set_option maxRecDepth 20000 in
theorem gX5_putIn_X5_orderOf : GoodIn wsX5_putIn (wsV RX5 57 RX5 yX5_orderOf wsX5_orderOf) := goodIn_app (goodIn_of _ (by decide +kernel)) ggX5_putIn_X5_orderOf
set_option maxRecDepth 20000 in
theorem ggX5_putIn_X5_move : GoodIn wsX5_putIn wsX5_move := goodIn_r _ [14, 7, 8, 9, 5, 10, 1, 15, 16, 17, 18, 19, 20, 21, 22, 23, 24, 25, 26, 27, 28, 29, 30, 31, 32, 33, 34] (by decide +kernel) (by decide +kernel)
set_option maxRecDepth 20000 in
theorem gX5_putIn_X5_move : GoodIn wsX5_putIn (wsV RX5 61 RX5 yX5_move wsX5_move) := goodIn_app (goodIn_of _ (by decide +kernel)) ggX5_putIn_X5_move
set_option maxRecDepth 20000 in
theorem ggX5_putIn_X5_setPart : GoodIn wsX5_putIn wsX5_setPart := goodIn_r _ [18, 1, 19, 20, 21, 22, 23, 24, 25, 26, 27, 28, 29, 30, 31, 32, 33, 34] (by decide +kernel) (by decide +kernel)
set_option maxRecDepth 20000 in
theorem gX5_putIn_X5_setPart : GoodIn wsX5_putIn (wsV RX5 53 RX5 yX5_setPart wsX5_setPart) := goodIn_app (goodIn_of _ (by decide +kernel)) ggX5_putIn_X5_setPart
theorem dX5_putIn_0 : decode cX5_putIn 0 = .ok (.aload_n 0, 1) := by decide +kernel
theorem dX5_putIn_1 : decode cX5_putIn 1 = .ok (.getfield 7, 3) := by decide +kernel
theorem dX5_putIn_4 : decode cX5_putIn 4 = .ok (.iconst 4, 1) := by decide +kernel
theorem dX5_putIn_5 : decode cX5_putIn 5 = .ok (.iaload, 1) := by decide +kernel
theorem dX5_putIn_6 : decode cX5_putIn 6 = .ok (.istore 6, 2) := by decide +kernel
theorem dX5_putIn_8 : decode cX5_putIn 8 = .ok (.iload 6, 2) := by decide +kernel
theorem dX5_putIn_10 : decode cX5_putIn 10 = .ok (.ifCond .le 36, 3) := by decide +kernel
theorem dX5_putIn_13 : decode cX5_putIn 13 = .ok (.aload_n 0, 1) := by decide +kernel
theorem dX5_putIn_14 : decode cX5_putIn 14 = .ok (.iload 6, 2) := by decide +kernel
theorem dX5_putIn_16 : decode cX5_putIn 16 = .ok (.iconst 1, 1) := by decide +kernel
theorem dX5_putIn_17 : decode cX5_putIn 17 = .ok (.isub, 1) := by decide +kernel
theorem dX5_putIn_18 : decode cX5_putIn 18 = .ok (.invokevirtual 57, 3) := by decide +kernel
theorem dX5_putIn_21 : decode cX5_putIn 21 = .ok (.bipush 12, 2) := by decide +kernel
theorem dX5_putIn_23 : decode cX5_putIn 23 = .ok (.iload_n 2, 1) := by decide +kernel
theorem dX5_putIn_24 : decode cX5_putIn 24 = .ok (.imul, 1) := by decide +kernel
theorem dX5_putIn_25 : decode cX5_putIn 25 = .ok (.iload_n 1, 1) := by decide +kernel
theorem dX5_putIn_26 : decode cX5_putIn 26 = .ok (.iadd, 1) := by decide +kernel
theorem dX5_putIn_27 : decode cX5_putIn 27 = .ok (.if_icmp .le 19, 3) := by decide +kernel
theorem dX5_putIn_30 : decode cX5_putIn 30 = .ok (.aload_n 0, 1) := by decide +kernel
theorem dX5_putIn_31 : decode cX5_putIn 31 = .ok (.iload 6, 2) := by decide +kernel
theorem dX5_putIn_33 : decode cX5_putIn 33 = .ok (.iconst 1, 1) := by decide +kernel
theorem dX5_putIn_34 : decode cX5_putIn 34 = .ok (.isub, 1) := by decide +kernel
theorem dX5_putIn_35 : decode cX5_putIn 35 = .ok (.iload 6, 2) := by decide +kernel
theorem dX5_putIn_37 : decode cX5_putIn 37 = .ok (.invokevirtual 61, 3) := by decide +kernel
theorem dX5_putIn_40 : decode cX5_putIn 40 = .ok (.iinc 6 (-1), 3) := by decide +kernel
theorem dX5_putIn_43 : decode cX5_putIn 43 = .ok (.goto (-35), 3) := by decide +kernel
theorem dX5_putIn_46 : decode cX5_putIn 46 = .ok (.aload_n 0, 1) := by decide +kernel
theorem dX5_putIn_47 : decode cX5_putIn 47 = .ok (.iload 6, 2) := by decide +kernel
theorem dX5_putIn_49 : decode cX5_putIn 49 = .ok (.iconst 0, 1) := by decide +kernel
theorem dX5_putIn_50 : decode cX5_putIn 50 = .ok (.iload_n 1, 1) := by decide +kernel
theorem dX5_putIn_51 : decode cX5_putIn 51 = .ok (.invokevirtual 53, 3) := by decide +kernel
theorem dX5_putIn_54 : decode cX5_putIn 54 = .ok (.aload_n 0, 1) := by decide +kernel
theorem dX5_putIn_55 : decode cX5_putIn 55 = .ok (.iload 6, 2) := by decide +kernel
theorem dX5_putIn_57 : decode cX5_putIn 57 = .ok (.iconst 1, 1) := by decide +kernel
theorem dX5_putIn_58 : decode cX5_putIn 58 = .ok (.iload_n 2, 1) := by decide +kernel
theorem dX5_putIn_59 : decode cX5_putIn 59 = .ok (.invokevirtual 53, 3) := by decide +kernel
theorem dX5_putIn_62 : decode cX5_putIn 62 = .ok (.aload_n 0, 1) := by decide +kernel
theorem dX5_putIn_63 : decode cX5_putIn 63 = .ok (.iload 6, 2) := by decide +kernel
theorem dX5_putIn_65 : decode cX5_putIn 65 = .ok (.iconst 2, 1) := by decide +kernel
theorem dX5_putIn_66 : decode cX5_putIn 66 = .ok (.iload_n 3, 1) := by decide +kernel
theorem dX5_putIn_67 : decode cX5_putIn 67 = .ok (.invokevirtual 53, 3) := by decide +kernel
theorem dX5_putIn_70 : decode cX5_putIn 70 = .ok (.aload_n 0, 1) := by decide +kernel
theorem dX5_putIn_71 : decode cX5_putIn 71 = .ok (.iload 6, 2) := by decide +kernel
theorem dX5_putIn_73 : decode cX5_putIn 73 = .ok (.iconst 3, 1) := by decide +kernel
theorem dX5_putIn_74 : decode cX5_putIn 74 = .ok (.iload 4, 2) := by decide +kernel
theorem dX5_putIn_76 : decode cX5_putIn 76 = .ok (.invokevirtual 53, 3) := by decide +kernel
theorem dX5_putIn_79 : decode cX5_putIn 79 = .ok (.aload_n 0, 1) := by decide +kernel
theorem dX5_putIn_80 : decode cX5_putIn 80 = .ok (.iload 6, 2) := by decide +kernel
theorem dX5_putIn_82 : decode cX5_putIn 82 = .ok (.iconst 4, 1) := by decide +kernel
theorem dX5_putIn_83 : decode cX5_putIn 83 = .ok (.iload 5, 2) := by decide +kernel
theorem dX5_putIn_85 : decode cX5_putIn 85 = .ok (.invokevirtual 53, 3) := by decide +kernel
theorem dX5_putIn_88 : decode cX5_putIn 88 = .ok (.aload_n 0, 1) := by decide +kernel
theorem dX5_putIn_89 : decode cX5_putIn 89 = .ok (.getfield 7, 3) := by decide +kernel
theorem dX5_putIn_92 : decode cX5_putIn 92 = .ok (.iconst 4, 1) := by decide +kernel
theorem dX5_putIn_93 : decode cX5_putIn 93 = .ok (.dup2, 1) := by decide +kernel
theorem dX5_putIn_94 : decode cX5_putIn 94 = .ok (.iaload, 1) := by decide +kernel
theorem dX5_putIn_95 : decode cX5_putIn 95 = .ok (.iconst 1, 1) := by decide +kernel
theorem dX5_putIn_96 : decode cX5_putIn 96 = .ok (.iadd, 1) := by decide +kernel
theorem dX5_putIn_97 : decode cX5_putIn 97 = .ok (.iastore, 1) := by decide +kernel
theorem dX5_putIn_98 : decode cX5_putIn 98 = .ok (.iload 6, 2) := by decide +kernel
theorem dX5_putIn_100 : decode cX5_putIn 100 = .ok (.ireturn, 1) := by decide +kernel
set_option maxRecDepth 20000 in
theorem ggX5_takeOut_X5_move : GoodIn wsX5_takeOut wsX5_move := goodIn_r _ [6, 7, 8, 9, 5, 10, 1, 11, 12, 13, 14, 15, 16, 17, 18, 19, 20, 21, 22, 23, 24, 25, 26, 27, 28, 29, 30] (by decide +kernel) (by decide +kernel)
set_option maxRecDepth 20000 in
theorem gX5_takeOut_X5_move : GoodIn wsX5_takeOut (wsV RX5 61 RX5 yX5_move wsX5_move) := goodIn_app (goodIn_of _ (by decide +kernel)) ggX5_takeOut_X5_move
theorem dX5_takeOut_0 : decode cX5_takeOut 0 = .ok (.iload_n 1, 1) := by decide +kernel
theorem dX5_takeOut_1 : decode cX5_takeOut 1 = .ok (.istore_n 2, 1) := by decide +kernel
theorem dX5_takeOut_2 : decode cX5_takeOut 2 = .ok (.iload_n 2, 1) := by decide +kernel
theorem dX5_takeOut_3 : decode cX5_takeOut 3 = .ok (.aload_n 0, 1) := by decide +kernel
theorem dX5_takeOut_4 : decode cX5_takeOut 4 = .ok (.getfield 7, 3) := by decide +kernel
theorem dX5_takeOut_7 : decode cX5_takeOut 7 = .ok (.iconst 4, 1) := by decide +kernel
theorem dX5_takeOut_8 : decode cX5_takeOut 8 = .ok (.iaload, 1) := by decide +kernel
theorem dX5_takeOut_9 : decode cX5_takeOut 9 = .ok (.iconst 1, 1) := by decide +kernel
theorem dX5_takeOut_10 : decode cX5_takeOut 10 = .ok (.isub, 1) := by decide +kernel
theorem dX5_takeOut_11 : decode cX5_takeOut 11 = .ok (.if_icmp .ge 17, 3) := by decide +kernel
theorem dX5_takeOut_14 : decode cX5_takeOut 14 = .ok (.aload_n 0, 1) := by decide +kernel
theorem dX5_takeOut_15 : decode cX5_takeOut 15 = .ok (.iload_n 2, 1) := by decide +kernel
theorem dX5_takeOut_16 : decode cX5_takeOut 16 = .ok (.iconst 1, 1) := by decide +kernel
theorem dX5_takeOut_17 : decode cX5_takeOut 17 = .ok (.iadd, 1) := by decide +kernel
theorem dX5_takeOut_18 : decode cX5_takeOut 18 = .ok (.iload_n 2, 1) := by decide +kernel
theorem dX5_takeOut_19 : decode cX5_takeOut 19 = .ok (.invokevirtual 61, 3) := by decide +kernel
theorem dX5_takeOut_22 : decode cX5_takeOut 22 = .ok (.iinc 2 1, 3) := by decide +kernel
theorem dX5_takeOut_25 : decode cX5_takeOut 25 = .ok (.goto (-23), 3) := by decide +kernel
theorem dX5_takeOut_28 : decode cX5_takeOut 28 = .ok (.aload_n 0, 1) := by decide +kernel
theorem dX5_takeOut_29 : decode cX5_takeOut 29 = .ok (.getfield 7, 3) := by decide +kernel
theorem dX5_takeOut_32 : decode cX5_takeOut 32 = .ok (.iconst 4, 1) := by decide +kernel
theorem dX5_takeOut_33 : decode cX5_takeOut 33 = .ok (.dup2, 1) := by decide +kernel
theorem dX5_takeOut_34 : decode cX5_takeOut 34 = .ok (.iaload, 1) := by decide +kernel
theorem dX5_takeOut_35 : decode cX5_takeOut 35 = .ok (.iconst 1, 1) := by decide +kernel
theorem dX5_takeOut_36 : decode cX5_takeOut 36 = .ok (.isub, 1) := by decide +kernel
theorem dX5_takeOut_37 : decode cX5_takeOut 37 = .ok (.iastore, 1) := by decide +kernel
theorem dX5_takeOut_38 : decode cX5_takeOut 38 = .ok (.return_, 1) := by decide +kernel
set_option maxRecDepth 20000 in
theorem ggX5_putInOrder_X5_part : GoodIn wsX5_putInOrder wsX5_part := goodIn_r _ [7, 1, 24, 25, 26, 27, 28, 29, 30, 31, 32, 33, 34, 35, 36, 37, 38, 39] (by decide +kernel) (by decide +kernel)
set_option maxRecDepth 20000 in
theorem gX5_putInOrder_X5_part : GoodIn wsX5_putInOrder (wsV RX5 49 RX5 yX5_part wsX5_part) := goodIn_app (goodIn_of _ (by decide +kernel)) ggX5_putInOrder_X5_part
set_option maxRecDepth 20000 in
theorem ggX5_putInOrder_X5_putIn : GoodIn wsX5_putInOrder wsX5_putIn := goodIn_r _ [11, 1, 12, 13, 14, 6, 15, 3, 4, 5, 7, 16, 17, 18, 19, 20, 21, 22, 23, 24, 25, 26, 27, 28, 29, 30, 31, 32, 33, 34, 35, 36, 37, 38, 39] (by decide +kernel) (by decide +kernel)
set_option maxRecDepth 20000 in
theorem gX5_putInOrder_X5_putIn : GoodIn wsX5_putInOrder (wsV RX5 65 RX5 yX5_putIn wsX5_putIn) := goodIn_app (goodIn_of _ (by decide +kernel)) ggX5_putInOrder_X5_putIn
theorem dX5_putInOrder_0 : decode cX5_putInOrder 0 = .ok (.aload_n 0, 1) := by decide +kernel
theorem dX5_putInOrder_1 : decode cX5_putInOrder 1 = .ok (.getfield 7, 3) := by decide +kernel
theorem dX5_putInOrder_4 : decode cX5_putInOrder 4 = .ok (.iconst 4, 1) := by decide +kernel
theorem dX5_putInOrder_5 : decode cX5_putInOrder 5 = .ok (.iaload, 1) := by decide +kernel
theorem dX5_putInOrder_6 : decode cX5_putInOrder 6 = .ok (.istore_n 1, 1) := by decide +kernel
theorem dX5_putInOrder_7 : decode cX5_putInOrder 7 = .ok (.aload_n 0, 1) := by decide +kernel
theorem dX5_putInOrder_8 : decode cX5_putInOrder 8 = .ok (.getfield 7, 3) := by decide +kernel
theorem dX5_putInOrder_11 : decode cX5_putInOrder 11 = .ok (.iconst 4, 1) := by decide +kernel
theorem dX5_putInOrder_12 : decode cX5_putInOrder 12 = .ok (.iconst 0, 1) := by decide +kernel
theorem dX5_putInOrder_13 : decode cX5_putInOrder 13 = .ok (.iastore, 1) := by decide +kernel
theorem dX5_putInOrder_14 : decode cX5_putInOrder 14 = .ok (.iconst 0, 1) := by decide +kernel
theorem dX5_putInOrder_15 : decode cX5_putInOrder 15 = .ok (.istore_n 2, 1) := by decide +kernel
theorem dX5_putInOrder_16 : decode cX5_putInOrder 16 = .ok (.iload_n 2, 1) := by decide +kernel
theorem dX5_putInOrder_17 : decode cX5_putInOrder 17 = .ok (.iload_n 1, 1) := by decide +kernel
theorem dX5_putInOrder_18 : decode cX5_putInOrder 18 = .ok (.if_icmp .ge 69, 3) := by decide +kernel
theorem dX5_putInOrder_21 : decode cX5_putInOrder 21 = .ok (.iconst 0, 1) := by decide +kernel
theorem dX5_putInOrder_22 : decode cX5_putInOrder 22 = .ok (.istore_n 3, 1) := by decide +kernel
theorem dX5_putInOrder_23 : decode cX5_putInOrder 23 = .ok (.iload_n 3, 1) := by decide +kernel
theorem dX5_putInOrder_24 : decode cX5_putInOrder 24 = .ok (.iconst 5, 1) := by decide +kernel
theorem dX5_putInOrder_25 : decode cX5_putInOrder 25 = .ok (.if_icmp .ge 21, 3) := by decide +kernel
theorem dX5_putInOrder_28 : decode cX5_putInOrder 28 = .ok (.aload_n 0, 1) := by decide +kernel
theorem dX5_putInOrder_29 : decode cX5_putInOrder 29 = .ok (.getfield 34, 3) := by decide +kernel
theorem dX5_putInOrder_32 : decode cX5_putInOrder 32 = .ok (.iload_n 3, 1) := by decide +kernel
theorem dX5_putInOrder_33 : decode cX5_putInOrder 33 = .ok (.aload_n 0, 1) := by decide +kernel
theorem dX5_putInOrder_34 : decode cX5_putInOrder 34 = .ok (.iload_n 2, 1) := by decide +kernel
theorem dX5_putInOrder_35 : decode cX5_putInOrder 35 = .ok (.iload_n 3, 1) := by decide +kernel
theorem dX5_putInOrder_36 : decode cX5_putInOrder 36 = .ok (.invokevirtual 49, 3) := by decide +kernel
theorem dX5_putInOrder_39 : decode cX5_putInOrder 39 = .ok (.iastore, 1) := by decide +kernel
theorem dX5_putInOrder_40 : decode cX5_putInOrder 40 = .ok (.iinc 3 1, 3) := by decide +kernel
theorem dX5_putInOrder_43 : decode cX5_putInOrder 43 = .ok (.goto (-20), 3) := by decide +kernel
theorem dX5_putInOrder_46 : decode cX5_putInOrder 46 = .ok (.aload_n 0, 1) := by decide +kernel
theorem dX5_putInOrder_47 : decode cX5_putInOrder 47 = .ok (.aload_n 0, 1) := by decide +kernel
theorem dX5_putInOrder_48 : decode cX5_putInOrder 48 = .ok (.getfield 34, 3) := by decide +kernel
theorem dX5_putInOrder_51 : decode cX5_putInOrder 51 = .ok (.iconst 0, 1) := by decide +kernel
theorem dX5_putInOrder_52 : decode cX5_putInOrder 52 = .ok (.iaload, 1) := by decide +kernel
theorem dX5_putInOrder_53 : decode cX5_putInOrder 53 = .ok (.aload_n 0, 1) := by decide +kernel
theorem dX5_putInOrder_54 : decode cX5_putInOrder 54 = .ok (.getfield 34, 3) := by decide +kernel
theorem dX5_putInOrder_57 : decode cX5_putInOrder 57 = .ok (.iconst 1, 1) := by decide +kernel
theorem dX5_putInOrder_58 : decode cX5_putInOrder 58 = .ok (.iaload, 1) := by decide +kernel
theorem dX5_putInOrder_59 : decode cX5_putInOrder 59 = .ok (.aload_n 0, 1) := by decide +kernel
theorem dX5_putInOrder_60 : decode cX5_putInOrder 60 = .ok (.getfield 34, 3) := by decide +kernel
theorem dX5_putInOrder_63 : decode cX5_putInOrder 63 = .ok (.iconst 2, 1) := by decide +kernel
theorem dX5_putInOrder_64 : decode cX5_putInOrder 64 = .ok (.iaload, 1) := by decide +kernel
theorem dX5_putInOrder_65 : decode cX5_putInOrder 65 = .ok (.aload_n 0, 1) := by decide +kernel
theorem dX5_putInOrder_66 : decode cX5_putInOrder 66 = .ok (.getfield 34, 3) := by decide +kernel
theorem dX5_putInOrder_69 : decode cX5_putInOrder 69 = .ok (.iconst 3, 1) := by decide +kernel
theorem dX5_putInOrder_70 : decode cX5_putInOrder 70 = .ok (.iaload, 1) := by decide +kernel
theorem dX5_putInOrder_71 : decode cX5_putInOrder 71 = .ok (.aload_n 0, 1) := by decide +kernel
theorem dX5_putInOrder_72 : decode cX5_putInOrder 72 = .ok (.getfield 34, 3) := by decide +kernel
theorem dX5_putInOrder_75 : decode cX5_putInOrder 75 = .ok (.iconst 4, 1) := by decide +kernel
theorem dX5_putInOrder_76 : decode cX5_putInOrder 76 = .ok (.iaload, 1) := by decide +kernel
theorem dX5_putInOrder_77 : decode cX5_putInOrder 77 = .ok (.invokevirtual 65, 3) := by decide +kernel
theorem dX5_putInOrder_80 : decode cX5_putInOrder 80 = .ok (.pop, 1) := by decide +kernel
theorem dX5_putInOrder_81 : decode cX5_putInOrder 81 = .ok (.iinc 2 1, 3) := by decide +kernel
theorem dX5_putInOrder_84 : decode cX5_putInOrder 84 = .ok (.goto (-68), 3) := by decide +kernel
theorem dX5_putInOrder_87 : decode cX5_putInOrder 87 = .ok (.return_, 1) := by decide +kernel
set_option maxRecDepth 20000 in
theorem ggX5_isHole_X5_part : GoodIn wsX5_isHole wsX5_part := goodIn_r _ [6, 1, 7, 8, 9, 10, 11, 12, 13, 14, 15, 16, 17, 18, 19, 20, 21, 22] (by decide +kernel) (by decide +kernel)
set_option maxRecDepth 20000 in
theorem gX5_isHole_X5_part : GoodIn wsX5_isHole (wsV RX5 49 RX5 yX5_part wsX5_part) := goodIn_app (goodIn_of _ (by decide +kernel)) ggX5_isHole_X5_part
theorem dX5_isHole_0 : decode cX5_isHole 0 = .ok (.aload_n 0, 1) := by decide +kernel
theorem dX5_isHole_1 : decode cX5_isHole 1 = .ok (.iload_n 1, 1) := by decide +kernel
theorem dX5_isHole_2 : decode cX5_isHole 2 = .ok (.iconst 1, 1) := by decide +kernel
theorem dX5_isHole_3 : decode cX5_isHole 3 = .ok (.invokevirtual 49, 3) := by decide +kernel
theorem dX5_isHole_6 : decode cX5_isHole 6 = .ok (.istore_n 3, 1) := by decide +kernel
theorem dX5_isHole_7 : decode cX5_isHole 7 = .ok (.iload_n 2, 1) := by decide +kernel
theorem dX5_isHole_8 : decode cX5_isHole 8 = .ok (.iload_n 3, 1) := by decide +kernel
theorem dX5_isHole_9 : decode cX5_isHole 9 = .ok (.if_icmp .eq 46, 3) := by decide +kernel
theorem dX5_isHole_12 : decode cX5_isHole 12 = .ok (.iload_n 2, 1) := by decide +kernel
theorem dX5_isHole_13 : decode cX5_isHole 13 = .ok (.aload_n 0, 1) := by decide +kernel
theorem dX5_isHole_14 : decode cX5_isHole 14 = .ok (.iload_n 1, 1) := by decide +kernel
theorem dX5_isHole_15 : decode cX5_isHole 15 = .ok (.iconst 2, 1) := by decide +kernel
theorem dX5_isHole_16 : decode cX5_isHole 16 = .ok (.invokevirtual 49, 3) := by decide +kernel
theorem dX5_isHole_19 : decode cX5_isHole 19 = .ok (.if_icmp .eq 36, 3) := by decide +kernel
theorem dX5_isHole_22 : decode cX5_isHole 22 = .ok (.iload_n 2, 1) := by decide +kernel
theorem dX5_isHole_23 : decode cX5_isHole 23 = .ok (.iload_n 3, 1) := by decide +kernel
theorem dX5_isHole_24 : decode cX5_isHole 24 = .ok (.isub, 1) := by decide +kernel
theorem dX5_isHole_25 : decode cX5_isHole 25 = .ok (.aload_n 0, 1) := by decide +kernel
theorem dX5_isHole_26 : decode cX5_isHole 26 = .ok (.iload_n 1, 1) := by decide +kernel
theorem dX5_isHole_27 : decode cX5_isHole 27 = .ok (.iconst 3, 1) := by decide +kernel
theorem dX5_isHole_28 : decode cX5_isHole 28 = .ok (.invokevirtual 49, 3) := by decide +kernel
theorem dX5_isHole_31 : decode cX5_isHole 31 = .ok (.iadd, 1) := by decide +kernel
theorem dX5_isHole_32 : decode cX5_isHole 32 = .ok (.aload_n 0, 1) := by decide +kernel
theorem dX5_isHole_33 : decode cX5_isHole 33 = .ok (.getfield 7, 3) := by decide +kernel
theorem dX5_isHole_36 : decode cX5_isHole 36 = .ok (.iconst 0, 1) := by decide +kernel
theorem dX5_isHole_37 : decode cX5_isHole 37 = .ok (.iaload, 1) := by decide +kernel
theorem dX5_isHole_38 : decode cX5_isHole 38 = .ok (.aload_n 0, 1) := by decide +kernel
theorem dX5_isHole_39 : decode cX5_isHole 39 = .ok (.getfield 7, 3) := by decide +kernel
theorem dX5_isHole_42 : decode cX5_isHole 42 = .ok (.iconst 1, 1) := by decide +kernel
theorem dX5_isHole_43 : decode cX5_isHole 43 = .ok (.iaload, 1) := by decide +kernel
theorem dX5_isHole_44 : decode cX5_isHole 44 = .ok (.iadd, 1) := by decide +kernel
theorem dX5_isHole_45 : decode cX5_isHole 45 = .ok (.irem, 1) := by decide +kernel
theorem dX5_isHole_46 : decode cX5_isHole 46 = .ok (.aload_n 0, 1) := by decide +kernel
theorem dX5_isHole_47 : decode cX5_isHole 47 = .ok (.getfield 7, 3) := by decide +kernel
theorem dX5_isHole_50 : decode cX5_isHole 50 = .ok (.iconst 0, 1) := by decide +kernel
theorem dX5_isHole_51 : decode cX5_isHole 51 = .ok (.iaload, 1) := by decide +kernel
theorem dX5_isHole_52 : decode cX5_isHole 52 = .ok (.if_icmp .ge 7, 3) := by decide +kernel
theorem dX5_isHole_55 : decode cX5_isHole 55 = .ok (.iconst 1, 1) := by decide +kernel
theorem dX5_isHole_56 : decode cX5_isHole 56 = .ok (.goto 4, 3) := by decide +kernel
theorem dX5_isHole_59 : decode cX5_isHole 59 = .ok (.iconst 0, 1) := by decide +kernel
theorem dX5_isHole_60 : decode cX5_isHole 60 = .ok (.ireturn, 1) := by decide +kernel
set_option maxRecDepth 20000 in
theorem ggX5_findHoles_X5_part : GoodIn wsX5_findHoles wsX5_part := goodIn_r _ [7, 2, 12, 13, 14, 15, 16, 17, 18, 19, 20, 21, 22, 23, 24, 25, 26, 27] (by decide +kernel) (by decide +kernel)
set_option maxRecDepth 20000 in
theorem gX5_findHoles_X5_part : GoodIn wsX5_findHoles (wsV RX5 49 RX5 yX5_part wsX5_part) := goodIn_app (goodIn_of _ (by decide +kernel)) ggX5_findHoles_X5_part
set_option maxRecDepth 20000 in
theorem ggX5_findHoles_X5_isHole : GoodIn wsX5_findHoles wsX5_isHole := goodIn_r _ [11, 2, 3, 4, 5, 6, 7, 12, 13, 14, 15, 16, 17, 18, 19, 20, 21, 22, 23, 24, 25, 26, 27] (by decide +kernel) (by decide +kernel)
set_option maxRecDepth 20000 in
theorem gX5_findHoles_X5_isHole : GoodIn wsX5_findHoles (wsV RX5 69 RX5 yX5_isHole wsX5_isHole) := goodIn_app (goodIn_of _ (by decide +kernel)) ggX5_findHoles_X5_isHole
theorem dX5_findHoles_0 : decode cX5_findHoles 0 = .ok (.iconst 0, 1) := by decide +kernel
theorem dX5_findHoles_1 : decode cX5_findHoles 1 = .ok (.istore_n 1, 1) := by decide +kernel
theorem dX5_findHoles_2 : decode cX5_findHoles 2 = .ok (.iload_n 1, 1) := by decide +kernel
theorem dX5_findHoles_3 : decode cX5_findHoles 3 = .ok (.bipush 100, 2) := by decide +kernel
theorem dX5_findHoles_5 : decode cX5_findHoles 5 = .ok (.if_icmp .ge 16, 3) := by decide +kernel
theorem dX5_findHoles_8 : decode cX5_findHoles 8 = .ok (.aload_n 0, 1) := by decide +kernel
theorem dX5_findHoles_9 : decode cX5_findHoles 9 = .ok (.getfield 28, 3) := by decide +kernel
theorem dX5_findHoles_12 : decode cX5_findHoles 12 = .ok (.iload_n 1, 1) := by decide +kernel
theorem dX5_findHoles_13 : decode cX5_findHoles 13 = .ok (.iconst 0, 1) := by decide +kernel
theorem dX5_findHoles_14 : decode cX5_findHoles 14 = .ok (.iastore, 1) := by decide +kernel
theorem dX5_findHoles_15 : decode cX5_findHoles 15 = .ok (.iinc 1 1, 3) := by decide +kernel
theorem dX5_findHoles_18 : decode cX5_findHoles 18 = .ok (.goto (-16), 3) := by decide +kernel
theorem dX5_findHoles_21 : decode cX5_findHoles 21 = .ok (.iconst 0, 1) := by decide +kernel
theorem dX5_findHoles_22 : decode cX5_findHoles 22 = .ok (.istore_n 1, 1) := by decide +kernel
theorem dX5_findHoles_23 : decode cX5_findHoles 23 = .ok (.iload_n 1, 1) := by decide +kernel
theorem dX5_findHoles_24 : decode cX5_findHoles 24 = .ok (.aload_n 0, 1) := by decide +kernel
theorem dX5_findHoles_25 : decode cX5_findHoles 25 = .ok (.getfield 7, 3) := by decide +kernel
theorem dX5_findHoles_28 : decode cX5_findHoles 28 = .ok (.iconst 4, 1) := by decide +kernel
theorem dX5_findHoles_29 : decode cX5_findHoles 29 = .ok (.iaload, 1) := by decide +kernel
theorem dX5_findHoles_30 : decode cX5_findHoles 30 = .ok (.if_icmp .ge 110, 3) := by decide +kernel
theorem dX5_findHoles_33 : decode cX5_findHoles 33 = .ok (.aload_n 0, 1) := by decide +kernel
theorem dX5_findHoles_34 : decode cX5_findHoles 34 = .ok (.iload_n 1, 1) := by decide +kernel
theorem dX5_findHoles_35 : decode cX5_findHoles 35 = .ok (.iconst 0, 1) := by decide +kernel
theorem dX5_findHoles_36 : decode cX5_findHoles 36 = .ok (.invokevirtual 49, 3) := by decide +kernel
theorem dX5_findHoles_39 : decode cX5_findHoles 39 = .ok (.istore_n 2, 1) := by decide +kernel
theorem dX5_findHoles_40 : decode cX5_findHoles 40 = .ok (.aload_n 0, 1) := by decide +kernel
theorem dX5_findHoles_41 : decode cX5_findHoles 41 = .ok (.iload_n 1, 1) := by decide +kernel
theorem dX5_findHoles_42 : decode cX5_findHoles 42 = .ok (.iconst 1, 1) := by decide +kernel
theorem dX5_findHoles_43 : decode cX5_findHoles 43 = .ok (.invokevirtual 49, 3) := by decide +kernel
theorem dX5_findHoles_46 : decode cX5_findHoles 46 = .ok (.istore_n 3, 1) := by decide +kernel
theorem dX5_findHoles_47 : decode cX5_findHoles 47 = .ok (.iload_n 3, 1) := by decide +kernel
theorem dX5_findHoles_48 : decode cX5_findHoles 48 = .ok (.aload_n 0, 1) := by decide +kernel
theorem dX5_findHoles_49 : decode cX5_findHoles 49 = .ok (.iload_n 1, 1) := by decide +kernel
theorem dX5_findHoles_50 : decode cX5_findHoles 50 = .ok (.iconst 2, 1) := by decide +kernel
theorem dX5_findHoles_51 : decode cX5_findHoles 51 = .ok (.invokevirtual 49, 3) := by decide +kernel
theorem dX5_findHoles_54 : decode cX5_findHoles 54 = .ok (.if_icmp .gt 34, 3) := by decide +kernel
theorem dX5_findHoles_57 : decode cX5_findHoles 57 = .ok (.aload_n 0, 1) := by decide +kernel
theorem dX5_findHoles_58 : decode cX5_findHoles 58 = .ok (.getfield 28, 3) := by decide +kernel
theorem dX5_findHoles_61 : decode cX5_findHoles 61 = .ok (.iload_n 3, 1) := by decide +kernel
theorem dX5_findHoles_62 : decode cX5_findHoles 62 = .ok (.dup2, 1) := by decide +kernel
theorem dX5_findHoles_63 : decode cX5_findHoles 63 = .ok (.iaload, 1) := by decide +kernel
theorem dX5_findHoles_64 : decode cX5_findHoles 64 = .ok (.aload_n 0, 1) := by decide +kernel
theorem dX5_findHoles_65 : decode cX5_findHoles 65 = .ok (.iload_n 1, 1) := by decide +kernel
theorem dX5_findHoles_66 : decode cX5_findHoles 66 = .ok (.iload_n 3, 1) := by decide +kernel
theorem dX5_findHoles_67 : decode cX5_findHoles 67 = .ok (.invokevirtual 69, 3) := by decide +kernel
theorem dX5_findHoles_70 : decode cX5_findHoles 70 = .ok (.ifCond .eq 9, 3) := by decide +kernel
theorem dX5_findHoles_73 : decode cX5_findHoles 73 = .ok (.iconst 1, 1) := by decide +kernel
theorem dX5_findHoles_74 : decode cX5_findHoles 74 = .ok (.iload_n 2, 1) := by decide +kernel
theorem dX5_findHoles_75 : decode cX5_findHoles 75 = .ok (.ishl, 1) := by decide +kernel
theorem dX5_findHoles_76 : decode cX5_findHoles 76 = .ok (.goto 4, 3) := by decide +kernel
theorem dX5_findHoles_79 : decode cX5_findHoles 79 = .ok (.iconst 0, 1) := by decide +kernel
theorem dX5_findHoles_80 : decode cX5_findHoles 80 = .ok (.ior, 1) := by decide +kernel
theorem dX5_findHoles_81 : decode cX5_findHoles 81 = .ok (.iastore, 1) := by decide +kernel
theorem dX5_findHoles_82 : decode cX5_findHoles 82 = .ok (.iinc 3 1, 3) := by decide +kernel
theorem dX5_findHoles_85 : decode cX5_findHoles 85 = .ok (.goto (-38), 3) := by decide +kernel
theorem dX5_findHoles_88 : decode cX5_findHoles 88 = .ok (.aload_n 0, 1) := by decide +kernel
theorem dX5_findHoles_89 : decode cX5_findHoles 89 = .ok (.getfield 28, 3) := by decide +kernel
theorem dX5_findHoles_92 : decode cX5_findHoles 92 = .ok (.aload_n 0, 1) := by decide +kernel
theorem dX5_findHoles_93 : decode cX5_findHoles 93 = .ok (.iload_n 1, 1) := by decide +kernel
theorem dX5_findHoles_94 : decode cX5_findHoles 94 = .ok (.iconst 1, 1) := by decide +kernel
theorem dX5_findHoles_95 : decode cX5_findHoles 95 = .ok (.invokevirtual 49, 3) := by decide +kernel
theorem dX5_findHoles_98 : decode cX5_findHoles 98 = .ok (.dup2, 1) := by decide +kernel
theorem dX5_findHoles_99 : decode cX5_findHoles 99 = .ok (.iaload, 1) := by decide +kernel
theorem dX5_findHoles_100 : decode cX5_findHoles 100 = .ok (.aload_n 0, 1) := by decide +kernel
theorem dX5_findHoles_101 : decode cX5_findHoles 101 = .ok (.iload_n 1, 1) := by decide +kernel
theorem dX5_findHoles_102 : decode cX5_findHoles 102 = .ok (.iconst 4, 1) := by decide +kernel
theorem dX5_findHoles_103 : decode cX5_findHoles 103 = .ok (.invokevirtual 49, 3) := by decide +kernel
theorem dX5_findHoles_106 : decode cX5_findHoles 106 = .ok (.ifCond .ne 7, 3) := by decide +kernel
theorem dX5_findHoles_109 : decode cX5_findHoles 109 = .ok (.iconst 0, 1) := by decide +kernel
theorem dX5_findHoles_110 : decode cX5_findHoles 110 = .ok (.goto 22, 3) := by decide +kernel
theorem dX5_findHoles_113 : decode cX5_findHoles 113 = .ok (.iload_n 2, 1) := by decide +kernel
theorem dX5_findHoles_114 : decode cX5_findHoles 114 = .ok (.bipush 11, 2) := by decide +kernel
theorem dX5_findHoles_116 : decode cX5_findHoles 116 = .ok (.if_icmp .ne 11, 3) := by decide +kernel
theorem dX5_findHoles_119 : decode cX5_findHoles 119 = .ok (.iconst 1, 1) := by decide +kernel
theorem dX5_findHoles_120 : decode cX5_findHoles 120 = .ok (.iload_n 2, 1) := by decide +kernel
theorem dX5_findHoles_121 : decode cX5_findHoles 121 = .ok (.iconst 1, 1) := by decide +kernel
theorem dX5_findHoles_122 : decode cX5_findHoles 122 = .ok (.isub, 1) := by decide +kernel
theorem dX5_findHoles_123 : decode cX5_findHoles 123 = .ok (.ishl, 1) := by decide +kernel
theorem dX5_findHoles_124 : decode cX5_findHoles 124 = .ok (.goto 8, 3) := by decide +kernel
theorem dX5_findHoles_127 : decode cX5_findHoles 127 = .ok (.iconst 1, 1) := by decide +kernel
theorem dX5_findHoles_128 : decode cX5_findHoles 128 = .ok (.iload_n 2, 1) := by decide +kernel
theorem dX5_findHoles_129 : decode cX5_findHoles 129 = .ok (.iconst 1, 1) := by decide +kernel
theorem dX5_findHoles_130 : decode cX5_findHoles 130 = .ok (.iadd, 1) := by decide +kernel
theorem dX5_findHoles_131 : decode cX5_findHoles 131 = .ok (.ishl, 1) := by decide +kernel
theorem dX5_findHoles_132 : decode cX5_findHoles 132 = .ok (.ior, 1) := by decide +kernel
theorem dX5_findHoles_133 : decode cX5_findHoles 133 = .ok (.iastore, 1) := by decide +kernel
theorem dX5_findHoles_134 : decode cX5_findHoles 134 = .ok (.iinc 1 1, 3) := by decide +kernel
theorem dX5_findHoles_137 : decode cX5_findHoles 137 = .ok (.goto (-114), 3) := by decide +kernel
theorem dX5_findHoles_140 : decode cX5_findHoles 140 = .ok (.return_, 1) := by decide +kernel
set_option maxRecDepth 20000 in
theorem ggX5_findHeard_X5_findHoles : GoodIn wsX5_findHeard wsX5_findHoles := goodIn_r _ [8, 3, 2, 9, 10, 11, 7, 12, 13, 14, 15, 16, 17, 18, 19, 20, 21, 22, 23, 24, 25, 26, 27, 28, 29, 30, 31, 32] (by decide +kernel) (by decide +kernel)
set_option maxRecDepth 20000 in
theorem gX5_findHeard_X5_findHoles : GoodIn wsX5_findHeard (wsV RX5 73 RX5 yX5_findHoles wsX5_findHoles) := goodIn_app (goodIn_of _ (by decide +kernel)) ggX5_findHeard_X5_findHoles
theorem dX5_findHeard_0 : decode cX5_findHeard 0 = .ok (.aload_n 0, 1) := by decide +kernel
theorem dX5_findHeard_1 : decode cX5_findHeard 1 = .ok (.invokevirtual 73, 3) := by decide +kernel
theorem dX5_findHeard_4 : decode cX5_findHeard 4 = .ok (.iconst 0, 1) := by decide +kernel
theorem dX5_findHeard_5 : decode cX5_findHeard 5 = .ok (.istore_n 1, 1) := by decide +kernel
theorem dX5_findHeard_6 : decode cX5_findHeard 6 = .ok (.iload_n 1, 1) := by decide +kernel
theorem dX5_findHeard_7 : decode cX5_findHeard 7 = .ok (.bipush 100, 2) := by decide +kernel
theorem dX5_findHeard_9 : decode cX5_findHeard 9 = .ok (.if_icmp .ge 56, 3) := by decide +kernel
theorem dX5_findHeard_12 : decode cX5_findHeard 12 = .ok (.aload_n 0, 1) := by decide +kernel
theorem dX5_findHeard_13 : decode cX5_findHeard 13 = .ok (.getfield 31, 3) := by decide +kernel
theorem dX5_findHeard_16 : decode cX5_findHeard 16 = .ok (.iload_n 1, 1) := by decide +kernel
theorem dX5_findHeard_17 : decode cX5_findHeard 17 = .ok (.iconst 0, 1) := by decide +kernel
theorem dX5_findHeard_18 : decode cX5_findHeard 18 = .ok (.iastore, 1) := by decide +kernel
theorem dX5_findHeard_19 : decode cX5_findHeard 19 = .ok (.iconst 0, 1) := by decide +kernel
theorem dX5_findHeard_20 : decode cX5_findHeard 20 = .ok (.istore_n 2, 1) := by decide +kernel
theorem dX5_findHeard_21 : decode cX5_findHeard 21 = .ok (.iload_n 2, 1) := by decide +kernel
theorem dX5_findHeard_22 : decode cX5_findHeard 22 = .ok (.aload_n 0, 1) := by decide +kernel
theorem dX5_findHeard_23 : decode cX5_findHeard 23 = .ok (.getfield 7, 3) := by decide +kernel
theorem dX5_findHeard_26 : decode cX5_findHeard 26 = .ok (.iconst 2, 1) := by decide +kernel
theorem dX5_findHeard_27 : decode cX5_findHeard 27 = .ok (.iaload, 1) := by decide +kernel
theorem dX5_findHeard_28 : decode cX5_findHeard 28 = .ok (.if_icmp .gt 31, 3) := by decide +kernel
theorem dX5_findHeard_31 : decode cX5_findHeard 31 = .ok (.iload_n 2, 1) := by decide +kernel
theorem dX5_findHeard_32 : decode cX5_findHeard 32 = .ok (.iload_n 1, 1) := by decide +kernel
theorem dX5_findHeard_33 : decode cX5_findHeard 33 = .ok (.if_icmp .gt 26, 3) := by decide +kernel
theorem dX5_findHeard_36 : decode cX5_findHeard 36 = .ok (.aload_n 0, 1) := by decide +kernel
theorem dX5_findHeard_37 : decode cX5_findHeard 37 = .ok (.getfield 31, 3) := by decide +kernel
theorem dX5_findHeard_40 : decode cX5_findHeard 40 = .ok (.iload_n 1, 1) := by decide +kernel
theorem dX5_findHeard_41 : decode cX5_findHeard 41 = .ok (.dup2, 1) := by decide +kernel
theorem dX5_findHeard_42 : decode cX5_findHeard 42 = .ok (.iaload, 1) := by decide +kernel
theorem dX5_findHeard_43 : decode cX5_findHeard 43 = .ok (.aload_n 0, 1) := by decide +kernel
theorem dX5_findHeard_44 : decode cX5_findHeard 44 = .ok (.getfield 28, 3) := by decide +kernel
theorem dX5_findHeard_47 : decode cX5_findHeard 47 = .ok (.iload_n 1, 1) := by decide +kernel
theorem dX5_findHeard_48 : decode cX5_findHeard 48 = .ok (.iload_n 2, 1) := by decide +kernel
theorem dX5_findHeard_49 : decode cX5_findHeard 49 = .ok (.isub, 1) := by decide +kernel
theorem dX5_findHeard_50 : decode cX5_findHeard 50 = .ok (.iaload, 1) := by decide +kernel
theorem dX5_findHeard_51 : decode cX5_findHeard 51 = .ok (.ior, 1) := by decide +kernel
theorem dX5_findHeard_52 : decode cX5_findHeard 52 = .ok (.iastore, 1) := by decide +kernel
theorem dX5_findHeard_53 : decode cX5_findHeard 53 = .ok (.iinc 2 1, 3) := by decide +kernel
theorem dX5_findHeard_56 : decode cX5_findHeard 56 = .ok (.goto (-35), 3) := by decide +kernel
theorem dX5_findHeard_59 : decode cX5_findHeard 59 = .ok (.iinc 1 1, 3) := by decide +kernel
theorem dX5_findHeard_62 : decode cX5_findHeard 62 = .ok (.goto (-56), 3) := by decide +kernel
theorem dX5_findHeard_65 : decode cX5_findHeard 65 = .ok (.return_, 1) := by decide +kernel
theorem dX5_sideBySide_0 : decode cX5_sideBySide 0 = .ok (.iconst 0, 1) := by decide +kernel
theorem dX5_sideBySide_1 : decode cX5_sideBySide 1 = .ok (.istore_n 1, 1) := by decide +kernel
theorem dX5_sideBySide_2 : decode cX5_sideBySide 2 = .ok (.iconst 0, 1) := by decide +kernel
theorem dX5_sideBySide_3 : decode cX5_sideBySide 3 = .ok (.istore_n 2, 1) := by decide +kernel
theorem dX5_sideBySide_4 : decode cX5_sideBySide 4 = .ok (.iconst 0, 1) := by decide +kernel
theorem dX5_sideBySide_5 : decode cX5_sideBySide 5 = .ok (.istore_n 3, 1) := by decide +kernel
theorem dX5_sideBySide_6 : decode cX5_sideBySide 6 = .ok (.iload_n 3, 1) := by decide +kernel
theorem dX5_sideBySide_7 : decode cX5_sideBySide 7 = .ok (.bipush 12, 2) := by decide +kernel
theorem dX5_sideBySide_9 : decode cX5_sideBySide 9 = .ok (.if_icmp .ge 37, 3) := by decide +kernel
theorem dX5_sideBySide_12 : decode cX5_sideBySide 12 = .ok (.iload_n 0, 1) := by decide +kernel
theorem dX5_sideBySide_13 : decode cX5_sideBySide 13 = .ok (.iload_n 3, 1) := by decide +kernel
theorem dX5_sideBySide_14 : decode cX5_sideBySide 14 = .ok (.ishr, 1) := by decide +kernel
theorem dX5_sideBySide_15 : decode cX5_sideBySide 15 = .ok (.iconst 1, 1) := by decide +kernel
theorem dX5_sideBySide_16 : decode cX5_sideBySide 16 = .ok (.iand, 1) := by decide +kernel
theorem dX5_sideBySide_17 : decode cX5_sideBySide 17 = .ok (.iconst 1, 1) := by decide +kernel
theorem dX5_sideBySide_18 : decode cX5_sideBySide 18 = .ok (.if_icmp .ne 9, 3) := by decide +kernel
theorem dX5_sideBySide_21 : decode cX5_sideBySide 21 = .ok (.iload_n 2, 1) := by decide +kernel
theorem dX5_sideBySide_22 : decode cX5_sideBySide 22 = .ok (.iconst 1, 1) := by decide +kernel
theorem dX5_sideBySide_23 : decode cX5_sideBySide 23 = .ok (.iadd, 1) := by decide +kernel
theorem dX5_sideBySide_24 : decode cX5_sideBySide 24 = .ok (.goto 4, 3) := by decide +kernel
theorem dX5_sideBySide_27 : decode cX5_sideBySide 27 = .ok (.iconst 0, 1) := by decide +kernel
theorem dX5_sideBySide_28 : decode cX5_sideBySide 28 = .ok (.istore_n 2, 1) := by decide +kernel
theorem dX5_sideBySide_29 : decode cX5_sideBySide 29 = .ok (.iload_n 2, 1) := by decide +kernel
theorem dX5_sideBySide_30 : decode cX5_sideBySide 30 = .ok (.iload_n 1, 1) := by decide +kernel
theorem dX5_sideBySide_31 : decode cX5_sideBySide 31 = .ok (.if_icmp .le 7, 3) := by decide +kernel
theorem dX5_sideBySide_34 : decode cX5_sideBySide 34 = .ok (.iload_n 2, 1) := by decide +kernel
theorem dX5_sideBySide_35 : decode cX5_sideBySide 35 = .ok (.goto 4, 3) := by decide +kernel
theorem dX5_sideBySide_38 : decode cX5_sideBySide 38 = .ok (.iload_n 1, 1) := by decide +kernel
theorem dX5_sideBySide_39 : decode cX5_sideBySide 39 = .ok (.istore_n 1, 1) := by decide +kernel
theorem dX5_sideBySide_40 : decode cX5_sideBySide 40 = .ok (.iinc 3 1, 3) := by decide +kernel
theorem dX5_sideBySide_43 : decode cX5_sideBySide 43 = .ok (.goto (-37), 3) := by decide +kernel
theorem dX5_sideBySide_46 : decode cX5_sideBySide 46 = .ok (.iload_n 1, 1) := by decide +kernel
theorem dX5_sideBySide_47 : decode cX5_sideBySide 47 = .ok (.ireturn, 1) := by decide +kernel
set_option maxRecDepth 20000 in
theorem ggX5_isWeak_X5_sideBySide : GoodIn wsX5_isWeak wsX5_sideBySide := goodIn_r _ [6] (by decide +kernel) (by decide +kernel)
set_option maxRecDepth 20000 in
theorem gX5_isWeak_X5_sideBySide : GoodIn wsX5_isWeak (va_wsS RX5 76 yX5_sideBySide wsX5_sideBySide) := goodIn_app (goodIn_of _ (by decide +kernel)) ggX5_isWeak_X5_sideBySide
theorem dX5_isWeak_0 : decode cX5_isWeak 0 = .ok (.aload_n 0, 1) := by decide +kernel
theorem dX5_isWeak_1 : decode cX5_isWeak 1 = .ok (.getfield 28, 3) := by decide +kernel
theorem dX5_isWeak_4 : decode cX5_isWeak 4 = .ok (.iload_n 1, 1) := by decide +kernel
theorem dX5_isWeak_5 : decode cX5_isWeak 5 = .ok (.iaload, 1) := by decide +kernel
theorem dX5_isWeak_6 : decode cX5_isWeak 6 = .ok (.invokestatic 76, 3) := by decide +kernel
theorem dX5_isWeak_9 : decode cX5_isWeak 9 = .ok (.aload_n 0, 1) := by decide +kernel
theorem dX5_isWeak_10 : decode cX5_isWeak 10 = .ok (.getfield 7, 3) := by decide +kernel
theorem dX5_isWeak_13 : decode cX5_isWeak 13 = .ok (.iconst 3, 1) := by decide +kernel
theorem dX5_isWeak_14 : decode cX5_isWeak 14 = .ok (.iaload, 1) := by decide +kernel
theorem dX5_isWeak_15 : decode cX5_isWeak 15 = .ok (.if_icmp .lt 7, 3) := by decide +kernel
theorem dX5_isWeak_18 : decode cX5_isWeak 18 = .ok (.iconst 1, 1) := by decide +kernel
theorem dX5_isWeak_19 : decode cX5_isWeak 19 = .ok (.goto 4, 3) := by decide +kernel
theorem dX5_isWeak_22 : decode cX5_isWeak 22 = .ok (.iconst 0, 1) := by decide +kernel
theorem dX5_isWeak_23 : decode cX5_isWeak 23 = .ok (.ireturn, 1) := by decide +kernel
set_option maxRecDepth 20000 in
theorem ggX5_weakMany_X5_findHoles : GoodIn wsX5_weakMany wsX5_findHoles := goodIn_r _ [5, 6, 7, 8, 9, 10, 4, 11, 12, 13, 14, 15, 23, 24, 25, 26, 27, 28, 29, 30, 31, 32, 33, 34, 35, 36, 37, 38] (by decide +kernel) (by decide +kernel)
set_option maxRecDepth 20000 in
theorem gX5_weakMany_X5_findHoles : GoodIn wsX5_weakMany (wsV RX5 73 RX5 yX5_findHoles wsX5_findHoles) := goodIn_app (goodIn_of _ (by decide +kernel)) ggX5_weakMany_X5_findHoles
set_option maxRecDepth 20000 in
theorem ggX5_weakMany_X5_isWeak : GoodIn wsX5_weakMany wsX5_isWeak := goodIn_r _ [19, 6, 7, 20, 21, 4, 22, 23, 24, 25, 26, 27, 28, 29, 30, 31, 32, 33, 34, 35, 36, 37, 38] (by decide +kernel) (by decide +kernel)
set_option maxRecDepth 20000 in
theorem gX5_weakMany_X5_isWeak : GoodIn wsX5_weakMany (wsV RX5 79 RX5 yX5_isWeak wsX5_isWeak) := goodIn_app (goodIn_of _ (by decide +kernel)) ggX5_weakMany_X5_isWeak
theorem dX5_weakMany_0 : decode cX5_weakMany 0 = .ok (.aload_n 0, 1) := by decide +kernel
theorem dX5_weakMany_1 : decode cX5_weakMany 1 = .ok (.invokevirtual 73, 3) := by decide +kernel
theorem dX5_weakMany_4 : decode cX5_weakMany 4 = .ok (.iconst 0, 1) := by decide +kernel
theorem dX5_weakMany_5 : decode cX5_weakMany 5 = .ok (.istore_n 1, 1) := by decide +kernel
theorem dX5_weakMany_6 : decode cX5_weakMany 6 = .ok (.iconst 0, 1) := by decide +kernel
theorem dX5_weakMany_7 : decode cX5_weakMany 7 = .ok (.istore_n 2, 1) := by decide +kernel
theorem dX5_weakMany_8 : decode cX5_weakMany 8 = .ok (.iload_n 2, 1) := by decide +kernel
theorem dX5_weakMany_9 : decode cX5_weakMany 9 = .ok (.bipush 100, 2) := by decide +kernel
theorem dX5_weakMany_11 : decode cX5_weakMany 11 = .ok (.if_icmp .ge 25, 3) := by decide +kernel
theorem dX5_weakMany_14 : decode cX5_weakMany 14 = .ok (.iload_n 1, 1) := by decide +kernel
theorem dX5_weakMany_15 : decode cX5_weakMany 15 = .ok (.aload_n 0, 1) := by decide +kernel
theorem dX5_weakMany_16 : decode cX5_weakMany 16 = .ok (.iload_n 2, 1) := by decide +kernel
theorem dX5_weakMany_17 : decode cX5_weakMany 17 = .ok (.invokevirtual 79, 3) := by decide +kernel
theorem dX5_weakMany_20 : decode cX5_weakMany 20 = .ok (.ifCond .eq 7, 3) := by decide +kernel
theorem dX5_weakMany_23 : decode cX5_weakMany 23 = .ok (.iconst 1, 1) := by decide +kernel
theorem dX5_weakMany_24 : decode cX5_weakMany 24 = .ok (.goto 4, 3) := by decide +kernel
theorem dX5_weakMany_27 : decode cX5_weakMany 27 = .ok (.iconst 0, 1) := by decide +kernel
theorem dX5_weakMany_28 : decode cX5_weakMany 28 = .ok (.iadd, 1) := by decide +kernel
theorem dX5_weakMany_29 : decode cX5_weakMany 29 = .ok (.istore_n 1, 1) := by decide +kernel
theorem dX5_weakMany_30 : decode cX5_weakMany 30 = .ok (.iinc 2 1, 3) := by decide +kernel
theorem dX5_weakMany_33 : decode cX5_weakMany 33 = .ok (.goto (-25), 3) := by decide +kernel
theorem dX5_weakMany_36 : decode cX5_weakMany 36 = .ok (.iload_n 1, 1) := by decide +kernel
theorem dX5_weakMany_37 : decode cX5_weakMany 37 = .ok (.ireturn, 1) := by decide +kernel
set_option maxRecDepth 20000 in
theorem ggX5_firstWeak_X5_findHoles : GoodIn wsX5_firstWeak wsX5_findHoles := goodIn_r _ [5, 6, 7, 8, 9, 10, 4, 11, 12, 13, 14, 15, 23, 24, 25, 26, 27, 28, 29, 30, 31, 32, 33, 34, 35, 36, 37, 38] (by decide +kernel) (by decide +kernel)
set_option maxRecDepth 20000 in
theorem gX5_firstWeak_X5_findHoles : GoodIn wsX5_firstWeak (wsV RX5 73 RX5 yX5_findHoles wsX5_findHoles) := goodIn_app (goodIn_of _ (by decide +kernel)) ggX5_firstWeak_X5_findHoles
set_option maxRecDepth 20000 in
theorem ggX5_firstWeak_X5_isWeak : GoodIn wsX5_firstWeak wsX5_isWeak := goodIn_r _ [19, 6, 7, 20, 21, 4, 22, 23, 24, 25, 26, 27, 28, 29, 30, 31, 32, 33, 34, 35, 36, 37, 38] (by decide +kernel) (by decide +kernel)
set_option maxRecDepth 20000 in
theorem gX5_firstWeak_X5_isWeak : GoodIn wsX5_firstWeak (wsV RX5 79 RX5 yX5_isWeak wsX5_isWeak) := goodIn_app (goodIn_of _ (by decide +kernel)) ggX5_firstWeak_X5_isWeak
theorem dX5_firstWeak_0 : decode cX5_firstWeak 0 = .ok (.aload_n 0, 1) := by decide +kernel
theorem dX5_firstWeak_1 : decode cX5_firstWeak 1 = .ok (.invokevirtual 73, 3) := by decide +kernel
theorem dX5_firstWeak_4 : decode cX5_firstWeak 4 = .ok (.bipush (-6), 2) := by decide +kernel
theorem dX5_firstWeak_6 : decode cX5_firstWeak 6 = .ok (.istore_n 1, 1) := by decide +kernel
theorem dX5_firstWeak_7 : decode cX5_firstWeak 7 = .ok (.bipush 99, 2) := by decide +kernel
theorem dX5_firstWeak_9 : decode cX5_firstWeak 9 = .ok (.istore_n 2, 1) := by decide +kernel
theorem dX5_firstWeak_10 : decode cX5_firstWeak 10 = .ok (.iload_n 2, 1) := by decide +kernel
theorem dX5_firstWeak_11 : decode cX5_firstWeak 11 = .ok (.ifCond .lt 23, 3) := by decide +kernel
theorem dX5_firstWeak_14 : decode cX5_firstWeak 14 = .ok (.aload_n 0, 1) := by decide +kernel
theorem dX5_firstWeak_15 : decode cX5_firstWeak 15 = .ok (.iload_n 2, 1) := by decide +kernel
theorem dX5_firstWeak_16 : decode cX5_firstWeak 16 = .ok (.invokevirtual 79, 3) := by decide +kernel
theorem dX5_firstWeak_19 : decode cX5_firstWeak 19 = .ok (.ifCond .eq 7, 3) := by decide +kernel
theorem dX5_firstWeak_22 : decode cX5_firstWeak 22 = .ok (.iload_n 2, 1) := by decide +kernel
theorem dX5_firstWeak_23 : decode cX5_firstWeak 23 = .ok (.goto 4, 3) := by decide +kernel
theorem dX5_firstWeak_26 : decode cX5_firstWeak 26 = .ok (.iload_n 1, 1) := by decide +kernel
theorem dX5_firstWeak_27 : decode cX5_firstWeak 27 = .ok (.istore_n 1, 1) := by decide +kernel
theorem dX5_firstWeak_28 : decode cX5_firstWeak 28 = .ok (.iinc 2 (-1), 3) := by decide +kernel
theorem dX5_firstWeak_31 : decode cX5_firstWeak 31 = .ok (.goto (-21), 3) := by decide +kernel
theorem dX5_firstWeak_34 : decode cX5_firstWeak 34 = .ok (.iload_n 1, 1) := by decide +kernel
theorem dX5_firstWeak_35 : decode cX5_firstWeak 35 = .ok (.ireturn, 1) := by decide +kernel
theorem dX5_bits_0 : decode cX5_bits 0 = .ok (.iconst 0, 1) := by decide +kernel
theorem dX5_bits_1 : decode cX5_bits 1 = .ok (.istore_n 1, 1) := by decide +kernel
theorem dX5_bits_2 : decode cX5_bits 2 = .ok (.iconst 0, 1) := by decide +kernel
theorem dX5_bits_3 : decode cX5_bits 3 = .ok (.istore_n 2, 1) := by decide +kernel
theorem dX5_bits_4 : decode cX5_bits 4 = .ok (.iload_n 2, 1) := by decide +kernel
theorem dX5_bits_5 : decode cX5_bits 5 = .ok (.bipush 12, 2) := by decide +kernel
theorem dX5_bits_7 : decode cX5_bits 7 = .ok (.if_icmp .ge 17, 3) := by decide +kernel
theorem dX5_bits_10 : decode cX5_bits 10 = .ok (.iload_n 1, 1) := by decide +kernel
theorem dX5_bits_11 : decode cX5_bits 11 = .ok (.iload_n 0, 1) := by decide +kernel
theorem dX5_bits_12 : decode cX5_bits 12 = .ok (.iload_n 2, 1) := by decide +kernel
theorem dX5_bits_13 : decode cX5_bits 13 = .ok (.ishr, 1) := by decide +kernel
theorem dX5_bits_14 : decode cX5_bits 14 = .ok (.iconst 1, 1) := by decide +kernel
theorem dX5_bits_15 : decode cX5_bits 15 = .ok (.iand, 1) := by decide +kernel
theorem dX5_bits_16 : decode cX5_bits 16 = .ok (.iadd, 1) := by decide +kernel
theorem dX5_bits_17 : decode cX5_bits 17 = .ok (.istore_n 1, 1) := by decide +kernel
theorem dX5_bits_18 : decode cX5_bits 18 = .ok (.iinc 2 1, 3) := by decide +kernel
theorem dX5_bits_21 : decode cX5_bits 21 = .ok (.goto (-17), 3) := by decide +kernel
theorem dX5_bits_24 : decode cX5_bits 24 = .ok (.iload_n 1, 1) := by decide +kernel
theorem dX5_bits_25 : decode cX5_bits 25 = .ok (.ireturn, 1) := by decide +kernel
set_option maxRecDepth 20000 in
theorem ggX5_allHoles_X5_findHoles : GoodIn wsX5_allHoles wsX5_findHoles := goodIn_r _ [6, 1, 7, 8, 9, 10, 5, 11, 12, 13, 14, 15, 19, 20, 21, 22, 23, 24, 25, 26, 27, 28, 29, 30, 31, 32, 33, 34] (by decide +kernel) (by decide +kernel)
set_option maxRecDepth 20000 in
theorem gX5_allHoles_X5_findHoles : GoodIn wsX5_allHoles (wsV RX5 73 RX5 yX5_findHoles wsX5_findHoles) := goodIn_app (goodIn_of _ (by decide +kernel)) ggX5_allHoles_X5_findHoles
set_option maxRecDepth 20000 in
theorem ggX5_allHoles_X5_bits : GoodIn wsX5_allHoles wsX5_bits := goodIn_r _ [18] (by decide +kernel) (by decide +kernel)
set_option maxRecDepth 20000 in
theorem gX5_allHoles_X5_bits : GoodIn wsX5_allHoles (va_wsS RX5 83 yX5_bits wsX5_bits) := goodIn_app (goodIn_of _ (by decide +kernel)) ggX5_allHoles_X5_bits
theorem dX5_allHoles_0 : decode cX5_allHoles 0 = .ok (.aload_n 0, 1) := by decide +kernel
theorem dX5_allHoles_1 : decode cX5_allHoles 1 = .ok (.invokevirtual 73, 3) := by decide +kernel
theorem dX5_allHoles_4 : decode cX5_allHoles 4 = .ok (.iconst 0, 1) := by decide +kernel
theorem dX5_allHoles_5 : decode cX5_allHoles 5 = .ok (.istore_n 1, 1) := by decide +kernel
theorem dX5_allHoles_6 : decode cX5_allHoles 6 = .ok (.iconst 0, 1) := by decide +kernel
theorem dX5_allHoles_7 : decode cX5_allHoles 7 = .ok (.istore_n 2, 1) := by decide +kernel
theorem dX5_allHoles_8 : decode cX5_allHoles 8 = .ok (.iload_n 2, 1) := by decide +kernel
theorem dX5_allHoles_9 : decode cX5_allHoles 9 = .ok (.bipush 100, 2) := by decide +kernel
theorem dX5_allHoles_11 : decode cX5_allHoles 11 = .ok (.if_icmp .ge 21, 3) := by decide +kernel
theorem dX5_allHoles_14 : decode cX5_allHoles 14 = .ok (.iload_n 1, 1) := by decide +kernel
theorem dX5_allHoles_15 : decode cX5_allHoles 15 = .ok (.aload_n 0, 1) := by decide +kernel
theorem dX5_allHoles_16 : decode cX5_allHoles 16 = .ok (.getfield 28, 3) := by decide +kernel
theorem dX5_allHoles_19 : decode cX5_allHoles 19 = .ok (.iload_n 2, 1) := by decide +kernel
theorem dX5_allHoles_20 : decode cX5_allHoles 20 = .ok (.iaload, 1) := by decide +kernel
theorem dX5_allHoles_21 : decode cX5_allHoles 21 = .ok (.invokestatic 83, 3) := by decide +kernel
theorem dX5_allHoles_24 : decode cX5_allHoles 24 = .ok (.iadd, 1) := by decide +kernel
theorem dX5_allHoles_25 : decode cX5_allHoles 25 = .ok (.istore_n 1, 1) := by decide +kernel
theorem dX5_allHoles_26 : decode cX5_allHoles 26 = .ok (.iinc 2 1, 3) := by decide +kernel
theorem dX5_allHoles_29 : decode cX5_allHoles 29 = .ok (.goto (-21), 3) := by decide +kernel
theorem dX5_allHoles_32 : decode cX5_allHoles 32 = .ok (.iload_n 1, 1) := by decide +kernel
theorem dX5_allHoles_33 : decode cX5_allHoles 33 = .ok (.ireturn, 1) := by decide +kernel
theorem dX5_isHeard_0 : decode cX5_isHeard 0 = .ok (.aload_n 0, 1) := by decide +kernel
theorem dX5_isHeard_1 : decode cX5_isHeard 1 = .ok (.getfield 31, 3) := by decide +kernel
theorem dX5_isHeard_4 : decode cX5_isHeard 4 = .ok (.iload_n 2, 1) := by decide +kernel
theorem dX5_isHeard_5 : decode cX5_isHeard 5 = .ok (.iaload, 1) := by decide +kernel
theorem dX5_isHeard_6 : decode cX5_isHeard 6 = .ok (.iload_n 1, 1) := by decide +kernel
theorem dX5_isHeard_7 : decode cX5_isHeard 7 = .ok (.ishr, 1) := by decide +kernel
theorem dX5_isHeard_8 : decode cX5_isHeard 8 = .ok (.iconst 1, 1) := by decide +kernel
theorem dX5_isHeard_9 : decode cX5_isHeard 9 = .ok (.iand, 1) := by decide +kernel
theorem dX5_isHeard_10 : decode cX5_isHeard 10 = .ok (.iconst 1, 1) := by decide +kernel
theorem dX5_isHeard_11 : decode cX5_isHeard 11 = .ok (.if_icmp .ne 7, 3) := by decide +kernel
theorem dX5_isHeard_14 : decode cX5_isHeard 14 = .ok (.iconst 1, 1) := by decide +kernel
theorem dX5_isHeard_15 : decode cX5_isHeard 15 = .ok (.goto 4, 3) := by decide +kernel
theorem dX5_isHeard_18 : decode cX5_isHeard 18 = .ok (.iconst 0, 1) := by decide +kernel
theorem dX5_isHeard_19 : decode cX5_isHeard 19 = .ok (.ireturn, 1) := by decide +kernel
set_option maxRecDepth 20000 in
theorem ggX5_begins_X5_isHeard : GoodIn wsX5_begins wsX5_isHeard := goodIn_r _ [5, 6, 7, 8, 9, 10, 11, 12, 13, 14, 15, 16, 17, 18, 19, 20, 21, 22] (by decide +kernel) (by decide +kernel)
set_option maxRecDepth 20000 in
theorem gX5_begins_X5_isHeard : GoodIn wsX5_begins (wsV RX5 86 RX5 yX5_isHeard wsX5_isHeard) := goodIn_app (goodIn_of _ (by decide +kernel)) ggX5_begins_X5_isHeard
theorem dX5_begins_0 : decode cX5_begins 0 = .ok (.aload_n 0, 1) := by decide +kernel
theorem dX5_begins_1 : decode cX5_begins 1 = .ok (.iload_n 1, 1) := by decide +kernel
theorem dX5_begins_2 : decode cX5_begins 2 = .ok (.iload_n 2, 1) := by decide +kernel
theorem dX5_begins_3 : decode cX5_begins 3 = .ok (.invokevirtual 86, 3) := by decide +kernel
theorem dX5_begins_6 : decode cX5_begins 6 = .ok (.ifCond .eq 22, 3) := by decide +kernel
theorem dX5_begins_9 : decode cX5_begins 9 = .ok (.iload_n 2, 1) := by decide +kernel
theorem dX5_begins_10 : decode cX5_begins 10 = .ok (.ifCond .eq 14, 3) := by decide +kernel
theorem dX5_begins_13 : decode cX5_begins 13 = .ok (.aload_n 0, 1) := by decide +kernel
theorem dX5_begins_14 : decode cX5_begins 14 = .ok (.iload_n 1, 1) := by decide +kernel
theorem dX5_begins_15 : decode cX5_begins 15 = .ok (.iload_n 2, 1) := by decide +kernel
theorem dX5_begins_16 : decode cX5_begins 16 = .ok (.iconst 1, 1) := by decide +kernel
theorem dX5_begins_17 : decode cX5_begins 17 = .ok (.isub, 1) := by decide +kernel
theorem dX5_begins_18 : decode cX5_begins 18 = .ok (.invokevirtual 86, 3) := by decide +kernel
theorem dX5_begins_21 : decode cX5_begins 21 = .ok (.ifCond .ne 7, 3) := by decide +kernel
theorem dX5_begins_24 : decode cX5_begins 24 = .ok (.iconst 1, 1) := by decide +kernel
theorem dX5_begins_25 : decode cX5_begins 25 = .ok (.goto 4, 3) := by decide +kernel
theorem dX5_begins_28 : decode cX5_begins 28 = .ok (.iconst 0, 1) := by decide +kernel
theorem dX5_begins_29 : decode cX5_begins 29 = .ok (.ireturn, 1) := by decide +kernel
set_option maxRecDepth 20000 in
theorem ggX5_beginOf_X5_begins : GoodIn wsX5_beginOf wsX5_begins := goodIn_r _ [5, 6, 7, 8, 4, 9, 10, 11, 12, 13, 14, 15, 16, 17, 18, 19, 20, 21, 22, 23, 24, 25, 26] (by decide +kernel) (by decide +kernel)
set_option maxRecDepth 20000 in
theorem gX5_beginOf_X5_begins : GoodIn wsX5_beginOf (wsV RX5 89 RX5 yX5_begins wsX5_begins) := goodIn_app (goodIn_of _ (by decide +kernel)) ggX5_beginOf_X5_begins
theorem dX5_beginOf_0 : decode cX5_beginOf 0 = .ok (.iload_n 2, 1) := by decide +kernel
theorem dX5_beginOf_1 : decode cX5_beginOf 1 = .ok (.istore_n 3, 1) := by decide +kernel
theorem dX5_beginOf_2 : decode cX5_beginOf 2 = .ok (.bipush (-6), 2) := by decide +kernel
theorem dX5_beginOf_4 : decode cX5_beginOf 4 = .ok (.istore 4, 2) := by decide +kernel
theorem dX5_beginOf_6 : decode cX5_beginOf 6 = .ok (.iconst 0, 1) := by decide +kernel
theorem dX5_beginOf_7 : decode cX5_beginOf 7 = .ok (.istore 5, 2) := by decide +kernel
theorem dX5_beginOf_9 : decode cX5_beginOf 9 = .ok (.iload 5, 2) := by decide +kernel
theorem dX5_beginOf_11 : decode cX5_beginOf 11 = .ok (.bipush 100, 2) := by decide +kernel
theorem dX5_beginOf_13 : decode cX5_beginOf 13 = .ok (.if_icmp .ge 50, 3) := by decide +kernel
theorem dX5_beginOf_16 : decode cX5_beginOf 16 = .ok (.aload_n 0, 1) := by decide +kernel
theorem dX5_beginOf_17 : decode cX5_beginOf 17 = .ok (.iload_n 1, 1) := by decide +kernel
theorem dX5_beginOf_18 : decode cX5_beginOf 18 = .ok (.iload 5, 2) := by decide +kernel
theorem dX5_beginOf_20 : decode cX5_beginOf 20 = .ok (.invokevirtual 89, 3) := by decide +kernel
theorem dX5_beginOf_23 : decode cX5_beginOf 23 = .ok (.ifCond .eq 12, 3) := by decide +kernel
theorem dX5_beginOf_26 : decode cX5_beginOf 26 = .ok (.iload_n 3, 1) := by decide +kernel
theorem dX5_beginOf_27 : decode cX5_beginOf 27 = .ok (.ifCond .ne 8, 3) := by decide +kernel
theorem dX5_beginOf_30 : decode cX5_beginOf 30 = .ok (.iload 5, 2) := by decide +kernel
theorem dX5_beginOf_32 : decode cX5_beginOf 32 = .ok (.goto 5, 3) := by decide +kernel
theorem dX5_beginOf_35 : decode cX5_beginOf 35 = .ok (.iload 4, 2) := by decide +kernel
theorem dX5_beginOf_37 : decode cX5_beginOf 37 = .ok (.istore 4, 2) := by decide +kernel
theorem dX5_beginOf_39 : decode cX5_beginOf 39 = .ok (.iload_n 3, 1) := by decide +kernel
theorem dX5_beginOf_40 : decode cX5_beginOf 40 = .ok (.aload_n 0, 1) := by decide +kernel
theorem dX5_beginOf_41 : decode cX5_beginOf 41 = .ok (.iload_n 1, 1) := by decide +kernel
theorem dX5_beginOf_42 : decode cX5_beginOf 42 = .ok (.iload 5, 2) := by decide +kernel
theorem dX5_beginOf_44 : decode cX5_beginOf 44 = .ok (.invokevirtual 89, 3) := by decide +kernel
theorem dX5_beginOf_47 : decode cX5_beginOf 47 = .ok (.ifCond .eq 7, 3) := by decide +kernel
theorem dX5_beginOf_50 : decode cX5_beginOf 50 = .ok (.iconst 1, 1) := by decide +kernel
theorem dX5_beginOf_51 : decode cX5_beginOf 51 = .ok (.goto 4, 3) := by decide +kernel
theorem dX5_beginOf_54 : decode cX5_beginOf 54 = .ok (.iconst 0, 1) := by decide +kernel
theorem dX5_beginOf_55 : decode cX5_beginOf 55 = .ok (.isub, 1) := by decide +kernel
theorem dX5_beginOf_56 : decode cX5_beginOf 56 = .ok (.istore_n 3, 1) := by decide +kernel
theorem dX5_beginOf_57 : decode cX5_beginOf 57 = .ok (.iinc 5 1, 3) := by decide +kernel
theorem dX5_beginOf_60 : decode cX5_beginOf 60 = .ok (.goto (-51), 3) := by decide +kernel
theorem dX5_beginOf_63 : decode cX5_beginOf 63 = .ok (.iload 4, 2) := by decide +kernel
theorem dX5_beginOf_65 : decode cX5_beginOf 65 = .ok (.ireturn, 1) := by decide +kernel
set_option maxRecDepth 20000 in
theorem ggX5_endOf_X5_isHeard : GoodIn wsX5_endOf wsX5_isHeard := goodIn_r _ [5, 6, 7, 8, 9, 10, 11, 12, 13, 14, 15, 16, 17, 18, 19, 20, 21, 22] (by decide +kernel) (by decide +kernel)
set_option maxRecDepth 20000 in
theorem gX5_endOf_X5_isHeard : GoodIn wsX5_endOf (wsV RX5 86 RX5 yX5_isHeard wsX5_isHeard) := goodIn_app (goodIn_of _ (by decide +kernel)) ggX5_endOf_X5_isHeard
theorem dX5_endOf_0 : decode cX5_endOf 0 = .ok (.iload_n 2, 1) := by decide +kernel
theorem dX5_endOf_1 : decode cX5_endOf 1 = .ok (.istore_n 3, 1) := by decide +kernel
theorem dX5_endOf_2 : decode cX5_endOf 2 = .ok (.iload_n 3, 1) := by decide +kernel
theorem dX5_endOf_3 : decode cX5_endOf 3 = .ok (.iconst 1, 1) := by decide +kernel
theorem dX5_endOf_4 : decode cX5_endOf 4 = .ok (.iadd, 1) := by decide +kernel
theorem dX5_endOf_5 : decode cX5_endOf 5 = .ok (.bipush 100, 2) := by decide +kernel
theorem dX5_endOf_7 : decode cX5_endOf 7 = .ok (.if_icmp .ge 20, 3) := by decide +kernel
theorem dX5_endOf_10 : decode cX5_endOf 10 = .ok (.aload_n 0, 1) := by decide +kernel
theorem dX5_endOf_11 : decode cX5_endOf 11 = .ok (.iload_n 1, 1) := by decide +kernel
theorem dX5_endOf_12 : decode cX5_endOf 12 = .ok (.iload_n 3, 1) := by decide +kernel
theorem dX5_endOf_13 : decode cX5_endOf 13 = .ok (.iconst 1, 1) := by decide +kernel
theorem dX5_endOf_14 : decode cX5_endOf 14 = .ok (.iadd, 1) := by decide +kernel
theorem dX5_endOf_15 : decode cX5_endOf 15 = .ok (.invokevirtual 86, 3) := by decide +kernel
theorem dX5_endOf_18 : decode cX5_endOf 18 = .ok (.ifCond .eq 9, 3) := by decide +kernel
theorem dX5_endOf_21 : decode cX5_endOf 21 = .ok (.iinc 3 1, 3) := by decide +kernel
theorem dX5_endOf_24 : decode cX5_endOf 24 = .ok (.goto (-22), 3) := by decide +kernel
theorem dX5_endOf_27 : decode cX5_endOf 27 = .ok (.iload_n 3, 1) := by decide +kernel
theorem dX5_endOf_28 : decode cX5_endOf 28 = .ok (.ireturn, 1) := by decide +kernel
set_option maxRecDepth 20000 in
theorem ggX5_soundsMany_X5_findHeard : GoodIn wsX5_soundsMany wsX5_findHeard := goodIn_r _ [5, 6, 7, 8, 9, 10, 11, 4, 12, 13, 14, 15, 16, 17, 18, 19, 20, 29, 30, 31, 32, 33, 34, 35, 36, 37, 38, 39, 40, 41, 42, 43, 44] (by decide +kernel) (by decide +kernel)
set_option maxRecDepth 20000 in
theorem gX5_soundsMany_X5_findHeard : GoodIn wsX5_soundsMany (wsV RX5 92 RX5 yX5_findHeard wsX5_findHeard) := goodIn_app (goodIn_of _ (by decide +kernel)) ggX5_soundsMany_X5_findHeard
set_option maxRecDepth 20000 in
theorem ggX5_soundsMany_X5_begins : GoodIn wsX5_soundsMany wsX5_begins := goodIn_r _ [24, 25, 26, 27, 4, 28, 6, 29, 30, 31, 32, 33, 34, 35, 36, 37, 38, 39, 40, 41, 42, 43, 44] (by decide +kernel) (by decide +kernel)
set_option maxRecDepth 20000 in
theorem gX5_soundsMany_X5_begins : GoodIn wsX5_soundsMany (wsV RX5 89 RX5 yX5_begins wsX5_begins) := goodIn_app (goodIn_of _ (by decide +kernel)) ggX5_soundsMany_X5_begins
theorem dX5_soundsMany_0 : decode cX5_soundsMany 0 = .ok (.aload_n 0, 1) := by decide +kernel
theorem dX5_soundsMany_1 : decode cX5_soundsMany 1 = .ok (.invokevirtual 92, 3) := by decide +kernel
theorem dX5_soundsMany_4 : decode cX5_soundsMany 4 = .ok (.iconst 0, 1) := by decide +kernel
theorem dX5_soundsMany_5 : decode cX5_soundsMany 5 = .ok (.istore_n 1, 1) := by decide +kernel
theorem dX5_soundsMany_6 : decode cX5_soundsMany 6 = .ok (.iconst 0, 1) := by decide +kernel
theorem dX5_soundsMany_7 : decode cX5_soundsMany 7 = .ok (.istore_n 2, 1) := by decide +kernel
theorem dX5_soundsMany_8 : decode cX5_soundsMany 8 = .ok (.iload_n 2, 1) := by decide +kernel
theorem dX5_soundsMany_9 : decode cX5_soundsMany 9 = .ok (.bipush 12, 2) := by decide +kernel
theorem dX5_soundsMany_11 : decode cX5_soundsMany 11 = .ok (.if_icmp .ge 40, 3) := by decide +kernel
theorem dX5_soundsMany_14 : decode cX5_soundsMany 14 = .ok (.iconst 0, 1) := by decide +kernel
theorem dX5_soundsMany_15 : decode cX5_soundsMany 15 = .ok (.istore_n 3, 1) := by decide +kernel
theorem dX5_soundsMany_16 : decode cX5_soundsMany 16 = .ok (.iload_n 3, 1) := by decide +kernel
theorem dX5_soundsMany_17 : decode cX5_soundsMany 17 = .ok (.bipush 100, 2) := by decide +kernel
theorem dX5_soundsMany_19 : decode cX5_soundsMany 19 = .ok (.if_icmp .ge 26, 3) := by decide +kernel
theorem dX5_soundsMany_22 : decode cX5_soundsMany 22 = .ok (.iload_n 1, 1) := by decide +kernel
theorem dX5_soundsMany_23 : decode cX5_soundsMany 23 = .ok (.aload_n 0, 1) := by decide +kernel
theorem dX5_soundsMany_24 : decode cX5_soundsMany 24 = .ok (.iload_n 2, 1) := by decide +kernel
theorem dX5_soundsMany_25 : decode cX5_soundsMany 25 = .ok (.iload_n 3, 1) := by decide +kernel
theorem dX5_soundsMany_26 : decode cX5_soundsMany 26 = .ok (.invokevirtual 89, 3) := by decide +kernel
theorem dX5_soundsMany_29 : decode cX5_soundsMany 29 = .ok (.ifCond .eq 7, 3) := by decide +kernel
theorem dX5_soundsMany_32 : decode cX5_soundsMany 32 = .ok (.iconst 1, 1) := by decide +kernel
theorem dX5_soundsMany_33 : decode cX5_soundsMany 33 = .ok (.goto 4, 3) := by decide +kernel
theorem dX5_soundsMany_36 : decode cX5_soundsMany 36 = .ok (.iconst 0, 1) := by decide +kernel
theorem dX5_soundsMany_37 : decode cX5_soundsMany 37 = .ok (.iadd, 1) := by decide +kernel
theorem dX5_soundsMany_38 : decode cX5_soundsMany 38 = .ok (.istore_n 1, 1) := by decide +kernel
theorem dX5_soundsMany_39 : decode cX5_soundsMany 39 = .ok (.iinc 3 1, 3) := by decide +kernel
theorem dX5_soundsMany_42 : decode cX5_soundsMany 42 = .ok (.goto (-26), 3) := by decide +kernel
theorem dX5_soundsMany_45 : decode cX5_soundsMany 45 = .ok (.iinc 2 1, 3) := by decide +kernel
theorem dX5_soundsMany_48 : decode cX5_soundsMany 48 = .ok (.goto (-40), 3) := by decide +kernel
theorem dX5_soundsMany_51 : decode cX5_soundsMany 51 = .ok (.iload_n 1, 1) := by decide +kernel
theorem dX5_soundsMany_52 : decode cX5_soundsMany 52 = .ok (.ireturn, 1) := by decide +kernel
set_option maxRecDepth 20000 in
theorem ggX5_isWholeHeard_X5_part : GoodIn wsX5_isWholeHeard wsX5_part := goodIn_r _ [5, 6, 12, 13, 14, 15, 16, 17, 18, 19, 20, 21, 22, 23, 24, 25, 26, 27] (by decide +kernel) (by decide +kernel)
set_option maxRecDepth 20000 in
theorem gX5_isWholeHeard_X5_part : GoodIn wsX5_isWholeHeard (wsV RX5 49 RX5 yX5_part wsX5_part) := goodIn_app (goodIn_of _ (by decide +kernel)) ggX5_isWholeHeard_X5_part
set_option maxRecDepth 20000 in
theorem ggX5_isWholeHeard_X5_isHeard : GoodIn wsX5_isWholeHeard wsX5_isHeard := goodIn_r _ [10, 11, 12, 13, 14, 15, 16, 17, 18, 19, 20, 21, 22, 23, 24, 25, 26, 27] (by decide +kernel) (by decide +kernel)
set_option maxRecDepth 20000 in
theorem gX5_isWholeHeard_X5_isHeard : GoodIn wsX5_isWholeHeard (wsV RX5 86 RX5 yX5_isHeard wsX5_isHeard) := goodIn_app (goodIn_of _ (by decide +kernel)) ggX5_isWholeHeard_X5_isHeard
theorem dX5_isWholeHeard_0 : decode cX5_isWholeHeard 0 = .ok (.iconst 1, 1) := by decide +kernel
theorem dX5_isWholeHeard_1 : decode cX5_isWholeHeard 1 = .ok (.istore_n 2, 1) := by decide +kernel
theorem dX5_isWholeHeard_2 : decode cX5_isWholeHeard 2 = .ok (.aload_n 0, 1) := by decide +kernel
theorem dX5_isWholeHeard_3 : decode cX5_isWholeHeard 3 = .ok (.iload_n 1, 1) := by decide +kernel
theorem dX5_isWholeHeard_4 : decode cX5_isWholeHeard 4 = .ok (.iconst 1, 1) := by decide +kernel
theorem dX5_isWholeHeard_5 : decode cX5_isWholeHeard 5 = .ok (.invokevirtual 49, 3) := by decide +kernel
theorem dX5_isWholeHeard_8 : decode cX5_isWholeHeard 8 = .ok (.istore_n 3, 1) := by decide +kernel
theorem dX5_isWholeHeard_9 : decode cX5_isWholeHeard 9 = .ok (.iload_n 3, 1) := by decide +kernel
theorem dX5_isWholeHeard_10 : decode cX5_isWholeHeard 10 = .ok (.aload_n 0, 1) := by decide +kernel
theorem dX5_isWholeHeard_11 : decode cX5_isWholeHeard 11 = .ok (.iload_n 1, 1) := by decide +kernel
theorem dX5_isWholeHeard_12 : decode cX5_isWholeHeard 12 = .ok (.iconst 2, 1) := by decide +kernel
theorem dX5_isWholeHeard_13 : decode cX5_isWholeHeard 13 = .ok (.invokevirtual 49, 3) := by decide +kernel
theorem dX5_isWholeHeard_16 : decode cX5_isWholeHeard 16 = .ok (.if_icmp .gt 33, 3) := by decide +kernel
theorem dX5_isWholeHeard_19 : decode cX5_isWholeHeard 19 = .ok (.iload_n 2, 1) := by decide +kernel
theorem dX5_isWholeHeard_20 : decode cX5_isWholeHeard 20 = .ok (.ifCond .eq 21, 3) := by decide +kernel
theorem dX5_isWholeHeard_23 : decode cX5_isWholeHeard 23 = .ok (.aload_n 0, 1) := by decide +kernel
theorem dX5_isWholeHeard_24 : decode cX5_isWholeHeard 24 = .ok (.aload_n 0, 1) := by decide +kernel
theorem dX5_isWholeHeard_25 : decode cX5_isWholeHeard 25 = .ok (.iload_n 1, 1) := by decide +kernel
theorem dX5_isWholeHeard_26 : decode cX5_isWholeHeard 26 = .ok (.iconst 0, 1) := by decide +kernel
theorem dX5_isWholeHeard_27 : decode cX5_isWholeHeard 27 = .ok (.invokevirtual 49, 3) := by decide +kernel
theorem dX5_isWholeHeard_30 : decode cX5_isWholeHeard 30 = .ok (.iload_n 3, 1) := by decide +kernel
theorem dX5_isWholeHeard_31 : decode cX5_isWholeHeard 31 = .ok (.invokevirtual 86, 3) := by decide +kernel
theorem dX5_isWholeHeard_34 : decode cX5_isWholeHeard 34 = .ok (.ifCond .eq 7, 3) := by decide +kernel
theorem dX5_isWholeHeard_37 : decode cX5_isWholeHeard 37 = .ok (.iconst 1, 1) := by decide +kernel
theorem dX5_isWholeHeard_38 : decode cX5_isWholeHeard 38 = .ok (.goto 4, 3) := by decide +kernel
theorem dX5_isWholeHeard_41 : decode cX5_isWholeHeard 41 = .ok (.iconst 0, 1) := by decide +kernel
theorem dX5_isWholeHeard_42 : decode cX5_isWholeHeard 42 = .ok (.istore_n 2, 1) := by decide +kernel
theorem dX5_isWholeHeard_43 : decode cX5_isWholeHeard 43 = .ok (.iinc 3 1, 3) := by decide +kernel
theorem dX5_isWholeHeard_46 : decode cX5_isWholeHeard 46 = .ok (.goto (-37), 3) := by decide +kernel
theorem dX5_isWholeHeard_49 : decode cX5_isWholeHeard 49 = .ok (.iload_n 2, 1) := by decide +kernel
theorem dX5_isWholeHeard_50 : decode cX5_isWholeHeard 50 = .ok (.ireturn, 1) := by decide +kernel
set_option maxRecDepth 20000 in
theorem ggX5_withGap_X5_findHeard : GoodIn wsX5_withGap wsX5_findHeard := goodIn_r _ [6, 7, 1, 8, 9, 10, 11, 5, 12, 13, 14, 15, 16, 17, 18, 19, 20, 29, 30, 31, 32, 33, 34, 35, 36, 37, 38, 39, 40, 41, 42, 43, 44] (by decide +kernel) (by decide +kernel)
set_option maxRecDepth 20000 in
theorem gX5_withGap_X5_findHeard : GoodIn wsX5_withGap (wsV RX5 92 RX5 yX5_findHeard wsX5_findHeard) := goodIn_app (goodIn_of _ (by decide +kernel)) ggX5_withGap_X5_findHeard
set_option maxRecDepth 20000 in
theorem ggX5_withGap_X5_isWholeHeard : GoodIn wsX5_withGap wsX5_isWholeHeard := goodIn_r _ [24, 13, 14, 15, 5, 16, 1, 25, 26, 27, 28, 7, 29, 30, 31, 32, 33, 34, 35, 36, 37, 38, 39, 40, 41, 42, 43, 44] (by decide +kernel) (by decide +kernel)
set_option maxRecDepth 20000 in
theorem gX5_withGap_X5_isWholeHeard : GoodIn wsX5_withGap (wsV RX5 95 RX5 yX5_isWholeHeard wsX5_isWholeHeard) := goodIn_app (goodIn_of _ (by decide +kernel)) ggX5_withGap_X5_isWholeHeard
theorem dX5_withGap_0 : decode cX5_withGap 0 = .ok (.aload_n 0, 1) := by decide +kernel
theorem dX5_withGap_1 : decode cX5_withGap 1 = .ok (.invokevirtual 92, 3) := by decide +kernel
theorem dX5_withGap_4 : decode cX5_withGap 4 = .ok (.iconst 0, 1) := by decide +kernel
theorem dX5_withGap_5 : decode cX5_withGap 5 = .ok (.istore_n 1, 1) := by decide +kernel
theorem dX5_withGap_6 : decode cX5_withGap 6 = .ok (.iconst 0, 1) := by decide +kernel
theorem dX5_withGap_7 : decode cX5_withGap 7 = .ok (.istore_n 2, 1) := by decide +kernel
theorem dX5_withGap_8 : decode cX5_withGap 8 = .ok (.iload_n 2, 1) := by decide +kernel
theorem dX5_withGap_9 : decode cX5_withGap 9 = .ok (.aload_n 0, 1) := by decide +kernel
theorem dX5_withGap_10 : decode cX5_withGap 10 = .ok (.getfield 7, 3) := by decide +kernel
theorem dX5_withGap_13 : decode cX5_withGap 13 = .ok (.iconst 4, 1) := by decide +kernel
theorem dX5_withGap_14 : decode cX5_withGap 14 = .ok (.iaload, 1) := by decide +kernel
theorem dX5_withGap_15 : decode cX5_withGap 15 = .ok (.if_icmp .ge 25, 3) := by decide +kernel
theorem dX5_withGap_18 : decode cX5_withGap 18 = .ok (.iload_n 1, 1) := by decide +kernel
theorem dX5_withGap_19 : decode cX5_withGap 19 = .ok (.aload_n 0, 1) := by decide +kernel
theorem dX5_withGap_20 : decode cX5_withGap 20 = .ok (.iload_n 2, 1) := by decide +kernel
theorem dX5_withGap_21 : decode cX5_withGap 21 = .ok (.invokevirtual 95, 3) := by decide +kernel
theorem dX5_withGap_24 : decode cX5_withGap 24 = .ok (.ifCond .eq 7, 3) := by decide +kernel
theorem dX5_withGap_27 : decode cX5_withGap 27 = .ok (.iconst 0, 1) := by decide +kernel
theorem dX5_withGap_28 : decode cX5_withGap 28 = .ok (.goto 4, 3) := by decide +kernel
theorem dX5_withGap_31 : decode cX5_withGap 31 = .ok (.iconst 1, 1) := by decide +kernel
theorem dX5_withGap_32 : decode cX5_withGap 32 = .ok (.iadd, 1) := by decide +kernel
theorem dX5_withGap_33 : decode cX5_withGap 33 = .ok (.istore_n 1, 1) := by decide +kernel
theorem dX5_withGap_34 : decode cX5_withGap 34 = .ok (.iinc 2 1, 3) := by decide +kernel
theorem dX5_withGap_37 : decode cX5_withGap 37 = .ok (.goto (-29), 3) := by decide +kernel
theorem dX5_withGap_40 : decode cX5_withGap 40 = .ok (.iload_n 1, 1) := by decide +kernel
theorem dX5_withGap_41 : decode cX5_withGap 41 = .ok (.ireturn, 1) := by decide +kernel
set_option maxRecDepth 20000 in
theorem ggX5_isValue_X5_within : GoodIn wsX5_isValue wsX5_within := goodIn_r _ [4] (by decide +kernel) (by decide +kernel)
set_option maxRecDepth 20000 in
theorem gX5_isValue_X5_within : GoodIn wsX5_isValue (va_wsS RX5 45 yX5_within wsX5_within) := goodIn_app (goodIn_of _ (by decide +kernel)) ggX5_isValue_X5_within
theorem dX5_isValue_0 : decode cX5_isValue 0 = .ok (.iload_n 0, 1) := by decide +kernel
theorem dX5_isValue_1 : decode cX5_isValue 1 = .ok (.tableswitch 61 0 3 #[31, 39, 46, 53], 31) := by decide +kernel
theorem dX5_isValue_32 : decode cX5_isValue 32 = .ok (.iload_n 1, 1) := by decide +kernel
theorem dX5_isValue_33 : decode cX5_isValue 33 = .ok (.iconst 1, 1) := by decide +kernel
theorem dX5_isValue_34 : decode cX5_isValue 34 = .ok (.bipush 9, 2) := by decide +kernel
theorem dX5_isValue_36 : decode cX5_isValue 36 = .ok (.invokestatic 45, 3) := by decide +kernel
theorem dX5_isValue_39 : decode cX5_isValue 39 = .ok (.ireturn, 1) := by decide +kernel
theorem dX5_isValue_40 : decode cX5_isValue 40 = .ok (.iload_n 1, 1) := by decide +kernel
theorem dX5_isValue_41 : decode cX5_isValue 41 = .ok (.iconst 1, 1) := by decide +kernel
theorem dX5_isValue_42 : decode cX5_isValue 42 = .ok (.iconst 4, 1) := by decide +kernel
theorem dX5_isValue_43 : decode cX5_isValue 43 = .ok (.invokestatic 45, 3) := by decide +kernel
theorem dX5_isValue_46 : decode cX5_isValue 46 = .ok (.ireturn, 1) := by decide +kernel
theorem dX5_isValue_47 : decode cX5_isValue 47 = .ok (.iload_n 1, 1) := by decide +kernel
theorem dX5_isValue_48 : decode cX5_isValue 48 = .ok (.iconst 0, 1) := by decide +kernel
theorem dX5_isValue_49 : decode cX5_isValue 49 = .ok (.iconst 4, 1) := by decide +kernel
theorem dX5_isValue_50 : decode cX5_isValue 50 = .ok (.invokestatic 45, 3) := by decide +kernel
theorem dX5_isValue_53 : decode cX5_isValue 53 = .ok (.ireturn, 1) := by decide +kernel
theorem dX5_isValue_54 : decode cX5_isValue 54 = .ok (.iload_n 1, 1) := by decide +kernel
theorem dX5_isValue_55 : decode cX5_isValue 55 = .ok (.iconst 2, 1) := by decide +kernel
theorem dX5_isValue_56 : decode cX5_isValue 56 = .ok (.bipush 12, 2) := by decide +kernel
theorem dX5_isValue_58 : decode cX5_isValue 58 = .ok (.invokestatic 45, 3) := by decide +kernel
theorem dX5_isValue_61 : decode cX5_isValue 61 = .ok (.ireturn, 1) := by decide +kernel
theorem dX5_isValue_62 : decode cX5_isValue 62 = .ok (.iconst 0, 1) := by decide +kernel
theorem dX5_isValue_63 : decode cX5_isValue 63 = .ok (.ireturn, 1) := by decide +kernel
set_option maxRecDepth 20000 in
theorem ggX5_set_X5_isValue : GoodIn wsX5_set wsX5_isValue := goodIn_r _ [5, 6, 7, 4, 8] (by decide +kernel) (by decide +kernel)
set_option maxRecDepth 20000 in
theorem gX5_set_X5_isValue : GoodIn wsX5_set (va_wsS RX5 98 yX5_isValue wsX5_isValue) := goodIn_app (goodIn_of _ (by decide +kernel)) ggX5_set_X5_isValue
set_option maxRecDepth 20000 in
theorem ggX5_set_X5_record : GoodIn wsX5_set wsX5_record := goodIn_r _ [12, 13, 14, 1, 15, 16, 4, 17, 18, 19, 20, 21, 22, 23, 24, 25, 26, 27, 28, 29, 30, 31, 32, 33] (by decide +kernel) (by decide +kernel)
set_option maxRecDepth 20000 in
theorem gX5_set_X5_record : GoodIn wsX5_set (wsV RX5 101 RX5 yX5_record wsX5_record) := goodIn_app (goodIn_of _ (by decide +kernel)) ggX5_set_X5_record
theorem dX5_set_0 : decode cX5_set 0 = .ok (.iload_n 1, 1) := by decide +kernel
theorem dX5_set_1 : decode cX5_set 1 = .ok (.iload_n 2, 1) := by decide +kernel
theorem dX5_set_2 : decode cX5_set 2 = .ok (.invokestatic 98, 3) := by decide +kernel
theorem dX5_set_5 : decode cX5_set 5 = .ok (.ifCond .ne 6, 3) := by decide +kernel
theorem dX5_set_8 : decode cX5_set 8 = .ok (.bipush (-2), 2) := by decide +kernel
theorem dX5_set_10 : decode cX5_set 10 = .ok (.ireturn, 1) := by decide +kernel
theorem dX5_set_11 : decode cX5_set 11 = .ok (.aload_n 0, 1) := by decide +kernel
theorem dX5_set_12 : decode cX5_set 12 = .ok (.invokevirtual 101, 3) := by decide +kernel
theorem dX5_set_15 : decode cX5_set 15 = .ok (.aload_n 0, 1) := by decide +kernel
theorem dX5_set_16 : decode cX5_set 16 = .ok (.getfield 7, 3) := by decide +kernel
theorem dX5_set_19 : decode cX5_set 19 = .ok (.iload_n 1, 1) := by decide +kernel
theorem dX5_set_20 : decode cX5_set 20 = .ok (.iaload, 1) := by decide +kernel
theorem dX5_set_21 : decode cX5_set 21 = .ok (.istore_n 3, 1) := by decide +kernel
theorem dX5_set_22 : decode cX5_set 22 = .ok (.aload_n 0, 1) := by decide +kernel
theorem dX5_set_23 : decode cX5_set 23 = .ok (.getfield 7, 3) := by decide +kernel
theorem dX5_set_26 : decode cX5_set 26 = .ok (.iload_n 1, 1) := by decide +kernel
theorem dX5_set_27 : decode cX5_set 27 = .ok (.iload_n 2, 1) := by decide +kernel
theorem dX5_set_28 : decode cX5_set 28 = .ok (.iastore, 1) := by decide +kernel
theorem dX5_set_29 : decode cX5_set 29 = .ok (.iload_n 3, 1) := by decide +kernel
theorem dX5_set_30 : decode cX5_set 30 = .ok (.ireturn, 1) := by decide +kernel
set_option maxRecDepth 20000 in
theorem ggX5_note_X5_isTrack : GoodIn wsX5_note wsX5_isTrack := goodIn_r _ [5, 6, 7, 4, 8] (by decide +kernel) (by decide +kernel)
set_option maxRecDepth 20000 in
theorem gX5_note_X5_isTrack : GoodIn wsX5_note (va_wsS RX5 104 yX5_isTrack wsX5_isTrack) := goodIn_app (goodIn_of _ (by decide +kernel)) ggX5_note_X5_isTrack
set_option maxRecDepth 20000 in
theorem ggX5_note_X5_isStep : GoodIn wsX5_note wsX5_isStep := goodIn_r _ [11, 6, 7, 4, 8] (by decide +kernel) (by decide +kernel)
set_option maxRecDepth 20000 in
theorem gX5_note_X5_isStep : GoodIn wsX5_note (va_wsS RX5 107 yX5_isStep wsX5_isStep) := goodIn_app (goodIn_of _ (by decide +kernel)) ggX5_note_X5_isStep
set_option maxRecDepth 20000 in
theorem ggX5_note_X5_isTaken : GoodIn wsX5_note wsX5_isTaken := goodIn_r _ [15, 1, 16, 17, 18, 4, 19, 45, 46, 47, 48, 49, 50, 51, 52, 53, 54, 55, 56, 57, 58, 59, 60] (by decide +kernel) (by decide +kernel)
set_option maxRecDepth 20000 in
theorem gX5_note_X5_isTaken : GoodIn wsX5_note (wsV RX5 110 RX5 yX5_isTaken wsX5_isTaken) := goodIn_app (goodIn_of _ (by decide +kernel)) ggX5_note_X5_isTaken
set_option maxRecDepth 20000 in
theorem ggX5_note_X5_record : GoodIn wsX5_note wsX5_record := goodIn_r _ [23, 24, 25, 1, 26, 27, 4, 28, 45, 46, 47, 48, 49, 50, 51, 52, 53, 54, 55, 56, 57, 58, 59, 60] (by decide +kernel) (by decide +kernel)
set_option maxRecDepth 20000 in
theorem gX5_note_X5_record : GoodIn wsX5_note (wsV RX5 101 RX5 yX5_record wsX5_record) := goodIn_app (goodIn_of _ (by decide +kernel)) ggX5_note_X5_record
set_option maxRecDepth 20000 in
theorem ggX5_note_X5_putIn : GoodIn wsX5_note wsX5_putIn := goodIn_r _ [32, 1, 33, 34, 35, 4, 36, 16, 17, 18, 19, 37, 38, 39, 40, 41, 42, 43, 44, 45, 46, 47, 48, 49, 50, 51, 52, 53, 54, 55, 56, 57, 58, 59, 60] (by decide +kernel) (by decide +kernel)
set_option maxRecDepth 20000 in
theorem gX5_note_X5_putIn : GoodIn wsX5_note (wsV RX5 65 RX5 yX5_putIn wsX5_putIn) := goodIn_app (goodIn_of _ (by decide +kernel)) ggX5_note_X5_putIn
theorem dX5_note_0 : decode cX5_note 0 = .ok (.iload_n 1, 1) := by decide +kernel
theorem dX5_note_1 : decode cX5_note 1 = .ok (.invokestatic 104, 3) := by decide +kernel
theorem dX5_note_4 : decode cX5_note 4 = .ok (.ifCond .ne 5, 3) := by decide +kernel
theorem dX5_note_7 : decode cX5_note 7 = .ok (.iconst (-1), 1) := by decide +kernel
theorem dX5_note_8 : decode cX5_note 8 = .ok (.ireturn, 1) := by decide +kernel
theorem dX5_note_9 : decode cX5_note 9 = .ok (.iload_n 2, 1) := by decide +kernel
theorem dX5_note_10 : decode cX5_note 10 = .ok (.invokestatic 107, 3) := by decide +kernel
theorem dX5_note_13 : decode cX5_note 13 = .ok (.ifCond .eq 15, 3) := by decide +kernel
theorem dX5_note_16 : decode cX5_note 16 = .ok (.iload_n 3, 1) := by decide +kernel
theorem dX5_note_17 : decode cX5_note 17 = .ok (.invokestatic 107, 3) := by decide +kernel
theorem dX5_note_20 : decode cX5_note 20 = .ok (.ifCond .eq 8, 3) := by decide +kernel
theorem dX5_note_23 : decode cX5_note 23 = .ok (.iload_n 3, 1) := by decide +kernel
theorem dX5_note_24 : decode cX5_note 24 = .ok (.iload_n 2, 1) := by decide +kernel
theorem dX5_note_25 : decode cX5_note 25 = .ok (.if_icmp .ge 6, 3) := by decide +kernel
theorem dX5_note_28 : decode cX5_note 28 = .ok (.bipush (-2), 2) := by decide +kernel
theorem dX5_note_30 : decode cX5_note 30 = .ok (.ireturn, 1) := by decide +kernel
theorem dX5_note_31 : decode cX5_note 31 = .ok (.aload_n 0, 1) := by decide +kernel
theorem dX5_note_32 : decode cX5_note 32 = .ok (.getfield 7, 3) := by decide +kernel
theorem dX5_note_35 : decode cX5_note 35 = .ok (.iconst 4, 1) := by decide +kernel
theorem dX5_note_36 : decode cX5_note 36 = .ok (.iaload, 1) := by decide +kernel
theorem dX5_note_37 : decode cX5_note 37 = .ok (.bipush 40, 2) := by decide +kernel
theorem dX5_note_39 : decode cX5_note 39 = .ok (.if_icmp .ne 6, 3) := by decide +kernel
theorem dX5_note_42 : decode cX5_note 42 = .ok (.bipush (-4), 2) := by decide +kernel
theorem dX5_note_44 : decode cX5_note 44 = .ok (.ireturn, 1) := by decide +kernel
theorem dX5_note_45 : decode cX5_note 45 = .ok (.aload_n 0, 1) := by decide +kernel
theorem dX5_note_46 : decode cX5_note 46 = .ok (.iload_n 1, 1) := by decide +kernel
theorem dX5_note_47 : decode cX5_note 47 = .ok (.iload_n 2, 1) := by decide +kernel
theorem dX5_note_48 : decode cX5_note 48 = .ok (.iload_n 3, 1) := by decide +kernel
theorem dX5_note_49 : decode cX5_note 49 = .ok (.invokevirtual 110, 3) := by decide +kernel
theorem dX5_note_52 : decode cX5_note 52 = .ok (.ifCond .eq 6, 3) := by decide +kernel
theorem dX5_note_55 : decode cX5_note 55 = .ok (.bipush (-5), 2) := by decide +kernel
theorem dX5_note_57 : decode cX5_note 57 = .ok (.ireturn, 1) := by decide +kernel
theorem dX5_note_58 : decode cX5_note 58 = .ok (.aload_n 0, 1) := by decide +kernel
theorem dX5_note_59 : decode cX5_note 59 = .ok (.invokevirtual 101, 3) := by decide +kernel
theorem dX5_note_62 : decode cX5_note 62 = .ok (.aload_n 0, 1) := by decide +kernel
theorem dX5_note_63 : decode cX5_note 63 = .ok (.iload_n 1, 1) := by decide +kernel
theorem dX5_note_64 : decode cX5_note 64 = .ok (.iload_n 2, 1) := by decide +kernel
theorem dX5_note_65 : decode cX5_note 65 = .ok (.iload_n 3, 1) := by decide +kernel
theorem dX5_note_66 : decode cX5_note 66 = .ok (.iconst 0, 1) := by decide +kernel
theorem dX5_note_67 : decode cX5_note 67 = .ok (.iconst 0, 1) := by decide +kernel
theorem dX5_note_68 : decode cX5_note 68 = .ok (.invokevirtual 65, 3) := by decide +kernel
theorem dX5_note_71 : decode cX5_note 71 = .ok (.ireturn, 1) := by decide +kernel
set_option maxRecDepth 20000 in
theorem ggX5_drop_X5_isNote : GoodIn wsX5_drop wsX5_isNote := goodIn_r _ [6, 1, 7, 8, 5, 9, 35, 36, 37, 38, 39, 40, 41, 42, 43, 44, 45, 46, 47, 48, 49, 50] (by decide +kernel) (by decide +kernel)
set_option maxRecDepth 20000 in
theorem gX5_drop_X5_isNote : GoodIn wsX5_drop (wsV RX5 113 RX5 yX5_isNote wsX5_isNote) := goodIn_app (goodIn_of _ (by decide +kernel)) ggX5_drop_X5_isNote
set_option maxRecDepth 20000 in
theorem ggX5_drop_X5_record : GoodIn wsX5_drop wsX5_record := goodIn_r _ [13, 14, 15, 1, 16, 17, 5, 18, 35, 36, 37, 38, 39, 40, 41, 42, 43, 44, 45, 46, 47, 48, 49, 50] (by decide +kernel) (by decide +kernel)
set_option maxRecDepth 20000 in
theorem gX5_drop_X5_record : GoodIn wsX5_drop (wsV RX5 101 RX5 yX5_record wsX5_record) := goodIn_app (goodIn_of _ (by decide +kernel)) ggX5_drop_X5_record
set_option maxRecDepth 20000 in
theorem ggX5_drop_X5_takeOut : GoodIn wsX5_drop wsX5_takeOut := goodIn_r _ [22, 1, 23, 24, 25, 5, 26, 27, 28, 29, 30, 31, 32, 33, 34, 35, 36, 37, 38, 39, 40, 41, 42, 43, 44, 45, 46, 47, 48, 49, 50] (by decide +kernel) (by decide +kernel)
set_option maxRecDepth 20000 in
theorem gX5_drop_X5_takeOut : GoodIn wsX5_drop (wsV RX5 116 RX5 yX5_takeOut wsX5_takeOut) := goodIn_app (goodIn_of _ (by decide +kernel)) ggX5_drop_X5_takeOut
theorem dX5_drop_0 : decode cX5_drop 0 = .ok (.aload_n 0, 1) := by decide +kernel
theorem dX5_drop_1 : decode cX5_drop 1 = .ok (.iload_n 1, 1) := by decide +kernel
theorem dX5_drop_2 : decode cX5_drop 2 = .ok (.invokevirtual 113, 3) := by decide +kernel
theorem dX5_drop_5 : decode cX5_drop 5 = .ok (.ifCond .ne 5, 3) := by decide +kernel
theorem dX5_drop_8 : decode cX5_drop 8 = .ok (.iconst (-1), 1) := by decide +kernel
theorem dX5_drop_9 : decode cX5_drop 9 = .ok (.ireturn, 1) := by decide +kernel
theorem dX5_drop_10 : decode cX5_drop 10 = .ok (.aload_n 0, 1) := by decide +kernel
theorem dX5_drop_11 : decode cX5_drop 11 = .ok (.invokevirtual 101, 3) := by decide +kernel
theorem dX5_drop_14 : decode cX5_drop 14 = .ok (.aload_n 0, 1) := by decide +kernel
theorem dX5_drop_15 : decode cX5_drop 15 = .ok (.iload_n 1, 1) := by decide +kernel
theorem dX5_drop_16 : decode cX5_drop 16 = .ok (.invokevirtual 116, 3) := by decide +kernel
theorem dX5_drop_19 : decode cX5_drop 19 = .ok (.aload_n 0, 1) := by decide +kernel
theorem dX5_drop_20 : decode cX5_drop 20 = .ok (.getfield 7, 3) := by decide +kernel
theorem dX5_drop_23 : decode cX5_drop 23 = .ok (.iconst 4, 1) := by decide +kernel
theorem dX5_drop_24 : decode cX5_drop 24 = .ok (.iaload, 1) := by decide +kernel
theorem dX5_drop_25 : decode cX5_drop 25 = .ok (.ireturn, 1) := by decide +kernel
set_option maxRecDepth 20000 in
theorem ggX5_shift_X5_isNote : GoodIn wsX5_shift wsX5_isNote := goodIn_r _ [5, 6, 7, 8, 4, 9, 27, 28, 29, 30, 31, 32, 33, 34, 35, 36, 37, 38, 39, 40, 41, 42] (by decide +kernel) (by decide +kernel)
set_option maxRecDepth 20000 in
theorem gX5_shift_X5_isNote : GoodIn wsX5_shift (wsV RX5 113 RX5 yX5_isNote wsX5_isNote) := goodIn_app (goodIn_of _ (by decide +kernel)) ggX5_shift_X5_isNote
set_option maxRecDepth 20000 in
theorem ggX5_shift_X5_within : GoodIn wsX5_shift wsX5_within := goodIn_r _ [9] (by decide +kernel) (by decide +kernel)
set_option maxRecDepth 20000 in
theorem gX5_shift_X5_within : GoodIn wsX5_shift (va_wsS RX5 45 yX5_within wsX5_within) := goodIn_app (goodIn_of _ (by decide +kernel)) ggX5_shift_X5_within
set_option maxRecDepth 20000 in
theorem ggX5_shift_X5_record : GoodIn wsX5_shift wsX5_record := goodIn_r _ [13, 14, 15, 6, 16, 17, 4, 18, 27, 28, 29, 30, 31, 32, 33, 34, 35, 36, 37, 38, 39, 40, 41, 42] (by decide +kernel) (by decide +kernel)
set_option maxRecDepth 20000 in
theorem gX5_shift_X5_record : GoodIn wsX5_shift (wsV RX5 101 RX5 yX5_record wsX5_record) := goodIn_app (goodIn_of _ (by decide +kernel)) ggX5_shift_X5_record
set_option maxRecDepth 20000 in
theorem ggX5_shift_X5_part : GoodIn wsX5_shift wsX5_part := goodIn_r _ [22, 6, 27, 28, 29, 30, 31, 32, 33, 34, 35, 36, 37, 38, 39, 40, 41, 42] (by decide +kernel) (by decide +kernel)
set_option maxRecDepth 20000 in
theorem gX5_shift_X5_part : GoodIn wsX5_shift (wsV RX5 49 RX5 yX5_part wsX5_part) := goodIn_app (goodIn_of _ (by decide +kernel)) ggX5_shift_X5_part
set_option maxRecDepth 20000 in
theorem ggX5_shift_X5_setPart : GoodIn wsX5_shift wsX5_setPart := goodIn_r _ [26, 6, 27, 28, 29, 30, 31, 32, 33, 34, 35, 36, 37, 38, 39, 40, 41, 42] (by decide +kernel) (by decide +kernel)
set_option maxRecDepth 20000 in
theorem gX5_shift_X5_setPart : GoodIn wsX5_shift (wsV RX5 53 RX5 yX5_setPart wsX5_setPart) := goodIn_app (goodIn_of _ (by decide +kernel)) ggX5_shift_X5_setPart
theorem dX5_shift_0 : decode cX5_shift 0 = .ok (.aload_n 0, 1) := by decide +kernel
theorem dX5_shift_1 : decode cX5_shift 1 = .ok (.iload_n 1, 1) := by decide +kernel
theorem dX5_shift_2 : decode cX5_shift 2 = .ok (.invokevirtual 113, 3) := by decide +kernel
theorem dX5_shift_5 : decode cX5_shift 5 = .ok (.ifCond .eq 13, 3) := by decide +kernel
theorem dX5_shift_8 : decode cX5_shift 8 = .ok (.iload_n 2, 1) := by decide +kernel
theorem dX5_shift_9 : decode cX5_shift 9 = .ok (.iconst 0, 1) := by decide +kernel
theorem dX5_shift_10 : decode cX5_shift 10 = .ok (.bipush 12, 2) := by decide +kernel
theorem dX5_shift_12 : decode cX5_shift 12 = .ok (.invokestatic 45, 3) := by decide +kernel
theorem dX5_shift_15 : decode cX5_shift 15 = .ok (.ifCond .ne 18, 3) := by decide +kernel
theorem dX5_shift_18 : decode cX5_shift 18 = .ok (.aload_n 0, 1) := by decide +kernel
theorem dX5_shift_19 : decode cX5_shift 19 = .ok (.iload_n 1, 1) := by decide +kernel
theorem dX5_shift_20 : decode cX5_shift 20 = .ok (.invokevirtual 113, 3) := by decide +kernel
theorem dX5_shift_23 : decode cX5_shift 23 = .ok (.ifCond .eq 8, 3) := by decide +kernel
theorem dX5_shift_26 : decode cX5_shift 26 = .ok (.bipush (-2), 2) := by decide +kernel
theorem dX5_shift_28 : decode cX5_shift 28 = .ok (.goto 4, 3) := by decide +kernel
theorem dX5_shift_31 : decode cX5_shift 31 = .ok (.iconst (-1), 1) := by decide +kernel
theorem dX5_shift_32 : decode cX5_shift 32 = .ok (.ireturn, 1) := by decide +kernel
theorem dX5_shift_33 : decode cX5_shift 33 = .ok (.aload_n 0, 1) := by decide +kernel
theorem dX5_shift_34 : decode cX5_shift 34 = .ok (.invokevirtual 101, 3) := by decide +kernel
theorem dX5_shift_37 : decode cX5_shift 37 = .ok (.aload_n 0, 1) := by decide +kernel
theorem dX5_shift_38 : decode cX5_shift 38 = .ok (.iload_n 1, 1) := by decide +kernel
theorem dX5_shift_39 : decode cX5_shift 39 = .ok (.iconst 3, 1) := by decide +kernel
theorem dX5_shift_40 : decode cX5_shift 40 = .ok (.invokevirtual 49, 3) := by decide +kernel
theorem dX5_shift_43 : decode cX5_shift 43 = .ok (.istore_n 3, 1) := by decide +kernel
theorem dX5_shift_44 : decode cX5_shift 44 = .ok (.aload_n 0, 1) := by decide +kernel
theorem dX5_shift_45 : decode cX5_shift 45 = .ok (.iload_n 1, 1) := by decide +kernel
theorem dX5_shift_46 : decode cX5_shift 46 = .ok (.iconst 3, 1) := by decide +kernel
theorem dX5_shift_47 : decode cX5_shift 47 = .ok (.iload_n 2, 1) := by decide +kernel
theorem dX5_shift_48 : decode cX5_shift 48 = .ok (.invokevirtual 53, 3) := by decide +kernel
theorem dX5_shift_51 : decode cX5_shift 51 = .ok (.iload_n 3, 1) := by decide +kernel
theorem dX5_shift_52 : decode cX5_shift 52 = .ok (.ireturn, 1) := by decide +kernel
set_option maxRecDepth 20000 in
theorem ggX5_accent_X5_isNote : GoodIn wsX5_accent wsX5_isNote := goodIn_r _ [5, 6, 7, 8, 4, 9, 27, 28, 29, 30, 31, 32, 33, 34, 35, 36, 37, 38, 39, 40, 41, 42] (by decide +kernel) (by decide +kernel)
set_option maxRecDepth 20000 in
theorem gX5_accent_X5_isNote : GoodIn wsX5_accent (wsV RX5 113 RX5 yX5_isNote wsX5_isNote) := goodIn_app (goodIn_of _ (by decide +kernel)) ggX5_accent_X5_isNote
set_option maxRecDepth 20000 in
theorem ggX5_accent_X5_record : GoodIn wsX5_accent wsX5_record := goodIn_r _ [13, 14, 15, 6, 16, 17, 4, 18, 27, 28, 29, 30, 31, 32, 33, 34, 35, 36, 37, 38, 39, 40, 41, 42] (by decide +kernel) (by decide +kernel)
set_option maxRecDepth 20000 in
theorem gX5_accent_X5_record : GoodIn wsX5_accent (wsV RX5 101 RX5 yX5_record wsX5_record) := goodIn_app (goodIn_of _ (by decide +kernel)) ggX5_accent_X5_record
set_option maxRecDepth 20000 in
theorem ggX5_accent_X5_part : GoodIn wsX5_accent wsX5_part := goodIn_r _ [22, 6, 27, 28, 29, 30, 31, 32, 33, 34, 35, 36, 37, 38, 39, 40, 41, 42] (by decide +kernel) (by decide +kernel)
set_option maxRecDepth 20000 in
theorem gX5_accent_X5_part : GoodIn wsX5_accent (wsV RX5 49 RX5 yX5_part wsX5_part) := goodIn_app (goodIn_of _ (by decide +kernel)) ggX5_accent_X5_part
set_option maxRecDepth 20000 in
theorem ggX5_accent_X5_setPart : GoodIn wsX5_accent wsX5_setPart := goodIn_r _ [26, 6, 27, 28, 29, 30, 31, 32, 33, 34, 35, 36, 37, 38, 39, 40, 41, 42] (by decide +kernel) (by decide +kernel)
set_option maxRecDepth 20000 in
theorem gX5_accent_X5_setPart : GoodIn wsX5_accent (wsV RX5 53 RX5 yX5_setPart wsX5_setPart) := goodIn_app (goodIn_of _ (by decide +kernel)) ggX5_accent_X5_setPart
theorem dX5_accent_0 : decode cX5_accent 0 = .ok (.aload_n 0, 1) := by decide +kernel
theorem dX5_accent_1 : decode cX5_accent 1 = .ok (.iload_n 1, 1) := by decide +kernel
theorem dX5_accent_2 : decode cX5_accent 2 = .ok (.invokevirtual 113, 3) := by decide +kernel
theorem dX5_accent_5 : decode cX5_accent 5 = .ok (.ifCond .ne 5, 3) := by decide +kernel
theorem dX5_accent_8 : decode cX5_accent 8 = .ok (.iconst (-1), 1) := by decide +kernel
theorem dX5_accent_9 : decode cX5_accent 9 = .ok (.ireturn, 1) := by decide +kernel
theorem dX5_accent_10 : decode cX5_accent 10 = .ok (.aload_n 0, 1) := by decide +kernel
theorem dX5_accent_11 : decode cX5_accent 11 = .ok (.invokevirtual 101, 3) := by decide +kernel
theorem dX5_accent_14 : decode cX5_accent 14 = .ok (.aload_n 0, 1) := by decide +kernel
theorem dX5_accent_15 : decode cX5_accent 15 = .ok (.iload_n 1, 1) := by decide +kernel
theorem dX5_accent_16 : decode cX5_accent 16 = .ok (.iconst 4, 1) := by decide +kernel
theorem dX5_accent_17 : decode cX5_accent 17 = .ok (.invokevirtual 49, 3) := by decide +kernel
theorem dX5_accent_20 : decode cX5_accent 20 = .ok (.istore_n 3, 1) := by decide +kernel
theorem dX5_accent_21 : decode cX5_accent 21 = .ok (.aload_n 0, 1) := by decide +kernel
theorem dX5_accent_22 : decode cX5_accent 22 = .ok (.iload_n 1, 1) := by decide +kernel
theorem dX5_accent_23 : decode cX5_accent 23 = .ok (.iconst 4, 1) := by decide +kernel
theorem dX5_accent_24 : decode cX5_accent 24 = .ok (.iload_n 2, 1) := by decide +kernel
theorem dX5_accent_25 : decode cX5_accent 25 = .ok (.ifCond .eq 7, 3) := by decide +kernel
theorem dX5_accent_28 : decode cX5_accent 28 = .ok (.iconst 1, 1) := by decide +kernel
theorem dX5_accent_29 : decode cX5_accent 29 = .ok (.goto 4, 3) := by decide +kernel
theorem dX5_accent_32 : decode cX5_accent 32 = .ok (.iconst 0, 1) := by decide +kernel
theorem dX5_accent_33 : decode cX5_accent 33 = .ok (.invokevirtual 53, 3) := by decide +kernel
theorem dX5_accent_36 : decode cX5_accent 36 = .ok (.iload_n 3, 1) := by decide +kernel
theorem dX5_accent_37 : decode cX5_accent 37 = .ok (.ireturn, 1) := by decide +kernel
set_option maxRecDepth 20000 in
theorem ggX5_insert_X5_isStep : GoodIn wsX5_insert wsX5_isStep := goodIn_r _ [5, 6, 7, 4, 8] (by decide +kernel) (by decide +kernel)
set_option maxRecDepth 20000 in
theorem gX5_insert_X5_isStep : GoodIn wsX5_insert (va_wsS RX5 107 yX5_isStep wsX5_isStep) := goodIn_app (goodIn_of _ (by decide +kernel)) ggX5_insert_X5_isStep
set_option maxRecDepth 20000 in
theorem ggX5_insert_X5_within : GoodIn wsX5_insert wsX5_within := goodIn_r _ [8] (by decide +kernel) (by decide +kernel)
set_option maxRecDepth 20000 in
theorem gX5_insert_X5_within : GoodIn wsX5_insert (va_wsS RX5 45 yX5_within wsX5_within) := goodIn_app (goodIn_of _ (by decide +kernel)) ggX5_insert_X5_within
set_option maxRecDepth 20000 in
theorem ggX5_insert_X5_part : GoodIn wsX5_insert wsX5_part := goodIn_r _ [12, 1, 26, 27, 28, 29, 30, 31, 32, 33, 34, 35, 36, 37, 38, 39, 40, 41] (by decide +kernel) (by decide +kernel)
set_option maxRecDepth 20000 in
theorem gX5_insert_X5_part : GoodIn wsX5_insert (wsV RX5 49 RX5 yX5_part wsX5_part) := goodIn_app (goodIn_of _ (by decide +kernel)) ggX5_insert_X5_part
set_option maxRecDepth 20000 in
theorem ggX5_insert_X5_record : GoodIn wsX5_insert wsX5_record := goodIn_r _ [16, 17, 18, 1, 19, 20, 4, 21, 26, 27, 28, 29, 30, 31, 32, 33, 34, 35, 36, 37, 38, 39, 40, 41] (by decide +kernel) (by decide +kernel)
set_option maxRecDepth 20000 in
theorem gX5_insert_X5_record : GoodIn wsX5_insert (wsV RX5 101 RX5 yX5_record wsX5_record) := goodIn_app (goodIn_of _ (by decide +kernel)) ggX5_insert_X5_record
set_option maxRecDepth 20000 in
theorem ggX5_insert_X5_setPart : GoodIn wsX5_insert wsX5_setPart := goodIn_r _ [25, 1, 26, 27, 28, 29, 30, 31, 32, 33, 34, 35, 36, 37, 38, 39, 40, 41] (by decide +kernel) (by decide +kernel)
set_option maxRecDepth 20000 in
theorem gX5_insert_X5_setPart : GoodIn wsX5_insert (wsV RX5 53 RX5 yX5_setPart wsX5_setPart) := goodIn_app (goodIn_of _ (by decide +kernel)) ggX5_insert_X5_setPart
theorem dX5_insert_0 : decode cX5_insert 0 = .ok (.iload_n 1, 1) := by decide +kernel
theorem dX5_insert_1 : decode cX5_insert 1 = .ok (.invokestatic 107, 3) := by decide +kernel
theorem dX5_insert_4 : decode cX5_insert 4 = .ok (.ifCond .eq 13, 3) := by decide +kernel
theorem dX5_insert_7 : decode cX5_insert 7 = .ok (.iload_n 2, 1) := by decide +kernel
theorem dX5_insert_8 : decode cX5_insert 8 = .ok (.iconst 1, 1) := by decide +kernel
theorem dX5_insert_9 : decode cX5_insert 9 = .ok (.bipush 50, 2) := by decide +kernel
theorem dX5_insert_11 : decode cX5_insert 11 = .ok (.invokestatic 45, 3) := by decide +kernel
theorem dX5_insert_14 : decode cX5_insert 14 = .ok (.ifCond .ne 6, 3) := by decide +kernel
theorem dX5_insert_17 : decode cX5_insert 17 = .ok (.bipush (-2), 2) := by decide +kernel
theorem dX5_insert_19 : decode cX5_insert 19 = .ok (.ireturn, 1) := by decide +kernel
theorem dX5_insert_20 : decode cX5_insert 20 = .ok (.iconst 0, 1) := by decide +kernel
theorem dX5_insert_21 : decode cX5_insert 21 = .ok (.istore_n 3, 1) := by decide +kernel
theorem dX5_insert_22 : decode cX5_insert 22 = .ok (.iload_n 3, 1) := by decide +kernel
theorem dX5_insert_23 : decode cX5_insert 23 = .ok (.aload_n 0, 1) := by decide +kernel
theorem dX5_insert_24 : decode cX5_insert 24 = .ok (.getfield 7, 3) := by decide +kernel
theorem dX5_insert_27 : decode cX5_insert 27 = .ok (.iconst 4, 1) := by decide +kernel
theorem dX5_insert_28 : decode cX5_insert 28 = .ok (.iaload, 1) := by decide +kernel
theorem dX5_insert_29 : decode cX5_insert 29 = .ok (.if_icmp .ge 35, 3) := by decide +kernel
theorem dX5_insert_32 : decode cX5_insert 32 = .ok (.aload_n 0, 1) := by decide +kernel
theorem dX5_insert_33 : decode cX5_insert 33 = .ok (.iload_n 3, 1) := by decide +kernel
theorem dX5_insert_34 : decode cX5_insert 34 = .ok (.iconst 2, 1) := by decide +kernel
theorem dX5_insert_35 : decode cX5_insert 35 = .ok (.invokevirtual 49, 3) := by decide +kernel
theorem dX5_insert_38 : decode cX5_insert 38 = .ok (.iload_n 1, 1) := by decide +kernel
theorem dX5_insert_39 : decode cX5_insert 39 = .ok (.if_icmp .lt 19, 3) := by decide +kernel
theorem dX5_insert_42 : decode cX5_insert 42 = .ok (.aload_n 0, 1) := by decide +kernel
theorem dX5_insert_43 : decode cX5_insert 43 = .ok (.iload_n 3, 1) := by decide +kernel
theorem dX5_insert_44 : decode cX5_insert 44 = .ok (.iconst 2, 1) := by decide +kernel
theorem dX5_insert_45 : decode cX5_insert 45 = .ok (.invokevirtual 49, 3) := by decide +kernel
theorem dX5_insert_48 : decode cX5_insert 48 = .ok (.iload_n 2, 1) := by decide +kernel
theorem dX5_insert_49 : decode cX5_insert 49 = .ok (.iadd, 1) := by decide +kernel
theorem dX5_insert_50 : decode cX5_insert 50 = .ok (.bipush 100, 2) := by decide +kernel
theorem dX5_insert_52 : decode cX5_insert 52 = .ok (.if_icmp .lt 6, 3) := by decide +kernel
theorem dX5_insert_55 : decode cX5_insert 55 = .ok (.bipush (-5), 2) := by decide +kernel
theorem dX5_insert_57 : decode cX5_insert 57 = .ok (.ireturn, 1) := by decide +kernel
theorem dX5_insert_58 : decode cX5_insert 58 = .ok (.iinc 3 1, 3) := by decide +kernel
theorem dX5_insert_61 : decode cX5_insert 61 = .ok (.goto (-39), 3) := by decide +kernel
theorem dX5_insert_64 : decode cX5_insert 64 = .ok (.aload_n 0, 1) := by decide +kernel
theorem dX5_insert_65 : decode cX5_insert 65 = .ok (.invokevirtual 101, 3) := by decide +kernel
theorem dX5_insert_68 : decode cX5_insert 68 = .ok (.iconst 0, 1) := by decide +kernel
theorem dX5_insert_69 : decode cX5_insert 69 = .ok (.istore_n 3, 1) := by decide +kernel
theorem dX5_insert_70 : decode cX5_insert 70 = .ok (.iconst 0, 1) := by decide +kernel
theorem dX5_insert_71 : decode cX5_insert 71 = .ok (.istore 4, 2) := by decide +kernel
theorem dX5_insert_73 : decode cX5_insert 73 = .ok (.iload 4, 2) := by decide +kernel
theorem dX5_insert_75 : decode cX5_insert 75 = .ok (.aload_n 0, 1) := by decide +kernel
theorem dX5_insert_76 : decode cX5_insert 76 = .ok (.getfield 7, 3) := by decide +kernel
theorem dX5_insert_79 : decode cX5_insert 79 = .ok (.iconst 4, 1) := by decide +kernel
theorem dX5_insert_80 : decode cX5_insert 80 = .ok (.iaload, 1) := by decide +kernel
theorem dX5_insert_81 : decode cX5_insert 81 = .ok (.if_icmp .ge 118, 3) := by decide +kernel
theorem dX5_insert_84 : decode cX5_insert 84 = .ok (.aload_n 0, 1) := by decide +kernel
theorem dX5_insert_85 : decode cX5_insert 85 = .ok (.iload 4, 2) := by decide +kernel
theorem dX5_insert_87 : decode cX5_insert 87 = .ok (.iconst 1, 1) := by decide +kernel
theorem dX5_insert_88 : decode cX5_insert 88 = .ok (.invokevirtual 49, 3) := by decide +kernel
theorem dX5_insert_91 : decode cX5_insert 91 = .ok (.iload_n 1, 1) := by decide +kernel
theorem dX5_insert_92 : decode cX5_insert 92 = .ok (.if_icmp .lt 7, 3) := by decide +kernel
theorem dX5_insert_95 : decode cX5_insert 95 = .ok (.iconst 1, 1) := by decide +kernel
theorem dX5_insert_96 : decode cX5_insert 96 = .ok (.goto 4, 3) := by decide +kernel
theorem dX5_insert_99 : decode cX5_insert 99 = .ok (.iconst 0, 1) := by decide +kernel
theorem dX5_insert_100 : decode cX5_insert 100 = .ok (.istore 5, 2) := by decide +kernel
theorem dX5_insert_102 : decode cX5_insert 102 = .ok (.iload 5, 2) := by decide +kernel
theorem dX5_insert_104 : decode cX5_insert 104 = .ok (.ifCond .ne 18, 3) := by decide +kernel
theorem dX5_insert_107 : decode cX5_insert 107 = .ok (.aload_n 0, 1) := by decide +kernel
theorem dX5_insert_108 : decode cX5_insert 108 = .ok (.iload 4, 2) := by decide +kernel
theorem dX5_insert_110 : decode cX5_insert 110 = .ok (.iconst 2, 1) := by decide +kernel
theorem dX5_insert_111 : decode cX5_insert 111 = .ok (.invokevirtual 49, 3) := by decide +kernel
theorem dX5_insert_114 : decode cX5_insert 114 = .ok (.iload_n 1, 1) := by decide +kernel
theorem dX5_insert_115 : decode cX5_insert 115 = .ok (.if_icmp .lt 7, 3) := by decide +kernel
theorem dX5_insert_118 : decode cX5_insert 118 = .ok (.iconst 1, 1) := by decide +kernel
theorem dX5_insert_119 : decode cX5_insert 119 = .ok (.goto 4, 3) := by decide +kernel
theorem dX5_insert_122 : decode cX5_insert 122 = .ok (.iconst 0, 1) := by decide +kernel
theorem dX5_insert_123 : decode cX5_insert 123 = .ok (.istore 6, 2) := by decide +kernel
theorem dX5_insert_125 : decode cX5_insert 125 = .ok (.iload_n 3, 1) := by decide +kernel
theorem dX5_insert_126 : decode cX5_insert 126 = .ok (.iload 6, 2) := by decide +kernel
theorem dX5_insert_128 : decode cX5_insert 128 = .ok (.ifCond .eq 7, 3) := by decide +kernel
theorem dX5_insert_131 : decode cX5_insert 131 = .ok (.iconst 1, 1) := by decide +kernel
theorem dX5_insert_132 : decode cX5_insert 132 = .ok (.goto 4, 3) := by decide +kernel
theorem dX5_insert_135 : decode cX5_insert 135 = .ok (.iconst 0, 1) := by decide +kernel
theorem dX5_insert_136 : decode cX5_insert 136 = .ok (.iadd, 1) := by decide +kernel
theorem dX5_insert_137 : decode cX5_insert 137 = .ok (.istore_n 3, 1) := by decide +kernel
theorem dX5_insert_138 : decode cX5_insert 138 = .ok (.aload_n 0, 1) := by decide +kernel
theorem dX5_insert_139 : decode cX5_insert 139 = .ok (.iload 4, 2) := by decide +kernel
theorem dX5_insert_141 : decode cX5_insert 141 = .ok (.iconst 1, 1) := by decide +kernel
theorem dX5_insert_142 : decode cX5_insert 142 = .ok (.aload_n 0, 1) := by decide +kernel
theorem dX5_insert_143 : decode cX5_insert 143 = .ok (.iload 4, 2) := by decide +kernel
theorem dX5_insert_145 : decode cX5_insert 145 = .ok (.iconst 1, 1) := by decide +kernel
theorem dX5_insert_146 : decode cX5_insert 146 = .ok (.invokevirtual 49, 3) := by decide +kernel
theorem dX5_insert_149 : decode cX5_insert 149 = .ok (.iload 5, 2) := by decide +kernel
