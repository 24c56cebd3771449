theorem dX5_insert_151 : decode cX5_insert 151 = .ok (.ifCond .eq 7, 3) := by decide +kernel
theorem dX5_insert_154 : decode cX5_insert 154 = .ok (.iload_n 2, 1) := by decide +kernel
theorem dX5_insert_155 : decode cX5_insert 155 = .ok (.goto 4, 3) := by decide +kernel
theorem dX5_insert_158 : decode cX5_insert 158 = .ok (.iconst 0, 1) := by decide +kernel
theorem dX5_insert_159 : decode cX5_insert 159 = .ok (.iadd, 1) := by decide +kernel
theorem dX5_insert_160 : decode cX5_insert 160 = .ok (.invokevirtual 53, 3) := by decide +kernel
theorem dX5_insert_163 : decode cX5_insert 163 = .ok (.aload_n 0, 1) := by decide +kernel
theorem dX5_insert_164 : decode cX5_insert 164 = .ok (.iload 4, 2) := by decide +kernel
theorem dX5_insert_166 : decode cX5_insert 166 = .ok (.iconst 2, 1) := by decide +kernel
theorem dX5_insert_167 : decode cX5_insert 167 = .ok (.aload_n 0, 1) := by decide +kernel
theorem dX5_insert_168 : decode cX5_insert 168 = .ok (.iload 4, 2) := by decide +kernel
theorem dX5_insert_170 : decode cX5_insert 170 = .ok (.iconst 2, 1) := by decide +kernel
theorem dX5_insert_171 : decode cX5_insert 171 = .ok (.invokevirtual 49, 3) := by decide +kernel
theorem dX5_insert_174 : decode cX5_insert 174 = .ok (.iload 5, 2) := by decide +kernel
theorem dX5_insert_176 : decode cX5_insert 176 = .ok (.ifCond .ne 8, 3) := by decide +kernel
theorem dX5_insert_179 : decode cX5_insert 179 = .ok (.iload 6, 2) := by decide +kernel
theorem dX5_insert_181 : decode cX5_insert 181 = .ok (.ifCond .eq 7, 3) := by decide +kernel
theorem dX5_insert_184 : decode cX5_insert 184 = .ok (.iload_n 2, 1) := by decide +kernel
theorem dX5_insert_185 : decode cX5_insert 185 = .ok (.goto 4, 3) := by decide +kernel
theorem dX5_insert_188 : decode cX5_insert 188 = .ok (.iconst 0, 1) := by decide +kernel
theorem dX5_insert_189 : decode cX5_insert 189 = .ok (.iadd, 1) := by decide +kernel
theorem dX5_insert_190 : decode cX5_insert 190 = .ok (.invokevirtual 53, 3) := by decide +kernel
theorem dX5_insert_193 : decode cX5_insert 193 = .ok (.iinc 4 1, 3) := by decide +kernel
theorem dX5_insert_196 : decode cX5_insert 196 = .ok (.goto (-123), 3) := by decide +kernel
theorem dX5_insert_199 : decode cX5_insert 199 = .ok (.iload_n 3, 1) := by decide +kernel
theorem dX5_insert_200 : decode cX5_insert 200 = .ok (.ireturn, 1) := by decide +kernel
theorem dX5_firstBy_0 : decode cX5_firstBy 0 = .ok (.iload_n 0, 1) := by decide +kernel
theorem dX5_firstBy_1 : decode cX5_firstBy 1 = .ok (.iload_n 1, 1) := by decide +kernel
theorem dX5_firstBy_2 : decode cX5_firstBy 2 = .ok (.if_icmp .ge 7, 3) := by decide +kernel
theorem dX5_firstBy_5 : decode cX5_firstBy 5 = .ok (.iload_n 0, 1) := by decide +kernel
theorem dX5_firstBy_6 : decode cX5_firstBy 6 = .ok (.goto 17, 3) := by decide +kernel
theorem dX5_firstBy_9 : decode cX5_firstBy 9 = .ok (.iload_n 0, 1) := by decide +kernel
theorem dX5_firstBy_10 : decode cX5_firstBy 10 = .ok (.iload_n 1, 1) := by decide +kernel
theorem dX5_firstBy_11 : decode cX5_firstBy 11 = .ok (.iload_n 2, 1) := by decide +kernel
theorem dX5_firstBy_12 : decode cX5_firstBy 12 = .ok (.iadd, 1) := by decide +kernel
theorem dX5_firstBy_13 : decode cX5_firstBy 13 = .ok (.if_icmp .ge 7, 3) := by decide +kernel
theorem dX5_firstBy_16 : decode cX5_firstBy 16 = .ok (.iload_n 1, 1) := by decide +kernel
theorem dX5_firstBy_17 : decode cX5_firstBy 17 = .ok (.goto 6, 3) := by decide +kernel
theorem dX5_firstBy_20 : decode cX5_firstBy 20 = .ok (.iload_n 0, 1) := by decide +kernel
theorem dX5_firstBy_21 : decode cX5_firstBy 21 = .ok (.iload_n 2, 1) := by decide +kernel
theorem dX5_firstBy_22 : decode cX5_firstBy 22 = .ok (.isub, 1) := by decide +kernel
theorem dX5_firstBy_23 : decode cX5_firstBy 23 = .ok (.ireturn, 1) := by decide +kernel
theorem dX5_lastBy_0 : decode cX5_lastBy 0 = .ok (.iload_n 0, 1) := by decide +kernel
theorem dX5_lastBy_1 : decode cX5_lastBy 1 = .ok (.iload_n 1, 1) := by decide +kernel
theorem dX5_lastBy_2 : decode cX5_lastBy 2 = .ok (.if_icmp .ge 7, 3) := by decide +kernel
theorem dX5_lastBy_5 : decode cX5_lastBy 5 = .ok (.iload_n 0, 1) := by decide +kernel
theorem dX5_lastBy_6 : decode cX5_lastBy 6 = .ok (.goto 19, 3) := by decide +kernel
theorem dX5_lastBy_9 : decode cX5_lastBy 9 = .ok (.iload_n 0, 1) := by decide +kernel
theorem dX5_lastBy_10 : decode cX5_lastBy 10 = .ok (.iload_n 1, 1) := by decide +kernel
theorem dX5_lastBy_11 : decode cX5_lastBy 11 = .ok (.iload_n 2, 1) := by decide +kernel
theorem dX5_lastBy_12 : decode cX5_lastBy 12 = .ok (.iadd, 1) := by decide +kernel
theorem dX5_lastBy_13 : decode cX5_lastBy 13 = .ok (.if_icmp .ge 9, 3) := by decide +kernel
theorem dX5_lastBy_16 : decode cX5_lastBy 16 = .ok (.iload_n 1, 1) := by decide +kernel
theorem dX5_lastBy_17 : decode cX5_lastBy 17 = .ok (.iconst 1, 1) := by decide +kernel
theorem dX5_lastBy_18 : decode cX5_lastBy 18 = .ok (.isub, 1) := by decide +kernel
theorem dX5_lastBy_19 : decode cX5_lastBy 19 = .ok (.goto 6, 3) := by decide +kernel
theorem dX5_lastBy_22 : decode cX5_lastBy 22 = .ok (.iload_n 0, 1) := by decide +kernel
theorem dX5_lastBy_23 : decode cX5_lastBy 23 = .ok (.iload_n 2, 1) := by decide +kernel
theorem dX5_lastBy_24 : decode cX5_lastBy 24 = .ok (.isub, 1) := by decide +kernel
theorem dX5_lastBy_25 : decode cX5_lastBy 25 = .ok (.ireturn, 1) := by decide +kernel
set_option maxRecDepth 20000 in
theorem ggX5_cut_X5_isStep : GoodIn wsX5_cut wsX5_isStep := goodIn_r _ [5, 6, 7, 4, 8] (by decide +kernel) (by decide +kernel)
set_option maxRecDepth 20000 in
theorem gX5_cut_X5_isStep : GoodIn wsX5_cut (va_wsS RX5 107 yX5_isStep wsX5_isStep) := goodIn_app (goodIn_of _ (by decide +kernel)) ggX5_cut_X5_isStep
set_option maxRecDepth 20000 in
theorem ggX5_cut_X5_within : GoodIn wsX5_cut wsX5_within := goodIn_r _ [8] (by decide +kernel) (by decide +kernel)
set_option maxRecDepth 20000 in
theorem gX5_cut_X5_within : GoodIn wsX5_cut (va_wsS RX5 45 yX5_within wsX5_within) := goodIn_app (goodIn_of _ (by decide +kernel)) ggX5_cut_X5_within
set_option maxRecDepth 20000 in
theorem ggX5_cut_X5_record : GoodIn wsX5_cut wsX5_record := goodIn_r _ [12, 13, 14, 1, 15, 16, 4, 17, 53, 54, 55, 56, 57, 58, 59, 60, 61, 62, 63, 64, 65, 66, 67, 68] (by decide +kernel) (by decide +kernel)
set_option maxRecDepth 20000 in
theorem gX5_cut_X5_record : GoodIn wsX5_cut (wsV RX5 101 RX5 yX5_record wsX5_record) := goodIn_app (goodIn_of _ (by decide +kernel)) ggX5_cut_X5_record
set_option maxRecDepth 20000 in
theorem ggX5_cut_X5_part : GoodIn wsX5_cut wsX5_part := goodIn_r _ [21, 1, 53, 54, 55, 56, 57, 58, 59, 60, 61, 62, 63, 64, 65, 66, 67, 68] (by decide +kernel) (by decide +kernel)
set_option maxRecDepth 20000 in
theorem gX5_cut_X5_part : GoodIn wsX5_cut (wsV RX5 49 RX5 yX5_part wsX5_part) := goodIn_app (goodIn_of _ (by decide +kernel)) ggX5_cut_X5_part
set_option maxRecDepth 20000 in
theorem ggX5_cut_X5_firstBy : GoodIn wsX5_cut wsX5_firstBy := goodIn_r _ [24] (by decide +kernel) (by decide +kernel)
set_option maxRecDepth 20000 in
theorem gX5_cut_X5_firstBy : GoodIn wsX5_cut (va_wsS RX5 120 yX5_firstBy wsX5_firstBy) := goodIn_app (goodIn_of _ (by decide +kernel)) ggX5_cut_X5_firstBy
set_option maxRecDepth 20000 in
theorem ggX5_cut_X5_setPart : GoodIn wsX5_cut wsX5_setPart := goodIn_r _ [28, 1, 53, 54, 55, 56, 57, 58, 59, 60, 61, 62, 63, 64, 65, 66, 67, 68] (by decide +kernel) (by decide +kernel)
set_option maxRecDepth 20000 in
theorem gX5_cut_X5_setPart : GoodIn wsX5_cut (wsV RX5 53 RX5 yX5_setPart wsX5_setPart) := goodIn_app (goodIn_of _ (by decide +kernel)) ggX5_cut_X5_setPart
set_option maxRecDepth 20000 in
theorem ggX5_cut_X5_lastBy : GoodIn wsX5_cut wsX5_lastBy := goodIn_r _ [31] (by decide +kernel) (by decide +kernel)
set_option maxRecDepth 20000 in
theorem gX5_cut_X5_lastBy : GoodIn wsX5_cut (va_wsS RX5 124 yX5_lastBy wsX5_lastBy) := goodIn_app (goodIn_of _ (by decide +kernel)) ggX5_cut_X5_lastBy
set_option maxRecDepth 20000 in
theorem ggX5_cut_X5_takeOut : GoodIn wsX5_cut wsX5_takeOut := goodIn_r _ [35, 1, 36, 37, 38, 4, 39, 18, 19, 20, 21, 25, 26, 27, 28, 53, 54, 55, 56, 57, 58, 59, 60, 61, 62, 63, 64, 65, 66, 67, 68] (by decide +kernel) (by decide +kernel)
set_option maxRecDepth 20000 in
theorem gX5_cut_X5_takeOut : GoodIn wsX5_cut (wsV RX5 116 RX5 yX5_takeOut wsX5_takeOut) := goodIn_app (goodIn_of _ (by decide +kernel)) ggX5_cut_X5_takeOut
set_option maxRecDepth 20000 in
theorem ggX5_cut_X5_putInOrder : GoodIn wsX5_cut wsX5_putInOrder := goodIn_r _ [43, 1, 44, 18, 19, 20, 4, 21, 45, 46, 47, 48, 49, 50, 51, 52, 36, 37, 38, 39, 25, 26, 27, 28, 53, 54, 55, 56, 57, 58, 59, 60, 61, 62, 63, 64, 65, 66, 67, 68] (by decide +kernel) (by decide +kernel)
set_option maxRecDepth 20000 in
theorem gX5_cut_X5_putInOrder : GoodIn wsX5_cut (wsV RX5 127 RX5 yX5_putInOrder wsX5_putInOrder) := goodIn_app (goodIn_of _ (by decide +kernel)) ggX5_cut_X5_putInOrder
theorem dX5_cut_0 : decode cX5_cut 0 = .ok (.iload_n 1, 1) := by decide +kernel
theorem dX5_cut_1 : decode cX5_cut 1 = .ok (.invokestatic 107, 3) := by decide +kernel
theorem dX5_cut_4 : decode cX5_cut 4 = .ok (.ifCond .eq 15, 3) := by decide +kernel
theorem dX5_cut_7 : decode cX5_cut 7 = .ok (.iload_n 2, 1) := by decide +kernel
theorem dX5_cut_8 : decode cX5_cut 8 = .ok (.iconst 1, 1) := by decide +kernel
theorem dX5_cut_9 : decode cX5_cut 9 = .ok (.bipush 100, 2) := by decide +kernel
theorem dX5_cut_11 : decode cX5_cut 11 = .ok (.iload_n 1, 1) := by decide +kernel
theorem dX5_cut_12 : decode cX5_cut 12 = .ok (.isub, 1) := by decide +kernel
theorem dX5_cut_13 : decode cX5_cut 13 = .ok (.invokestatic 45, 3) := by decide +kernel
theorem dX5_cut_16 : decode cX5_cut 16 = .ok (.ifCond .ne 6, 3) := by decide +kernel
theorem dX5_cut_19 : decode cX5_cut 19 = .ok (.bipush (-2), 2) := by decide +kernel
theorem dX5_cut_21 : decode cX5_cut 21 = .ok (.ireturn, 1) := by decide +kernel
theorem dX5_cut_22 : decode cX5_cut 22 = .ok (.aload_n 0, 1) := by decide +kernel
theorem dX5_cut_23 : decode cX5_cut 23 = .ok (.invokevirtual 101, 3) := by decide +kernel
theorem dX5_cut_26 : decode cX5_cut 26 = .ok (.iconst 0, 1) := by decide +kernel
theorem dX5_cut_27 : decode cX5_cut 27 = .ok (.istore_n 3, 1) := by decide +kernel
theorem dX5_cut_28 : decode cX5_cut 28 = .ok (.aload_n 0, 1) := by decide +kernel
theorem dX5_cut_29 : decode cX5_cut 29 = .ok (.getfield 7, 3) := by decide +kernel
theorem dX5_cut_32 : decode cX5_cut 32 = .ok (.iconst 4, 1) := by decide +kernel
theorem dX5_cut_33 : decode cX5_cut 33 = .ok (.iaload, 1) := by decide +kernel
theorem dX5_cut_34 : decode cX5_cut 34 = .ok (.iconst 1, 1) := by decide +kernel
theorem dX5_cut_35 : decode cX5_cut 35 = .ok (.isub, 1) := by decide +kernel
theorem dX5_cut_36 : decode cX5_cut 36 = .ok (.istore 4, 2) := by decide +kernel
theorem dX5_cut_38 : decode cX5_cut 38 = .ok (.iload 4, 2) := by decide +kernel
theorem dX5_cut_40 : decode cX5_cut 40 = .ok (.ifCond .lt 73, 3) := by decide +kernel
theorem dX5_cut_43 : decode cX5_cut 43 = .ok (.aload_n 0, 1) := by decide +kernel
theorem dX5_cut_44 : decode cX5_cut 44 = .ok (.iload 4, 2) := by decide +kernel
theorem dX5_cut_46 : decode cX5_cut 46 = .ok (.iconst 1, 1) := by decide +kernel
theorem dX5_cut_47 : decode cX5_cut 47 = .ok (.aload_n 0, 1) := by decide +kernel
theorem dX5_cut_48 : decode cX5_cut 48 = .ok (.iload 4, 2) := by decide +kernel
theorem dX5_cut_50 : decode cX5_cut 50 = .ok (.iconst 1, 1) := by decide +kernel
theorem dX5_cut_51 : decode cX5_cut 51 = .ok (.invokevirtual 49, 3) := by decide +kernel
theorem dX5_cut_54 : decode cX5_cut 54 = .ok (.iload_n 1, 1) := by decide +kernel
theorem dX5_cut_55 : decode cX5_cut 55 = .ok (.iload_n 2, 1) := by decide +kernel
theorem dX5_cut_56 : decode cX5_cut 56 = .ok (.invokestatic 120, 3) := by decide +kernel
theorem dX5_cut_59 : decode cX5_cut 59 = .ok (.invokevirtual 53, 3) := by decide +kernel
theorem dX5_cut_62 : decode cX5_cut 62 = .ok (.aload_n 0, 1) := by decide +kernel
theorem dX5_cut_63 : decode cX5_cut 63 = .ok (.iload 4, 2) := by decide +kernel
theorem dX5_cut_65 : decode cX5_cut 65 = .ok (.iconst 2, 1) := by decide +kernel
theorem dX5_cut_66 : decode cX5_cut 66 = .ok (.aload_n 0, 1) := by decide +kernel
theorem dX5_cut_67 : decode cX5_cut 67 = .ok (.iload 4, 2) := by decide +kernel
theorem dX5_cut_69 : decode cX5_cut 69 = .ok (.iconst 2, 1) := by decide +kernel
theorem dX5_cut_70 : decode cX5_cut 70 = .ok (.invokevirtual 49, 3) := by decide +kernel
theorem dX5_cut_73 : decode cX5_cut 73 = .ok (.iload_n 1, 1) := by decide +kernel
theorem dX5_cut_74 : decode cX5_cut 74 = .ok (.iload_n 2, 1) := by decide +kernel
theorem dX5_cut_75 : decode cX5_cut 75 = .ok (.invokestatic 124, 3) := by decide +kernel
theorem dX5_cut_78 : decode cX5_cut 78 = .ok (.invokevirtual 53, 3) := by decide +kernel
theorem dX5_cut_81 : decode cX5_cut 81 = .ok (.aload_n 0, 1) := by decide +kernel
theorem dX5_cut_82 : decode cX5_cut 82 = .ok (.iload 4, 2) := by decide +kernel
theorem dX5_cut_84 : decode cX5_cut 84 = .ok (.iconst 2, 1) := by decide +kernel
theorem dX5_cut_85 : decode cX5_cut 85 = .ok (.invokevirtual 49, 3) := by decide +kernel
theorem dX5_cut_88 : decode cX5_cut 88 = .ok (.aload_n 0, 1) := by decide +kernel
theorem dX5_cut_89 : decode cX5_cut 89 = .ok (.iload 4, 2) := by decide +kernel
theorem dX5_cut_91 : decode cX5_cut 91 = .ok (.iconst 1, 1) := by decide +kernel
theorem dX5_cut_92 : decode cX5_cut 92 = .ok (.invokevirtual 49, 3) := by decide +kernel
theorem dX5_cut_95 : decode cX5_cut 95 = .ok (.if_icmp .ge 12, 3) := by decide +kernel
theorem dX5_cut_98 : decode cX5_cut 98 = .ok (.aload_n 0, 1) := by decide +kernel
theorem dX5_cut_99 : decode cX5_cut 99 = .ok (.iload 4, 2) := by decide +kernel
theorem dX5_cut_101 : decode cX5_cut 101 = .ok (.invokevirtual 116, 3) := by decide +kernel
theorem dX5_cut_104 : decode cX5_cut 104 = .ok (.iinc 3 1, 3) := by decide +kernel
theorem dX5_cut_107 : decode cX5_cut 107 = .ok (.iinc 4 (-1), 3) := by decide +kernel
theorem dX5_cut_110 : decode cX5_cut 110 = .ok (.goto (-72), 3) := by decide +kernel
theorem dX5_cut_113 : decode cX5_cut 113 = .ok (.aload_n 0, 1) := by decide +kernel
theorem dX5_cut_114 : decode cX5_cut 114 = .ok (.invokevirtual 127, 3) := by decide +kernel
theorem dX5_cut_117 : decode cX5_cut 117 = .ok (.iload_n 3, 1) := by decide +kernel
theorem dX5_cut_118 : decode cX5_cut 118 = .ok (.ireturn, 1) := by decide +kernel
set_option maxRecDepth 20000 in
theorem ggX5_isBetween_X5_part : GoodIn wsX5_isBetween wsX5_part := goodIn_r _ [5, 6, 7, 8, 9, 10, 11, 12, 13, 14, 15, 16, 17, 18, 19, 20, 21, 22] (by decide +kernel) (by decide +kernel)
set_option maxRecDepth 20000 in
theorem gX5_isBetween_X5_part : GoodIn wsX5_isBetween (wsV RX5 49 RX5 yX5_part wsX5_part) := goodIn_app (goodIn_of _ (by decide +kernel)) ggX5_isBetween_X5_part
theorem dX5_isBetween_0 : decode cX5_isBetween 0 = .ok (.aload_n 0, 1) := by decide +kernel
theorem dX5_isBetween_1 : decode cX5_isBetween 1 = .ok (.iload_n 1, 1) := by decide +kernel
theorem dX5_isBetween_2 : decode cX5_isBetween 2 = .ok (.iconst 1, 1) := by decide +kernel
theorem dX5_isBetween_3 : decode cX5_isBetween 3 = .ok (.invokevirtual 49, 3) := by decide +kernel
theorem dX5_isBetween_6 : decode cX5_isBetween 6 = .ok (.iload_n 2, 1) := by decide +kernel
theorem dX5_isBetween_7 : decode cX5_isBetween 7 = .ok (.if_icmp .lt 17, 3) := by decide +kernel
theorem dX5_isBetween_10 : decode cX5_isBetween 10 = .ok (.aload_n 0, 1) := by decide +kernel
theorem dX5_isBetween_11 : decode cX5_isBetween 11 = .ok (.iload_n 1, 1) := by decide +kernel
theorem dX5_isBetween_12 : decode cX5_isBetween 12 = .ok (.iconst 2, 1) := by decide +kernel
theorem dX5_isBetween_13 : decode cX5_isBetween 13 = .ok (.invokevirtual 49, 3) := by decide +kernel
theorem dX5_isBetween_16 : decode cX5_isBetween 16 = .ok (.iload_n 3, 1) := by decide +kernel
theorem dX5_isBetween_17 : decode cX5_isBetween 17 = .ok (.if_icmp .gt 7, 3) := by decide +kernel
theorem dX5_isBetween_20 : decode cX5_isBetween 20 = .ok (.iconst 1, 1) := by decide +kernel
theorem dX5_isBetween_21 : decode cX5_isBetween 21 = .ok (.goto 4, 3) := by decide +kernel
theorem dX5_isBetween_24 : decode cX5_isBetween 24 = .ok (.iconst 0, 1) := by decide +kernel
theorem dX5_isBetween_25 : decode cX5_isBetween 25 = .ok (.ireturn, 1) := by decide +kernel
set_option maxRecDepth 20000 in
theorem ggX5_betweenMany_X5_isBetween : GoodIn wsX5_betweenMany wsX5_isBetween := goodIn_r _ [6, 7, 8, 9, 5, 10, 1, 11, 12, 13, 14, 15, 16, 17, 18, 19, 20, 21, 22, 23, 24, 25, 26] (by decide +kernel) (by decide +kernel)
set_option maxRecDepth 20000 in
theorem gX5_betweenMany_X5_isBetween : GoodIn wsX5_betweenMany (wsV RX5 130 RX5 yX5_isBetween wsX5_isBetween) := goodIn_app (goodIn_of _ (by decide +kernel)) ggX5_betweenMany_X5_isBetween
theorem dX5_betweenMany_0 : decode cX5_betweenMany 0 = .ok (.iconst 0, 1) := by decide +kernel
theorem dX5_betweenMany_1 : decode cX5_betweenMany 1 = .ok (.istore_n 3, 1) := by decide +kernel
theorem dX5_betweenMany_2 : decode cX5_betweenMany 2 = .ok (.iconst 0, 1) := by decide +kernel
theorem dX5_betweenMany_3 : decode cX5_betweenMany 3 = .ok (.istore 4, 2) := by decide +kernel
theorem dX5_betweenMany_5 : decode cX5_betweenMany 5 = .ok (.iload 4, 2) := by decide +kernel
theorem dX5_betweenMany_7 : decode cX5_betweenMany 7 = .ok (.aload_n 0, 1) := by decide +kernel
theorem dX5_betweenMany_8 : decode cX5_betweenMany 8 = .ok (.getfield 7, 3) := by decide +kernel
theorem dX5_betweenMany_11 : decode cX5_betweenMany 11 = .ok (.iconst 4, 1) := by decide +kernel
theorem dX5_betweenMany_12 : decode cX5_betweenMany 12 = .ok (.iaload, 1) := by decide +kernel
theorem dX5_betweenMany_13 : decode cX5_betweenMany 13 = .ok (.if_icmp .ge 28, 3) := by decide +kernel
theorem dX5_betweenMany_16 : decode cX5_betweenMany 16 = .ok (.iload_n 3, 1) := by decide +kernel
theorem dX5_betweenMany_17 : decode cX5_betweenMany 17 = .ok (.aload_n 0, 1) := by decide +kernel
theorem dX5_betweenMany_18 : decode cX5_betweenMany 18 = .ok (.iload 4, 2) := by decide +kernel
theorem dX5_betweenMany_20 : decode cX5_betweenMany 20 = .ok (.iload_n 1, 1) := by decide +kernel
theorem dX5_betweenMany_21 : decode cX5_betweenMany 21 = .ok (.iload_n 2, 1) := by decide +kernel
theorem dX5_betweenMany_22 : decode cX5_betweenMany 22 = .ok (.invokevirtual 130, 3) := by decide +kernel
theorem dX5_betweenMany_25 : decode cX5_betweenMany 25 = .ok (.ifCond .eq 7, 3) := by decide +kernel
theorem dX5_betweenMany_28 : decode cX5_betweenMany 28 = .ok (.iconst 1, 1) := by decide +kernel
theorem dX5_betweenMany_29 : decode cX5_betweenMany 29 = .ok (.goto 4, 3) := by decide +kernel
theorem dX5_betweenMany_32 : decode cX5_betweenMany 32 = .ok (.iconst 0, 1) := by decide +kernel
theorem dX5_betweenMany_33 : decode cX5_betweenMany 33 = .ok (.iadd, 1) := by decide +kernel
theorem dX5_betweenMany_34 : decode cX5_betweenMany 34 = .ok (.istore_n 3, 1) := by decide +kernel
theorem dX5_betweenMany_35 : decode cX5_betweenMany 35 = .ok (.iinc 4 1, 3) := by decide +kernel
theorem dX5_betweenMany_38 : decode cX5_betweenMany 38 = .ok (.goto (-33), 3) := by decide +kernel
theorem dX5_betweenMany_41 : decode cX5_betweenMany 41 = .ok (.iload_n 3, 1) := by decide +kernel
theorem dX5_betweenMany_42 : decode cX5_betweenMany 42 = .ok (.ireturn, 1) := by decide +kernel
set_option maxRecDepth 20000 in
theorem ggX5_whyNotCopied_X5_betweenMany : GoodIn wsX5_whyNotCopied wsX5_betweenMany := goodIn_r _ [6, 1, 7, 8, 9, 5, 10, 11, 12, 13, 14, 19, 20, 21, 22, 23, 24, 25, 26, 27, 28, 29, 30, 31, 32, 33, 34] (by decide +kernel) (by decide +kernel)
set_option maxRecDepth 20000 in
theorem gX5_whyNotCopied_X5_betweenMany : GoodIn wsX5_whyNotCopied (wsV RX5 133 RX5 yX5_betweenMany wsX5_betweenMany) := goodIn_app (goodIn_of _ (by decide +kernel)) ggX5_whyNotCopied_X5_betweenMany
set_option maxRecDepth 20000 in
theorem ggX5_whyNotCopied_X5_isBetween : GoodIn wsX5_whyNotCopied wsX5_isBetween := goodIn_r _ [10, 11, 12, 13, 5, 14, 1, 19, 20, 21, 22, 23, 24, 25, 26, 27, 28, 29, 30, 31, 32, 33, 34] (by decide +kernel) (by decide +kernel)
set_option maxRecDepth 20000 in
theorem gX5_whyNotCopied_X5_isBetween : GoodIn wsX5_whyNotCopied (wsV RX5 130 RX5 yX5_isBetween wsX5_isBetween) := goodIn_app (goodIn_of _ (by decide +kernel)) ggX5_whyNotCopied_X5_isBetween
set_option maxRecDepth 20000 in
theorem ggX5_whyNotCopied_X5_part : GoodIn wsX5_whyNotCopied wsX5_part := goodIn_r _ [14, 1, 19, 20, 21, 22, 23, 24, 25, 26, 27, 28, 29, 30, 31, 32, 33, 34] (by decide +kernel) (by decide +kernel)
set_option maxRecDepth 20000 in
theorem gX5_whyNotCopied_X5_part : GoodIn wsX5_whyNotCopied (wsV RX5 49 RX5 yX5_part wsX5_part) := goodIn_app (goodIn_of _ (by decide +kernel)) ggX5_whyNotCopied_X5_part
set_option maxRecDepth 20000 in
theorem ggX5_whyNotCopied_X5_isTaken : GoodIn wsX5_whyNotCopied wsX5_isTaken := goodIn_r _ [18, 1, 11, 12, 13, 5, 14, 19, 20, 21, 22, 23, 24, 25, 26, 27, 28, 29, 30, 31, 32, 33, 34] (by decide +kernel) (by decide +kernel)
set_option maxRecDepth 20000 in
theorem gX5_whyNotCopied_X5_isTaken : GoodIn wsX5_whyNotCopied (wsV RX5 110 RX5 yX5_isTaken wsX5_isTaken) := goodIn_app (goodIn_of _ (by decide +kernel)) ggX5_whyNotCopied_X5_isTaken
theorem dX5_whyNotCopied_0 : decode cX5_whyNotCopied 0 = .ok (.aload_n 0, 1) := by decide +kernel
theorem dX5_whyNotCopied_1 : decode cX5_whyNotCopied 1 = .ok (.getfield 7, 3) := by decide +kernel
theorem dX5_whyNotCopied_4 : decode cX5_whyNotCopied 4 = .ok (.iconst 4, 1) := by decide +kernel
theorem dX5_whyNotCopied_5 : decode cX5_whyNotCopied 5 = .ok (.iaload, 1) := by decide +kernel
theorem dX5_whyNotCopied_6 : decode cX5_whyNotCopied 6 = .ok (.aload_n 0, 1) := by decide +kernel
theorem dX5_whyNotCopied_7 : decode cX5_whyNotCopied 7 = .ok (.iload_n 1, 1) := by decide +kernel
theorem dX5_whyNotCopied_8 : decode cX5_whyNotCopied 8 = .ok (.iload_n 2, 1) := by decide +kernel
theorem dX5_whyNotCopied_9 : decode cX5_whyNotCopied 9 = .ok (.invokevirtual 133, 3) := by decide +kernel
theorem dX5_whyNotCopied_12 : decode cX5_whyNotCopied 12 = .ok (.iadd, 1) := by decide +kernel
theorem dX5_whyNotCopied_13 : decode cX5_whyNotCopied 13 = .ok (.bipush 40, 2) := by decide +kernel
theorem dX5_whyNotCopied_15 : decode cX5_whyNotCopied 15 = .ok (.if_icmp .le 6, 3) := by decide +kernel
theorem dX5_whyNotCopied_18 : decode cX5_whyNotCopied 18 = .ok (.bipush (-4), 2) := by decide +kernel
theorem dX5_whyNotCopied_20 : decode cX5_whyNotCopied 20 = .ok (.ireturn, 1) := by decide +kernel
theorem dX5_whyNotCopied_21 : decode cX5_whyNotCopied 21 = .ok (.iconst 1, 1) := by decide +kernel
theorem dX5_whyNotCopied_22 : decode cX5_whyNotCopied 22 = .ok (.istore 4, 2) := by decide +kernel
theorem dX5_whyNotCopied_24 : decode cX5_whyNotCopied 24 = .ok (.iconst 0, 1) := by decide +kernel
theorem dX5_whyNotCopied_25 : decode cX5_whyNotCopied 25 = .ok (.istore 5, 2) := by decide +kernel
theorem dX5_whyNotCopied_27 : decode cX5_whyNotCopied 27 = .ok (.iload 5, 2) := by decide +kernel
theorem dX5_whyNotCopied_29 : decode cX5_whyNotCopied 29 = .ok (.aload_n 0, 1) := by decide +kernel
theorem dX5_whyNotCopied_30 : decode cX5_whyNotCopied 30 = .ok (.getfield 7, 3) := by decide +kernel
theorem dX5_whyNotCopied_33 : decode cX5_whyNotCopied 33 = .ok (.iconst 4, 1) := by decide +kernel
theorem dX5_whyNotCopied_34 : decode cX5_whyNotCopied 34 = .ok (.iaload, 1) := by decide +kernel
theorem dX5_whyNotCopied_35 : decode cX5_whyNotCopied 35 = .ok (.if_icmp .ge 90, 3) := by decide +kernel
theorem dX5_whyNotCopied_38 : decode cX5_whyNotCopied 38 = .ok (.iload_n 3, 1) := by decide +kernel
theorem dX5_whyNotCopied_39 : decode cX5_whyNotCopied 39 = .ok (.iload_n 1, 1) := by decide +kernel
theorem dX5_whyNotCopied_40 : decode cX5_whyNotCopied 40 = .ok (.isub, 1) := by decide +kernel
theorem dX5_whyNotCopied_41 : decode cX5_whyNotCopied 41 = .ok (.istore 6, 2) := by decide +kernel
theorem dX5_whyNotCopied_43 : decode cX5_whyNotCopied 43 = .ok (.aload_n 0, 1) := by decide +kernel
theorem dX5_whyNotCopied_44 : decode cX5_whyNotCopied 44 = .ok (.iload 5, 2) := by decide +kernel
theorem dX5_whyNotCopied_46 : decode cX5_whyNotCopied 46 = .ok (.iload_n 1, 1) := by decide +kernel
theorem dX5_whyNotCopied_47 : decode cX5_whyNotCopied 47 = .ok (.iload_n 2, 1) := by decide +kernel
theorem dX5_whyNotCopied_48 : decode cX5_whyNotCopied 48 = .ok (.invokevirtual 130, 3) := by decide +kernel
theorem dX5_whyNotCopied_51 : decode cX5_whyNotCopied 51 = .ok (.istore 7, 2) := by decide +kernel
theorem dX5_whyNotCopied_53 : decode cX5_whyNotCopied 53 = .ok (.iload 4, 2) := by decide +kernel
theorem dX5_whyNotCopied_55 : decode cX5_whyNotCopied 55 = .ok (.ifCond .eq 61, 3) := by decide +kernel
theorem dX5_whyNotCopied_58 : decode cX5_whyNotCopied 58 = .ok (.iload 7, 2) := by decide +kernel
theorem dX5_whyNotCopied_60 : decode cX5_whyNotCopied 60 = .ok (.ifCond .eq 52, 3) := by decide +kernel
theorem dX5_whyNotCopied_63 : decode cX5_whyNotCopied 63 = .ok (.aload_n 0, 1) := by decide +kernel
theorem dX5_whyNotCopied_64 : decode cX5_whyNotCopied 64 = .ok (.iload 5, 2) := by decide +kernel
theorem dX5_whyNotCopied_66 : decode cX5_whyNotCopied 66 = .ok (.iconst 2, 1) := by decide +kernel
theorem dX5_whyNotCopied_67 : decode cX5_whyNotCopied 67 = .ok (.invokevirtual 49, 3) := by decide +kernel
theorem dX5_whyNotCopied_70 : decode cX5_whyNotCopied 70 = .ok (.iload 6, 2) := by decide +kernel
theorem dX5_whyNotCopied_72 : decode cX5_whyNotCopied 72 = .ok (.iadd, 1) := by decide +kernel
theorem dX5_whyNotCopied_73 : decode cX5_whyNotCopied 73 = .ok (.bipush 100, 2) := by decide +kernel
theorem dX5_whyNotCopied_75 : decode cX5_whyNotCopied 75 = .ok (.if_icmp .ge 41, 3) := by decide +kernel
theorem dX5_whyNotCopied_78 : decode cX5_whyNotCopied 78 = .ok (.aload_n 0, 1) := by decide +kernel
theorem dX5_whyNotCopied_79 : decode cX5_whyNotCopied 79 = .ok (.aload_n 0, 1) := by decide +kernel
theorem dX5_whyNotCopied_80 : decode cX5_whyNotCopied 80 = .ok (.iload 5, 2) := by decide +kernel
theorem dX5_whyNotCopied_82 : decode cX5_whyNotCopied 82 = .ok (.iconst 0, 1) := by decide +kernel
theorem dX5_whyNotCopied_83 : decode cX5_whyNotCopied 83 = .ok (.invokevirtual 49, 3) := by decide +kernel
theorem dX5_whyNotCopied_86 : decode cX5_whyNotCopied 86 = .ok (.aload_n 0, 1) := by decide +kernel
theorem dX5_whyNotCopied_87 : decode cX5_whyNotCopied 87 = .ok (.iload 5, 2) := by decide +kernel
theorem dX5_whyNotCopied_89 : decode cX5_whyNotCopied 89 = .ok (.iconst 1, 1) := by decide +kernel
theorem dX5_whyNotCopied_90 : decode cX5_whyNotCopied 90 = .ok (.invokevirtual 49, 3) := by decide +kernel
theorem dX5_whyNotCopied_93 : decode cX5_whyNotCopied 93 = .ok (.iload 6, 2) := by decide +kernel
theorem dX5_whyNotCopied_95 : decode cX5_whyNotCopied 95 = .ok (.iadd, 1) := by decide +kernel
theorem dX5_whyNotCopied_96 : decode cX5_whyNotCopied 96 = .ok (.aload_n 0, 1) := by decide +kernel
theorem dX5_whyNotCopied_97 : decode cX5_whyNotCopied 97 = .ok (.iload 5, 2) := by decide +kernel
theorem dX5_whyNotCopied_99 : decode cX5_whyNotCopied 99 = .ok (.iconst 2, 1) := by decide +kernel
theorem dX5_whyNotCopied_100 : decode cX5_whyNotCopied 100 = .ok (.invokevirtual 49, 3) := by decide +kernel
theorem dX5_whyNotCopied_103 : decode cX5_whyNotCopied 103 = .ok (.iload 6, 2) := by decide +kernel
theorem dX5_whyNotCopied_105 : decode cX5_whyNotCopied 105 = .ok (.iadd, 1) := by decide +kernel
theorem dX5_whyNotCopied_106 : decode cX5_whyNotCopied 106 = .ok (.invokevirtual 110, 3) := by decide +kernel
theorem dX5_whyNotCopied_109 : decode cX5_whyNotCopied 109 = .ok (.ifCond .ne 7, 3) := by decide +kernel
theorem dX5_whyNotCopied_112 : decode cX5_whyNotCopied 112 = .ok (.iconst 1, 1) := by decide +kernel
theorem dX5_whyNotCopied_113 : decode cX5_whyNotCopied 113 = .ok (.goto 4, 3) := by decide +kernel
theorem dX5_whyNotCopied_116 : decode cX5_whyNotCopied 116 = .ok (.iconst 0, 1) := by decide +kernel
theorem dX5_whyNotCopied_117 : decode cX5_whyNotCopied 117 = .ok (.istore 4, 2) := by decide +kernel
theorem dX5_whyNotCopied_119 : decode cX5_whyNotCopied 119 = .ok (.iinc 5 1, 3) := by decide +kernel
theorem dX5_whyNotCopied_122 : decode cX5_whyNotCopied 122 = .ok (.goto (-95), 3) := by decide +kernel
theorem dX5_whyNotCopied_125 : decode cX5_whyNotCopied 125 = .ok (.iload 4, 2) := by decide +kernel
theorem dX5_whyNotCopied_127 : decode cX5_whyNotCopied 127 = .ok (.ifCond .eq 7, 3) := by decide +kernel
theorem dX5_whyNotCopied_130 : decode cX5_whyNotCopied 130 = .ok (.iconst 0, 1) := by decide +kernel
theorem dX5_whyNotCopied_131 : decode cX5_whyNotCopied 131 = .ok (.goto 5, 3) := by decide +kernel
theorem dX5_whyNotCopied_134 : decode cX5_whyNotCopied 134 = .ok (.bipush (-5), 2) := by decide +kernel
theorem dX5_whyNotCopied_136 : decode cX5_whyNotCopied 136 = .ok (.ireturn, 1) := by decide +kernel
set_option maxRecDepth 20000 in
theorem ggX5_isPassage_X5_isStep : GoodIn wsX5_isPassage wsX5_isStep := goodIn_r _ [4, 5, 6, 3, 7] (by decide +kernel) (by decide +kernel)
set_option maxRecDepth 20000 in
theorem gX5_isPassage_X5_isStep : GoodIn wsX5_isPassage (va_wsS RX5 107 yX5_isStep wsX5_isStep) := goodIn_app (goodIn_of _ (by decide +kernel)) ggX5_isPassage_X5_isStep
theorem dX5_isPassage_0 : decode cX5_isPassage 0 = .ok (.iload_n 0, 1) := by decide +kernel
theorem dX5_isPassage_1 : decode cX5_isPassage 1 = .ok (.invokestatic 107, 3) := by decide +kernel
theorem dX5_isPassage_4 : decode cX5_isPassage 4 = .ok (.ifCond .eq 19, 3) := by decide +kernel
theorem dX5_isPassage_7 : decode cX5_isPassage 7 = .ok (.iload_n 1, 1) := by decide +kernel
theorem dX5_isPassage_8 : decode cX5_isPassage 8 = .ok (.invokestatic 107, 3) := by decide +kernel
theorem dX5_isPassage_11 : decode cX5_isPassage 11 = .ok (.ifCond .eq 12, 3) := by decide +kernel
theorem dX5_isPassage_14 : decode cX5_isPassage 14 = .ok (.iload_n 0, 1) := by decide +kernel
theorem dX5_isPassage_15 : decode cX5_isPassage 15 = .ok (.iload_n 1, 1) := by decide +kernel
theorem dX5_isPassage_16 : decode cX5_isPassage 16 = .ok (.if_icmp .gt 7, 3) := by decide +kernel
theorem dX5_isPassage_19 : decode cX5_isPassage 19 = .ok (.iconst 1, 1) := by decide +kernel
theorem dX5_isPassage_20 : decode cX5_isPassage 20 = .ok (.goto 4, 3) := by decide +kernel
theorem dX5_isPassage_23 : decode cX5_isPassage 23 = .ok (.iconst 0, 1) := by decide +kernel
theorem dX5_isPassage_24 : decode cX5_isPassage 24 = .ok (.ireturn, 1) := by decide +kernel
set_option maxRecDepth 20000 in
theorem ggX5_copy_X5_isPassage : GoodIn wsX5_copy wsX5_isPassage := goodIn_r _ [6, 7, 8, 5, 9, 10, 11, 12] (by decide +kernel) (by decide +kernel)
set_option maxRecDepth 20000 in
theorem gX5_copy_X5_isPassage : GoodIn wsX5_copy (va_wsS RX5 136 yX5_isPassage wsX5_isPassage) := goodIn_app (goodIn_of _ (by decide +kernel)) ggX5_copy_X5_isPassage
set_option maxRecDepth 20000 in
theorem ggX5_copy_X5_isStep : GoodIn wsX5_copy wsX5_isStep := goodIn_r _ [9, 10, 11, 5, 12] (by decide +kernel) (by decide +kernel)
set_option maxRecDepth 20000 in
theorem gX5_copy_X5_isStep : GoodIn wsX5_copy (va_wsS RX5 107 yX5_isStep wsX5_isStep) := goodIn_app (goodIn_of _ (by decide +kernel)) ggX5_copy_X5_isStep
set_option maxRecDepth 20000 in
theorem ggX5_copy_X5_whyNotCopied : GoodIn wsX5_copy wsX5_whyNotCopied := goodIn_r _ [16, 1, 17, 18, 19, 5, 20, 21, 22, 23, 24, 25, 26, 27, 28, 29, 30, 31, 32, 58, 59, 60, 61, 62, 63, 64, 65, 66, 67, 68, 69, 70, 71, 72, 73] (by decide +kernel) (by decide +kernel)
set_option maxRecDepth 20000 in
theorem gX5_copy_X5_whyNotCopied : GoodIn wsX5_copy (wsV RX5 139 RX5 yX5_whyNotCopied wsX5_whyNotCopied) := goodIn_app (goodIn_of _ (by decide +kernel)) ggX5_copy_X5_whyNotCopied
set_option maxRecDepth 20000 in
theorem ggX5_copy_X5_record : GoodIn wsX5_copy wsX5_record := goodIn_r _ [36, 37, 38, 1, 39, 40, 5, 41, 58, 59, 60, 61, 62, 63, 64, 65, 66, 67, 68, 69, 70, 71, 72, 73] (by decide +kernel) (by decide +kernel)
set_option maxRecDepth 20000 in
theorem gX5_copy_X5_record : GoodIn wsX5_copy (wsV RX5 101 RX5 yX5_record wsX5_record) := goodIn_app (goodIn_of _ (by decide +kernel)) ggX5_copy_X5_record
set_option maxRecDepth 20000 in
theorem ggX5_copy_X5_moves : GoodIn wsX5_copy wsX5_moves := goodIn_r _ [41] (by decide +kernel) (by decide +kernel)
set_option maxRecDepth 20000 in
theorem gX5_copy_X5_moves : GoodIn wsX5_copy (va_wsS RX5 41 yX5_moves wsX5_moves) := goodIn_app (goodIn_of _ (by decide +kernel)) ggX5_copy_X5_moves
set_option maxRecDepth 20000 in
theorem ggX5_copy_X5_putIn : GoodIn wsX5_copy wsX5_putIn := goodIn_r _ [45, 1, 46, 47, 48, 5, 49, 25, 26, 27, 28, 50, 51, 52, 53, 54, 55, 56, 57, 58, 59, 60, 61, 62, 63, 64, 65, 66, 67, 68, 69, 70, 71, 72, 73] (by decide +kernel) (by decide +kernel)
set_option maxRecDepth 20000 in
theorem gX5_copy_X5_putIn : GoodIn wsX5_copy (wsV RX5 65 RX5 yX5_putIn wsX5_putIn) := goodIn_app (goodIn_of _ (by decide +kernel)) ggX5_copy_X5_putIn
theorem dX5_copy_0 : decode cX5_copy 0 = .ok (.iload_n 1, 1) := by decide +kernel
theorem dX5_copy_1 : decode cX5_copy 1 = .ok (.iload_n 2, 1) := by decide +kernel
theorem dX5_copy_2 : decode cX5_copy 2 = .ok (.invokestatic 136, 3) := by decide +kernel
theorem dX5_copy_5 : decode cX5_copy 5 = .ok (.ifCond .eq 10, 3) := by decide +kernel
theorem dX5_copy_8 : decode cX5_copy 8 = .ok (.iload_n 3, 1) := by decide +kernel
theorem dX5_copy_9 : decode cX5_copy 9 = .ok (.invokestatic 107, 3) := by decide +kernel
theorem dX5_copy_12 : decode cX5_copy 12 = .ok (.ifCond .ne 6, 3) := by decide +kernel
theorem dX5_copy_15 : decode cX5_copy 15 = .ok (.bipush (-2), 2) := by decide +kernel
theorem dX5_copy_17 : decode cX5_copy 17 = .ok (.ireturn, 1) := by decide +kernel
theorem dX5_copy_18 : decode cX5_copy 18 = .ok (.aload_n 0, 1) := by decide +kernel
theorem dX5_copy_19 : decode cX5_copy 19 = .ok (.iload_n 1, 1) := by decide +kernel
theorem dX5_copy_20 : decode cX5_copy 20 = .ok (.iload_n 2, 1) := by decide +kernel
theorem dX5_copy_21 : decode cX5_copy 21 = .ok (.iload_n 3, 1) := by decide +kernel
theorem dX5_copy_22 : decode cX5_copy 22 = .ok (.invokevirtual 139, 3) := by decide +kernel
theorem dX5_copy_25 : decode cX5_copy 25 = .ok (.istore 4, 2) := by decide +kernel
theorem dX5_copy_27 : decode cX5_copy 27 = .ok (.iload 4, 2) := by decide +kernel
theorem dX5_copy_29 : decode cX5_copy 29 = .ok (.ifCond .ge 6, 3) := by decide +kernel
theorem dX5_copy_32 : decode cX5_copy 32 = .ok (.iload 4, 2) := by decide +kernel
theorem dX5_copy_34 : decode cX5_copy 34 = .ok (.ireturn, 1) := by decide +kernel
theorem dX5_copy_35 : decode cX5_copy 35 = .ok (.aload_n 0, 1) := by decide +kernel
theorem dX5_copy_36 : decode cX5_copy 36 = .ok (.invokevirtual 101, 3) := by decide +kernel
theorem dX5_copy_39 : decode cX5_copy 39 = .ok (.aload_n 0, 1) := by decide +kernel
theorem dX5_copy_40 : decode cX5_copy 40 = .ok (.getfield 7, 3) := by decide +kernel
theorem dX5_copy_43 : decode cX5_copy 43 = .ok (.iconst 0, 1) := by decide +kernel
theorem dX5_copy_44 : decode cX5_copy 44 = .ok (.aload_n 0, 1) := by decide +kernel
theorem dX5_copy_45 : decode cX5_copy 45 = .ok (.getfield 13, 3) := by decide +kernel
theorem dX5_copy_48 : decode cX5_copy 48 = .ok (.iconst 0, 1) := by decide +kernel
theorem dX5_copy_49 : decode cX5_copy 49 = .ok (.invokestatic 41, 3) := by decide +kernel
theorem dX5_copy_52 : decode cX5_copy 52 = .ok (.iconst 0, 1) := by decide +kernel
theorem dX5_copy_53 : decode cX5_copy 53 = .ok (.istore 5, 2) := by decide +kernel
theorem dX5_copy_55 : decode cX5_copy 55 = .ok (.iconst 0, 1) := by decide +kernel
theorem dX5_copy_56 : decode cX5_copy 56 = .ok (.istore 6, 2) := by decide +kernel
theorem dX5_copy_58 : decode cX5_copy 58 = .ok (.iload 6, 2) := by decide +kernel
theorem dX5_copy_60 : decode cX5_copy 60 = .ok (.aload_n 0, 1) := by decide +kernel
theorem dX5_copy_61 : decode cX5_copy 61 = .ok (.getfield 13, 3) := by decide +kernel
theorem dX5_copy_64 : decode cX5_copy 64 = .ok (.iconst 4, 1) := by decide +kernel
theorem dX5_copy_65 : decode cX5_copy 65 = .ok (.iaload, 1) := by decide +kernel
theorem dX5_copy_66 : decode cX5_copy 66 = .ok (.if_icmp .ge 104, 3) := by decide +kernel
theorem dX5_copy_69 : decode cX5_copy 69 = .ok (.iconst 5, 1) := by decide +kernel
theorem dX5_copy_70 : decode cX5_copy 70 = .ok (.iconst 5, 1) := by decide +kernel
theorem dX5_copy_71 : decode cX5_copy 71 = .ok (.iload 6, 2) := by decide +kernel
theorem dX5_copy_73 : decode cX5_copy 73 = .ok (.imul, 1) := by decide +kernel
theorem dX5_copy_74 : decode cX5_copy 74 = .ok (.iadd, 1) := by decide +kernel
theorem dX5_copy_75 : decode cX5_copy 75 = .ok (.istore 7, 2) := by decide +kernel
theorem dX5_copy_77 : decode cX5_copy 77 = .ok (.aload_n 0, 1) := by decide +kernel
theorem dX5_copy_78 : decode cX5_copy 78 = .ok (.getfield 13, 3) := by decide +kernel
theorem dX5_copy_81 : decode cX5_copy 81 = .ok (.iload 7, 2) := by decide +kernel
theorem dX5_copy_83 : decode cX5_copy 83 = .ok (.iconst 1, 1) := by decide +kernel
theorem dX5_copy_84 : decode cX5_copy 84 = .ok (.iadd, 1) := by decide +kernel
theorem dX5_copy_85 : decode cX5_copy 85 = .ok (.iaload, 1) := by decide +kernel
theorem dX5_copy_86 : decode cX5_copy 86 = .ok (.iload_n 1, 1) := by decide +kernel
theorem dX5_copy_87 : decode cX5_copy 87 = .ok (.if_icmp .lt 77, 3) := by decide +kernel
theorem dX5_copy_90 : decode cX5_copy 90 = .ok (.aload_n 0, 1) := by decide +kernel
theorem dX5_copy_91 : decode cX5_copy 91 = .ok (.getfield 13, 3) := by decide +kernel
theorem dX5_copy_94 : decode cX5_copy 94 = .ok (.iload 7, 2) := by decide +kernel
theorem dX5_copy_96 : decode cX5_copy 96 = .ok (.iconst 2, 1) := by decide +kernel
theorem dX5_copy_97 : decode cX5_copy 97 = .ok (.iadd, 1) := by decide +kernel
theorem dX5_copy_98 : decode cX5_copy 98 = .ok (.iaload, 1) := by decide +kernel
theorem dX5_copy_99 : decode cX5_copy 99 = .ok (.iload_n 2, 1) := by decide +kernel
theorem dX5_copy_100 : decode cX5_copy 100 = .ok (.if_icmp .gt 64, 3) := by decide +kernel
theorem dX5_copy_103 : decode cX5_copy 103 = .ok (.aload_n 0, 1) := by decide +kernel
theorem dX5_copy_104 : decode cX5_copy 104 = .ok (.aload_n 0, 1) := by decide +kernel
theorem dX5_copy_105 : decode cX5_copy 105 = .ok (.getfield 13, 3) := by decide +kernel
theorem dX5_copy_108 : decode cX5_copy 108 = .ok (.iload 7, 2) := by decide +kernel
theorem dX5_copy_110 : decode cX5_copy 110 = .ok (.iconst 0, 1) := by decide +kernel
theorem dX5_copy_111 : decode cX5_copy 111 = .ok (.iadd, 1) := by decide +kernel
theorem dX5_copy_112 : decode cX5_copy 112 = .ok (.iaload, 1) := by decide +kernel
theorem dX5_copy_113 : decode cX5_copy 113 = .ok (.aload_n 0, 1) := by decide +kernel
theorem dX5_copy_114 : decode cX5_copy 114 = .ok (.getfield 13, 3) := by decide +kernel
theorem dX5_copy_117 : decode cX5_copy 117 = .ok (.iload 7, 2) := by decide +kernel
theorem dX5_copy_119 : decode cX5_copy 119 = .ok (.iconst 1, 1) := by decide +kernel
theorem dX5_copy_120 : decode cX5_copy 120 = .ok (.iadd, 1) := by decide +kernel
theorem dX5_copy_121 : decode cX5_copy 121 = .ok (.iaload, 1) := by decide +kernel
theorem dX5_copy_122 : decode cX5_copy 122 = .ok (.iload_n 3, 1) := by decide +kernel
theorem dX5_copy_123 : decode cX5_copy 123 = .ok (.iadd, 1) := by decide +kernel
theorem dX5_copy_124 : decode cX5_copy 124 = .ok (.iload_n 1, 1) := by decide +kernel
theorem dX5_copy_125 : decode cX5_copy 125 = .ok (.isub, 1) := by decide +kernel
theorem dX5_copy_126 : decode cX5_copy 126 = .ok (.aload_n 0, 1) := by decide +kernel
theorem dX5_copy_127 : decode cX5_copy 127 = .ok (.getfield 13, 3) := by decide +kernel
theorem dX5_copy_130 : decode cX5_copy 130 = .ok (.iload 7, 2) := by decide +kernel
theorem dX5_copy_132 : decode cX5_copy 132 = .ok (.iconst 2, 1) := by decide +kernel
theorem dX5_copy_133 : decode cX5_copy 133 = .ok (.iadd, 1) := by decide +kernel
theorem dX5_copy_134 : decode cX5_copy 134 = .ok (.iaload, 1) := by decide +kernel
theorem dX5_copy_135 : decode cX5_copy 135 = .ok (.iload_n 3, 1) := by decide +kernel
theorem dX5_copy_136 : decode cX5_copy 136 = .ok (.iadd, 1) := by decide +kernel
theorem dX5_copy_137 : decode cX5_copy 137 = .ok (.iload_n 1, 1) := by decide +kernel
theorem dX5_copy_138 : decode cX5_copy 138 = .ok (.isub, 1) := by decide +kernel
theorem dX5_copy_139 : decode cX5_copy 139 = .ok (.aload_n 0, 1) := by decide +kernel
theorem dX5_copy_140 : decode cX5_copy 140 = .ok (.getfield 13, 3) := by decide +kernel
theorem dX5_copy_143 : decode cX5_copy 143 = .ok (.iload 7, 2) := by decide +kernel
theorem dX5_copy_145 : decode cX5_copy 145 = .ok (.iconst 3, 1) := by decide +kernel
theorem dX5_copy_146 : decode cX5_copy 146 = .ok (.iadd, 1) := by decide +kernel
theorem dX5_copy_147 : decode cX5_copy 147 = .ok (.iaload, 1) := by decide +kernel
theorem dX5_copy_148 : decode cX5_copy 148 = .ok (.aload_n 0, 1) := by decide +kernel
theorem dX5_copy_149 : decode cX5_copy 149 = .ok (.getfield 13, 3) := by decide +kernel
theorem dX5_copy_152 : decode cX5_copy 152 = .ok (.iload 7, 2) := by decide +kernel
theorem dX5_copy_154 : decode cX5_copy 154 = .ok (.iconst 4, 1) := by decide +kernel
theorem dX5_copy_155 : decode cX5_copy 155 = .ok (.iadd, 1) := by decide +kernel
theorem dX5_copy_156 : decode cX5_copy 156 = .ok (.iaload, 1) := by decide +kernel
theorem dX5_copy_157 : decode cX5_copy 157 = .ok (.invokevirtual 65, 3) := by decide +kernel
theorem dX5_copy_160 : decode cX5_copy 160 = .ok (.pop, 1) := by decide +kernel
theorem dX5_copy_161 : decode cX5_copy 161 = .ok (.iinc 5 1, 3) := by decide +kernel
theorem dX5_copy_164 : decode cX5_copy 164 = .ok (.iinc 6 1, 3) := by decide +kernel
theorem dX5_copy_167 : decode cX5_copy 167 = .ok (.goto (-109), 3) := by decide +kernel
theorem dX5_copy_170 : decode cX5_copy 170 = .ok (.iload 5, 2) := by decide +kernel
theorem dX5_copy_172 : decode cX5_copy 172 = .ok (.ireturn, 1) := by decide +kernel
set_option maxRecDepth 20000 in
theorem ggX5_wrongInPad_X5_readsNote : GoodIn wsX5_wrongInPad wsX5_readsNote := goodIn_r _ [11, 3, 4, 5, 6, 12, 13, 14, 10, 15, 1, 16, 17, 18, 19, 2, 20, 21, 22, 23, 24, 25, 26, 27, 53, 54, 55, 56, 57, 58, 59, 60, 61, 62, 63, 64, 65, 66, 67, 68] (by decide +kernel) (by decide +kernel)
set_option maxRecDepth 20000 in
theorem gX5_wrongInPad_X5_readsNote : GoodIn wsX5_wrongInPad (wsV RX5 148 RX5 yX5_readsNote wsX5_readsNote) := goodIn_app (goodIn_of _ (by decide +kernel)) ggX5_wrongInPad_X5_readsNote
set_option maxRecDepth 20000 in
theorem ggX5_wrongInPad_X5_isNext : GoodIn wsX5_wrongInPad wsX5_isNext := goodIn_r _ [27, 1, 16, 17, 18, 10, 19, 2, 20, 53, 54, 55, 56, 57, 58, 59, 60, 61, 62, 63, 64, 65, 66, 67, 68] (by decide +kernel) (by decide +kernel)
set_option maxRecDepth 20000 in
theorem gX5_wrongInPad_X5_isNext : GoodIn wsX5_wrongInPad (wsV RX5 152 RX5 yX5_isNext wsX5_isNext) := goodIn_app (goodIn_of _ (by decide +kernel)) ggX5_wrongInPad_X5_isNext
set_option maxRecDepth 20000 in
theorem ggX5_wrongInPad_X5_isTaken : GoodIn wsX5_wrongInPad wsX5_isTaken := goodIn_r _ [31, 32, 33, 34, 35, 10, 36, 53, 54, 55, 56, 57, 58, 59, 60, 61, 62, 63, 64, 65, 66, 67, 68] (by decide +kernel) (by decide +kernel)
set_option maxRecDepth 20000 in
theorem gX5_wrongInPad_X5_isTaken : GoodIn wsX5_wrongInPad (wsV RX5 110 RX5 yX5_isTaken wsX5_isTaken) := goodIn_app (goodIn_of _ (by decide +kernel)) ggX5_wrongInPad_X5_isTaken
set_option maxRecDepth 20000 in
theorem ggX5_wrongInPad_X5_putIn : GoodIn wsX5_wrongInPad wsX5_putIn := goodIn_r _ [40, 32, 41, 42, 43, 10, 44, 33, 34, 35, 36, 45, 46, 47, 48, 49, 50, 51, 52, 53, 54, 55, 56, 57, 58, 59, 60, 61, 62, 63, 64, 65, 66, 67, 68] (by decide +kernel) (by decide +kernel)
set_option maxRecDepth 20000 in
theorem gX5_wrongInPad_X5_putIn : GoodIn wsX5_wrongInPad (wsV RX5 65 RX5 yX5_putIn wsX5_putIn) := goodIn_app (goodIn_of _ (by decide +kernel)) ggX5_wrongInPad_X5_putIn
theorem dX5_wrongInPad_0 : decode cX5_wrongInPad 0 = .ok (.iconst 0, 1) := by decide +kernel
theorem dX5_wrongInPad_1 : decode cX5_wrongInPad 1 = .ok (.istore_n 2, 1) := by decide +kernel
theorem dX5_wrongInPad_2 : decode cX5_wrongInPad 2 = .ok (.aload_n 0, 1) := by decide +kernel
theorem dX5_wrongInPad_3 : decode cX5_wrongInPad 3 = .ok (.iconst 0, 1) := by decide +kernel
theorem dX5_wrongInPad_4 : decode cX5_wrongInPad 4 = .ok (.putfield 142, 3) := by decide +kernel
theorem dX5_wrongInPad_7 : decode cX5_wrongInPad 7 = .ok (.aload_n 0, 1) := by decide +kernel
theorem dX5_wrongInPad_8 : decode cX5_wrongInPad 8 = .ok (.getfield 142, 3) := by decide +kernel
theorem dX5_wrongInPad_11 : decode cX5_wrongInPad 11 = .ok (.aload_n 0, 1) := by decide +kernel
theorem dX5_wrongInPad_12 : decode cX5_wrongInPad 12 = .ok (.getfield 145, 3) := by decide +kernel
theorem dX5_wrongInPad_15 : decode cX5_wrongInPad 15 = .ok (.if_icmp .ge 101, 3) := by decide +kernel
theorem dX5_wrongInPad_18 : decode cX5_wrongInPad 18 = .ok (.aload_n 0, 1) := by decide +kernel
theorem dX5_wrongInPad_19 : decode cX5_wrongInPad 19 = .ok (.invokevirtual 148, 3) := by decide +kernel
theorem dX5_wrongInPad_22 : decode cX5_wrongInPad 22 = .ok (.pop, 1) := by decide +kernel
theorem dX5_wrongInPad_23 : decode cX5_wrongInPad 23 = .ok (.aload_n 0, 1) := by decide +kernel
theorem dX5_wrongInPad_24 : decode cX5_wrongInPad 24 = .ok (.bipush 59, 2) := by decide +kernel
theorem dX5_wrongInPad_26 : decode cX5_wrongInPad 26 = .ok (.invokevirtual 152, 3) := by decide +kernel
theorem dX5_wrongInPad_29 : decode cX5_wrongInPad 29 = .ok (.pop, 1) := by decide +kernel
theorem dX5_wrongInPad_30 : decode cX5_wrongInPad 30 = .ok (.iload_n 1, 1) := by decide +kernel
theorem dX5_wrongInPad_31 : decode cX5_wrongInPad 31 = .ok (.ifCond .eq 59, 3) := by decide +kernel
theorem dX5_wrongInPad_34 : decode cX5_wrongInPad 34 = .ok (.aload_n 0, 1) := by decide +kernel
theorem dX5_wrongInPad_35 : decode cX5_wrongInPad 35 = .ok (.aload_n 0, 1) := by decide +kernel
theorem dX5_wrongInPad_36 : decode cX5_wrongInPad 36 = .ok (.getfield 155, 3) := by decide +kernel
theorem dX5_wrongInPad_39 : decode cX5_wrongInPad 39 = .ok (.aload_n 0, 1) := by decide +kernel
theorem dX5_wrongInPad_40 : decode cX5_wrongInPad 40 = .ok (.getfield 158, 3) := by decide +kernel
theorem dX5_wrongInPad_43 : decode cX5_wrongInPad 43 = .ok (.aload_n 0, 1) := by decide +kernel
theorem dX5_wrongInPad_44 : decode cX5_wrongInPad 44 = .ok (.getfield 161, 3) := by decide +kernel
theorem dX5_wrongInPad_47 : decode cX5_wrongInPad 47 = .ok (.invokevirtual 110, 3) := by decide +kernel
theorem dX5_wrongInPad_50 : decode cX5_wrongInPad 50 = .ok (.ifCond .ne 40, 3) := by decide +kernel
theorem dX5_wrongInPad_53 : decode cX5_wrongInPad 53 = .ok (.aload_n 0, 1) := by decide +kernel
theorem dX5_wrongInPad_54 : decode cX5_wrongInPad 54 = .ok (.aload_n 0, 1) := by decide +kernel
theorem dX5_wrongInPad_55 : decode cX5_wrongInPad 55 = .ok (.getfield 155, 3) := by decide +kernel
theorem dX5_wrongInPad_58 : decode cX5_wrongInPad 58 = .ok (.aload_n 0, 1) := by decide +kernel
theorem dX5_wrongInPad_59 : decode cX5_wrongInPad 59 = .ok (.getfield 158, 3) := by decide +kernel
theorem dX5_wrongInPad_62 : decode cX5_wrongInPad 62 = .ok (.aload_n 0, 1) := by decide +kernel
theorem dX5_wrongInPad_63 : decode cX5_wrongInPad 63 = .ok (.getfield 161, 3) := by decide +kernel
theorem dX5_wrongInPad_66 : decode cX5_wrongInPad 66 = .ok (.iconst 0, 1) := by decide +kernel
theorem dX5_wrongInPad_67 : decode cX5_wrongInPad 67 = .ok (.aload_n 0, 1) := by decide +kernel
theorem dX5_wrongInPad_68 : decode cX5_wrongInPad 68 = .ok (.getfield 164, 3) := by decide +kernel
theorem dX5_wrongInPad_71 : decode cX5_wrongInPad 71 = .ok (.invokevirtual 65, 3) := by decide +kernel
theorem dX5_wrongInPad_74 : decode cX5_wrongInPad 74 = .ok (.istore_n 3, 1) := by decide +kernel
theorem dX5_wrongInPad_75 : decode cX5_wrongInPad 75 = .ok (.iload_n 2, 1) := by decide +kernel
theorem dX5_wrongInPad_76 : decode cX5_wrongInPad 76 = .ok (.iload_n 3, 1) := by decide +kernel
theorem dX5_wrongInPad_77 : decode cX5_wrongInPad 77 = .ok (.ifCond .ge 7, 3) := by decide +kernel
theorem dX5_wrongInPad_80 : decode cX5_wrongInPad 80 = .ok (.iconst 1, 1) := by decide +kernel
theorem dX5_wrongInPad_81 : decode cX5_wrongInPad 81 = .ok (.goto 4, 3) := by decide +kernel
theorem dX5_wrongInPad_84 : decode cX5_wrongInPad 84 = .ok (.iconst 0, 1) := by decide +kernel
theorem dX5_wrongInPad_85 : decode cX5_wrongInPad 85 = .ok (.iadd, 1) := by decide +kernel
theorem dX5_wrongInPad_86 : decode cX5_wrongInPad 86 = .ok (.istore_n 2, 1) := by decide +kernel
theorem dX5_wrongInPad_87 : decode cX5_wrongInPad 87 = .ok (.goto (-80), 3) := by decide +kernel
theorem dX5_wrongInPad_90 : decode cX5_wrongInPad 90 = .ok (.iload_n 2, 1) := by decide +kernel
theorem dX5_wrongInPad_91 : decode cX5_wrongInPad 91 = .ok (.iload_n 1, 1) := by decide +kernel
theorem dX5_wrongInPad_92 : decode cX5_wrongInPad 92 = .ok (.ifCond .ne 14, 3) := by decide +kernel
theorem dX5_wrongInPad_95 : decode cX5_wrongInPad 95 = .ok (.aload_n 0, 1) := by decide +kernel
theorem dX5_wrongInPad_96 : decode cX5_wrongInPad 96 = .ok (.getfield 161, 3) := by decide +kernel
theorem dX5_wrongInPad_99 : decode cX5_wrongInPad 99 = .ok (.aload_n 0, 1) := by decide +kernel
theorem dX5_wrongInPad_100 : decode cX5_wrongInPad 100 = .ok (.getfield 158, 3) := by decide +kernel
theorem dX5_wrongInPad_103 : decode cX5_wrongInPad 103 = .ok (.if_icmp .ge 7, 3) := by decide +kernel
theorem dX5_wrongInPad_106 : decode cX5_wrongInPad 106 = .ok (.iconst 1, 1) := by decide +kernel
theorem dX5_wrongInPad_107 : decode cX5_wrongInPad 107 = .ok (.goto 4, 3) := by decide +kernel
theorem dX5_wrongInPad_110 : decode cX5_wrongInPad 110 = .ok (.iconst 0, 1) := by decide +kernel
theorem dX5_wrongInPad_111 : decode cX5_wrongInPad 111 = .ok (.iadd, 1) := by decide +kernel
theorem dX5_wrongInPad_112 : decode cX5_wrongInPad 112 = .ok (.istore_n 2, 1) := by decide +kernel
theorem dX5_wrongInPad_113 : decode cX5_wrongInPad 113 = .ok (.goto (-106), 3) := by decide +kernel
theorem dX5_wrongInPad_116 : decode cX5_wrongInPad 116 = .ok (.iload_n 2, 1) := by decide +kernel
theorem dX5_wrongInPad_117 : decode cX5_wrongInPad 117 = .ok (.ireturn, 1) := by decide +kernel
theorem dX5_notesInPad_0 : decode cX5_notesInPad 0 = .ok (.iconst 1, 1) := by decide +kernel
theorem dX5_notesInPad_1 : decode cX5_notesInPad 1 = .ok (.istore_n 1, 1) := by decide +kernel
theorem dX5_notesInPad_2 : decode cX5_notesInPad 2 = .ok (.iconst 0, 1) := by decide +kernel
theorem dX5_notesInPad_3 : decode cX5_notesInPad 3 = .ok (.istore_n 2, 1) := by decide +kernel
theorem dX5_notesInPad_4 : decode cX5_notesInPad 4 = .ok (.iload_n 2, 1) := by decide +kernel
theorem dX5_notesInPad_5 : decode cX5_notesInPad 5 = .ok (.aload_n 0, 1) := by decide +kernel
theorem dX5_notesInPad_6 : decode cX5_notesInPad 6 = .ok (.getfield 145, 3) := by decide +kernel
theorem dX5_notesInPad_9 : decode cX5_notesInPad 9 = .ok (.if_icmp .ge 28, 3) := by decide +kernel
theorem dX5_notesInPad_12 : decode cX5_notesInPad 12 = .ok (.iload_n 1, 1) := by decide +kernel
theorem dX5_notesInPad_13 : decode cX5_notesInPad 13 = .ok (.aload_n 0, 1) := by decide +kernel
theorem dX5_notesInPad_14 : decode cX5_notesInPad 14 = .ok (.getfield 25, 3) := by decide +kernel
theorem dX5_notesInPad_17 : decode cX5_notesInPad 17 = .ok (.iload_n 2, 1) := by decide +kernel
theorem dX5_notesInPad_18 : decode cX5_notesInPad 18 = .ok (.iaload, 1) := by decide +kernel
theorem dX5_notesInPad_19 : decode cX5_notesInPad 19 = .ok (.bipush 59, 2) := by decide +kernel
theorem dX5_notesInPad_21 : decode cX5_notesInPad 21 = .ok (.if_icmp .ne 7, 3) := by decide +kernel
theorem dX5_notesInPad_24 : decode cX5_notesInPad 24 = .ok (.iconst 1, 1) := by decide +kernel
theorem dX5_notesInPad_25 : decode cX5_notesInPad 25 = .ok (.goto 4, 3) := by decide +kernel
theorem dX5_notesInPad_28 : decode cX5_notesInPad 28 = .ok (.iconst 0, 1) := by decide +kernel
theorem dX5_notesInPad_29 : decode cX5_notesInPad 29 = .ok (.iadd, 1) := by decide +kernel
theorem dX5_notesInPad_30 : decode cX5_notesInPad 30 = .ok (.istore_n 1, 1) := by decide +kernel
theorem dX5_notesInPad_31 : decode cX5_notesInPad 31 = .ok (.iinc 2 1, 3) := by decide +kernel
theorem dX5_notesInPad_34 : decode cX5_notesInPad 34 = .ok (.goto (-30), 3) := by decide +kernel
theorem dX5_notesInPad_37 : decode cX5_notesInPad 37 = .ok (.iload_n 1, 1) := by decide +kernel
theorem dX5_notesInPad_38 : decode cX5_notesInPad 38 = .ok (.ireturn, 1) := by decide +kernel
set_option maxRecDepth 20000 in
theorem ggX5_read_X5_findFault : GoodIn wsX5_read wsX5_findFault := goodIn_r _ [8, 9, 3, 10, 11, 12, 7, 13, 14, 15, 16, 17, 18, 19, 20, 21, 22, 23, 24, 25, 26, 27, 28, 29, 30, 31, 32, 33, 75, 76, 77, 78, 79, 80, 81, 82, 83, 84, 85, 86, 87, 88, 89, 90] (by decide +kernel) (by decide +kernel)
set_option maxRecDepth 20000 in
theorem gX5_read_X5_findFault : GoodIn wsX5_read (wsV RX5 167 RX5 yX5_findFault wsX5_findFault) := goodIn_app (goodIn_of _ (by decide +kernel)) ggX5_read_X5_findFault
set_option maxRecDepth 20000 in
theorem ggX5_read_X5_wrongInPad : GoodIn wsX5_read wsX5_wrongInPad := goodIn_r _ [37, 9, 3, 14, 15, 16, 17, 10, 11, 12, 7, 13, 18, 19, 20, 21, 22, 23, 24, 25, 26, 27, 28, 29, 30, 31, 32, 33, 38, 39, 40, 41, 1, 42, 43, 44, 45, 46, 47, 48, 49, 50, 51, 52, 53, 54, 55, 56, 57, 58, 59, 60, 61, 75, 76, 77, 78, 79, 80, 81, 82, 83, 84, 85, 86, 87, 88, 89, 90] (by decide +kernel) (by decide +kernel)
set_option maxRecDepth 20000 in
theorem gX5_read_X5_wrongInPad : GoodIn wsX5_read (wsV RX5 171 RX5 yX5_wrongInPad wsX5_wrongInPad) := goodIn_app (goodIn_of _ (by decide +kernel)) ggX5_read_X5_wrongInPad
set_option maxRecDepth 20000 in
theorem ggX5_read_X5_notesInPad : GoodIn wsX5_read wsX5_notesInPad := goodIn_r _ [65, 3, 26, 75, 76, 77, 78, 79, 80, 81, 82, 83, 84, 85, 86, 87, 88, 89, 90] (by decide +kernel) (by decide +kernel)
set_option maxRecDepth 20000 in
theorem gX5_read_X5_notesInPad : GoodIn wsX5_read (wsV RX5 175 RX5 yX5_notesInPad wsX5_notesInPad) := goodIn_app (goodIn_of _ (by decide +kernel)) ggX5_read_X5_notesInPad
set_option maxRecDepth 20000 in
theorem ggX5_read_X5_moves : GoodIn wsX5_read wsX5_moves := goodIn_r _ [68] (by decide +kernel) (by decide +kernel)
set_option maxRecDepth 20000 in
theorem gX5_read_X5_moves : GoodIn wsX5_read (va_wsS RX5 41 yX5_moves wsX5_moves) := goodIn_app (goodIn_of _ (by decide +kernel)) ggX5_read_X5_moves
set_option maxRecDepth 20000 in
theorem ggX5_read_X5_record : GoodIn wsX5_read wsX5_record := goodIn_r _ [72, 73, 74, 1, 66, 67, 7, 68, 75, 76, 77, 78, 79, 80, 81, 82, 83, 84, 85, 86, 87, 88, 89, 90] (by decide +kernel) (by decide +kernel)
set_option maxRecDepth 20000 in
theorem gX5_read_X5_record : GoodIn wsX5_read (wsV RX5 101 RX5 yX5_record wsX5_record) := goodIn_app (goodIn_of _ (by decide +kernel)) ggX5_read_X5_record
theorem dX5_read_0 : decode cX5_read 0 = .ok (.aload_n 0, 1) := by decide +kernel
theorem dX5_read_1 : decode cX5_read 1 = .ok (.invokevirtual 167, 3) := by decide +kernel
theorem dX5_read_4 : decode cX5_read 4 = .ok (.bipush (-6), 2) := by decide +kernel
theorem dX5_read_6 : decode cX5_read 6 = .ok (.if_icmp .eq 6, 3) := by decide +kernel
theorem dX5_read_9 : decode cX5_read 9 = .ok (.bipush (-3), 2) := by decide +kernel
theorem dX5_read_11 : decode cX5_read 11 = .ok (.ireturn, 1) := by decide +kernel
theorem dX5_read_12 : decode cX5_read 12 = .ok (.aload_n 0, 1) := by decide +kernel
theorem dX5_read_13 : decode cX5_read 13 = .ok (.iconst 0, 1) := by decide +kernel
theorem dX5_read_14 : decode cX5_read 14 = .ok (.invokevirtual 171, 3) := by decide +kernel
theorem dX5_read_17 : decode cX5_read 17 = .ok (.ifCond .le 6, 3) := by decide +kernel
theorem dX5_read_20 : decode cX5_read 20 = .ok (.bipush (-2), 2) := by decide +kernel
theorem dX5_read_22 : decode cX5_read 22 = .ok (.ireturn, 1) := by decide +kernel
theorem dX5_read_23 : decode cX5_read 23 = .ok (.aload_n 0, 1) := by decide +kernel
theorem dX5_read_24 : decode cX5_read 24 = .ok (.getfield 7, 3) := by decide +kernel
theorem dX5_read_27 : decode cX5_read 27 = .ok (.iconst 4, 1) := by decide +kernel
theorem dX5_read_28 : decode cX5_read 28 = .ok (.iaload, 1) := by decide +kernel
theorem dX5_read_29 : decode cX5_read 29 = .ok (.aload_n 0, 1) := by decide +kernel
theorem dX5_read_30 : decode cX5_read 30 = .ok (.invokevirtual 175, 3) := by decide +kernel
theorem dX5_read_33 : decode cX5_read 33 = .ok (.iadd, 1) := by decide +kernel
theorem dX5_read_34 : decode cX5_read 34 = .ok (.bipush 40, 2) := by decide +kernel
theorem dX5_read_36 : decode cX5_read 36 = .ok (.if_icmp .le 6, 3) := by decide +kernel
theorem dX5_read_39 : decode cX5_read 39 = .ok (.bipush (-4), 2) := by decide +kernel
theorem dX5_read_41 : decode cX5_read 41 = .ok (.ireturn, 1) := by decide +kernel
theorem dX5_read_42 : decode cX5_read 42 = .ok (.aload_n 0, 1) := by decide +kernel
theorem dX5_read_43 : decode cX5_read 43 = .ok (.getfield 7, 3) := by decide +kernel
theorem dX5_read_46 : decode cX5_read 46 = .ok (.iconst 0, 1) := by decide +kernel
theorem dX5_read_47 : decode cX5_read 47 = .ok (.aload_n 0, 1) := by decide +kernel
theorem dX5_read_48 : decode cX5_read 48 = .ok (.getfield 13, 3) := by decide +kernel
theorem dX5_read_51 : decode cX5_read 51 = .ok (.iconst 0, 1) := by decide +kernel
theorem dX5_read_52 : decode cX5_read 52 = .ok (.invokestatic 41, 3) := by decide +kernel
theorem dX5_read_55 : decode cX5_read 55 = .ok (.aload_n 0, 1) := by decide +kernel
theorem dX5_read_56 : decode cX5_read 56 = .ok (.iconst 1, 1) := by decide +kernel
theorem dX5_read_57 : decode cX5_read 57 = .ok (.invokevirtual 171, 3) := by decide +kernel
theorem dX5_read_60 : decode cX5_read 60 = .ok (.ifCond .ne 7, 3) := by decide +kernel
theorem dX5_read_63 : decode cX5_read 63 = .ok (.iconst 1, 1) := by decide +kernel
theorem dX5_read_64 : decode cX5_read 64 = .ok (.goto 4, 3) := by decide +kernel
theorem dX5_read_67 : decode cX5_read 67 = .ok (.iconst 0, 1) := by decide +kernel
theorem dX5_read_68 : decode cX5_read 68 = .ok (.istore_n 1, 1) := by decide +kernel
theorem dX5_read_69 : decode cX5_read 69 = .ok (.aload_n 0, 1) := by decide +kernel
theorem dX5_read_70 : decode cX5_read 70 = .ok (.getfield 13, 3) := by decide +kernel
theorem dX5_read_73 : decode cX5_read 73 = .ok (.iconst 0, 1) := by decide +kernel
theorem dX5_read_74 : decode cX5_read 74 = .ok (.aload_n 0, 1) := by decide +kernel
theorem dX5_read_75 : decode cX5_read 75 = .ok (.getfield 7, 3) := by decide +kernel
theorem dX5_read_78 : decode cX5_read 78 = .ok (.iconst 0, 1) := by decide +kernel
theorem dX5_read_79 : decode cX5_read 79 = .ok (.invokestatic 41, 3) := by decide +kernel
theorem dX5_read_82 : decode cX5_read 82 = .ok (.iload_n 1, 1) := by decide +kernel
theorem dX5_read_83 : decode cX5_read 83 = .ok (.ifCond .ne 6, 3) := by decide +kernel
theorem dX5_read_86 : decode cX5_read 86 = .ok (.bipush (-5), 2) := by decide +kernel
theorem dX5_read_88 : decode cX5_read 88 = .ok (.ireturn, 1) := by decide +kernel
theorem dX5_read_89 : decode cX5_read 89 = .ok (.aload_n 0, 1) := by decide +kernel
theorem dX5_read_90 : decode cX5_read 90 = .ok (.invokevirtual 101, 3) := by decide +kernel
theorem dX5_read_93 : decode cX5_read 93 = .ok (.aload_n 0, 1) := by decide +kernel
theorem dX5_read_94 : decode cX5_read 94 = .ok (.iconst 1, 1) := by decide +kernel
theorem dX5_read_95 : decode cX5_read 95 = .ok (.invokevirtual 171, 3) := by decide +kernel
theorem dX5_read_98 : decode cX5_read 98 = .ok (.pop, 1) := by decide +kernel
theorem dX5_read_99 : decode cX5_read 99 = .ok (.aload_n 0, 1) := by decide +kernel
theorem dX5_read_100 : decode cX5_read 100 = .ok (.iconst 0, 1) := by decide +kernel
theorem dX5_read_101 : decode cX5_read 101 = .ok (.putfield 145, 3) := by decide +kernel
theorem dX5_read_104 : decode cX5_read 104 = .ok (.aload_n 0, 1) := by decide +kernel
theorem dX5_read_105 : decode cX5_read 105 = .ok (.getfield 7, 3) := by decide +kernel
theorem dX5_read_108 : decode cX5_read 108 = .ok (.iconst 4, 1) := by decide +kernel
theorem dX5_read_109 : decode cX5_read 109 = .ok (.iaload, 1) := by decide +kernel
theorem dX5_read_110 : decode cX5_read 110 = .ok (.ireturn, 1) := by decide +kernel
set_option maxRecDepth 20000 in
theorem ggX5_bridges_X5_part : GoodIn wsX5_bridges wsX5_part := goodIn_r _ [5, 6, 11, 12, 13, 14, 15, 16, 17, 18, 19, 20, 21, 22, 23, 24, 25, 26] (by decide +kernel) (by decide +kernel)
set_option maxRecDepth 20000 in
theorem gX5_bridges_X5_part : GoodIn wsX5_bridges (wsV RX5 49 RX5 yX5_part wsX5_part) := goodIn_app (goodIn_of _ (by decide +kernel)) ggX5_bridges_X5_part
set_option maxRecDepth 20000 in
theorem ggX5_bridges_X5_isHole : GoodIn wsX5_bridges wsX5_isHole := goodIn_r _ [10, 6, 1, 2, 3, 4, 5, 11, 12, 13, 14, 15, 16, 17, 18, 19, 20, 21, 22, 23, 24, 25, 26] (by decide +kernel) (by decide +kernel)
set_option maxRecDepth 20000 in
theorem gX5_bridges_X5_isHole : GoodIn wsX5_bridges (wsV RX5 69 RX5 yX5_isHole wsX5_isHole) := goodIn_app (goodIn_of _ (by decide +kernel)) ggX5_bridges_X5_isHole
theorem dX5_bridges_0 : decode cX5_bridges 0 = .ok (.iconst 0, 1) := by decide +kernel
theorem dX5_bridges_1 : decode cX5_bridges 1 = .ok (.istore_n 3, 1) := by decide +kernel
theorem dX5_bridges_2 : decode cX5_bridges 2 = .ok (.iconst 0, 1) := by decide +kernel
theorem dX5_bridges_3 : decode cX5_bridges 3 = .ok (.istore 4, 2) := by decide +kernel
theorem dX5_bridges_5 : decode cX5_bridges 5 = .ok (.iconst 0, 1) := by decide +kernel
theorem dX5_bridges_6 : decode cX5_bridges 6 = .ok (.istore 5, 2) := by decide +kernel
theorem dX5_bridges_8 : decode cX5_bridges 8 = .ok (.aload_n 0, 1) := by decide +kernel
theorem dX5_bridges_9 : decode cX5_bridges 9 = .ok (.iload_n 1, 1) := by decide +kernel
theorem dX5_bridges_10 : decode cX5_bridges 10 = .ok (.iconst 1, 1) := by decide +kernel
theorem dX5_bridges_11 : decode cX5_bridges 11 = .ok (.invokevirtual 49, 3) := by decide +kernel
theorem dX5_bridges_14 : decode cX5_bridges 14 = .ok (.istore 6, 2) := by decide +kernel
theorem dX5_bridges_16 : decode cX5_bridges 16 = .ok (.iload 6, 2) := by decide +kernel
theorem dX5_bridges_18 : decode cX5_bridges 18 = .ok (.aload_n 0, 1) := by decide +kernel
theorem dX5_bridges_19 : decode cX5_bridges 19 = .ok (.iload_n 1, 1) := by decide +kernel
theorem dX5_bridges_20 : decode cX5_bridges 20 = .ok (.iconst 2, 1) := by decide +kernel
theorem dX5_bridges_21 : decode cX5_bridges 21 = .ok (.invokevirtual 49, 3) := by decide +kernel
theorem dX5_bridges_24 : decode cX5_bridges 24 = .ok (.if_icmp .gt 63, 3) := by decide +kernel
theorem dX5_bridges_27 : decode cX5_bridges 27 = .ok (.aload_n 0, 1) := by decide +kernel
theorem dX5_bridges_28 : decode cX5_bridges 28 = .ok (.iload_n 1, 1) := by decide +kernel
theorem dX5_bridges_29 : decode cX5_bridges 29 = .ok (.iload 6, 2) := by decide +kernel
theorem dX5_bridges_31 : decode cX5_bridges 31 = .ok (.invokevirtual 69, 3) := by decide +kernel
theorem dX5_bridges_34 : decode cX5_bridges 34 = .ok (.ifCond .eq 7, 3) := by decide +kernel
theorem dX5_bridges_37 : decode cX5_bridges 37 = .ok (.iconst 0, 1) := by decide +kernel
theorem dX5_bridges_38 : decode cX5_bridges 38 = .ok (.goto 7, 3) := by decide +kernel
theorem dX5_bridges_41 : decode cX5_bridges 41 = .ok (.iload 4, 2) := by decide +kernel
theorem dX5_bridges_43 : decode cX5_bridges 43 = .ok (.iconst 1, 1) := by decide +kernel
theorem dX5_bridges_44 : decode cX5_bridges 44 = .ok (.iadd, 1) := by decide +kernel
theorem dX5_bridges_45 : decode cX5_bridges 45 = .ok (.istore 4, 2) := by decide +kernel
theorem dX5_bridges_47 : decode cX5_bridges 47 = .ok (.iload_n 3, 1) := by decide +kernel
theorem dX5_bridges_48 : decode cX5_bridges 48 = .ok (.aload_n 0, 1) := by decide +kernel
theorem dX5_bridges_49 : decode cX5_bridges 49 = .ok (.iload_n 1, 1) := by decide +kernel
theorem dX5_bridges_50 : decode cX5_bridges 50 = .ok (.iload 6, 2) := by decide +kernel
theorem dX5_bridges_52 : decode cX5_bridges 52 = .ok (.invokevirtual 69, 3) := by decide +kernel
theorem dX5_bridges_55 : decode cX5_bridges 55 = .ok (.ifCond .eq 7, 3) := by decide +kernel
theorem dX5_bridges_58 : decode cX5_bridges 58 = .ok (.iconst 0, 1) := by decide +kernel
theorem dX5_bridges_59 : decode cX5_bridges 59 = .ok (.goto 4, 3) := by decide +kernel
theorem dX5_bridges_62 : decode cX5_bridges 62 = .ok (.iconst 1, 1) := by decide +kernel
theorem dX5_bridges_63 : decode cX5_bridges 63 = .ok (.iadd, 1) := by decide +kernel
theorem dX5_bridges_64 : decode cX5_bridges 64 = .ok (.istore_n 3, 1) := by decide +kernel
theorem dX5_bridges_65 : decode cX5_bridges 65 = .ok (.iload 4, 2) := by decide +kernel
theorem dX5_bridges_67 : decode cX5_bridges 67 = .ok (.iload 5, 2) := by decide +kernel
theorem dX5_bridges_69 : decode cX5_bridges 69 = .ok (.if_icmp .le 8, 3) := by decide +kernel
theorem dX5_bridges_72 : decode cX5_bridges 72 = .ok (.iload 4, 2) := by decide +kernel
theorem dX5_bridges_74 : decode cX5_bridges 74 = .ok (.goto 5, 3) := by decide +kernel
theorem dX5_bridges_77 : decode cX5_bridges 77 = .ok (.iload 5, 2) := by decide +kernel
theorem dX5_bridges_79 : decode cX5_bridges 79 = .ok (.istore 5, 2) := by decide +kernel
theorem dX5_bridges_81 : decode cX5_bridges 81 = .ok (.iinc 6 1, 3) := by decide +kernel
theorem dX5_bridges_84 : decode cX5_bridges 84 = .ok (.goto (-68), 3) := by decide +kernel
theorem dX5_bridges_87 : decode cX5_bridges 87 = .ok (.iload_n 2, 1) := by decide +kernel
theorem dX5_bridges_88 : decode cX5_bridges 88 = .ok (.ifCond .eq 8, 3) := by decide +kernel
theorem dX5_bridges_91 : decode cX5_bridges 91 = .ok (.iload 5, 2) := by decide +kernel
theorem dX5_bridges_93 : decode cX5_bridges 93 = .ok (.goto 4, 3) := by decide +kernel
theorem dX5_bridges_96 : decode cX5_bridges 96 = .ok (.iload_n 3, 1) := by decide +kernel
theorem dX5_bridges_97 : decode cX5_bridges 97 = .ok (.ireturn, 1) := by decide +kernel
set_option maxRecDepth 20000 in
theorem ggX5_of_X5_isNote : GoodIn wsX5_of wsX5_isNote := goodIn_r _ [5, 6, 7, 8, 4, 9, 40, 41, 42, 43, 44, 45, 46, 47, 48, 49, 50, 51, 52, 53, 54, 55] (by decide +kernel) (by decide +kernel)
set_option maxRecDepth 20000 in
theorem gX5_of_X5_isNote : GoodIn wsX5_of (wsV RX5 113 RX5 yX5_isNote wsX5_isNote) := goodIn_app (goodIn_of _ (by decide +kernel)) ggX5_of_X5_isNote
set_option maxRecDepth 20000 in
theorem ggX5_of_X5_part : GoodIn wsX5_of wsX5_part := goodIn_r _ [13, 6, 40, 41, 42, 43, 44, 45, 46, 47, 48, 49, 50, 51, 52, 53, 54, 55] (by decide +kernel) (by decide +kernel)
set_option maxRecDepth 20000 in
theorem gX5_of_X5_part : GoodIn wsX5_of (wsV RX5 49 RX5 yX5_part wsX5_part) := goodIn_app (goodIn_of _ (by decide +kernel)) ggX5_of_X5_part
set_option maxRecDepth 20000 in
theorem ggX5_of_X5_bridges : GoodIn wsX5_of wsX5_bridges := goodIn_r _ [17, 10, 11, 12, 4, 13, 6, 18, 19, 20, 21, 40, 41, 42, 43, 44, 45, 46, 47, 48, 49, 50, 51, 52, 53, 54, 55] (by decide +kernel) (by decide +kernel)
set_option maxRecDepth 20000 in
theorem gX5_of_X5_bridges : GoodIn wsX5_of (wsV RX5 178 RX5 yX5_bridges wsX5_bridges) := goodIn_app (goodIn_of _ (by decide +kernel)) ggX5_of_X5_bridges
set_option maxRecDepth 20000 in
theorem ggX5_of_X5_findHeard : GoodIn wsX5_of wsX5_findHeard := goodIn_r _ [25, 26, 6, 27, 28, 29, 30, 4, 31, 10, 11, 12, 13, 18, 19, 20, 21, 40, 41, 42, 43, 44, 45, 46, 47, 48, 49, 50, 51, 52, 53, 54, 55] (by decide +kernel) (by decide +kernel)
set_option maxRecDepth 20000 in
theorem gX5_of_X5_findHeard : GoodIn wsX5_of (wsV RX5 92 RX5 yX5_findHeard wsX5_findHeard) := goodIn_app (goodIn_of _ (by decide +kernel)) ggX5_of_X5_findHeard
set_option maxRecDepth 20000 in
theorem ggX5_of_X5_isWholeHeard : GoodIn wsX5_of wsX5_isWholeHeard := goodIn_r _ [35, 10, 11, 12, 4, 13, 6, 36, 37, 38, 39, 26, 40, 41, 42, 43, 44, 45, 46, 47, 48, 49, 50, 51, 52, 53, 54, 55] (by decide +kernel) (by decide +kernel)
set_option maxRecDepth 20000 in
theorem gX5_of_X5_isWholeHeard : GoodIn wsX5_of (wsV RX5 95 RX5 yX5_isWholeHeard wsX5_isWholeHeard) := goodIn_app (goodIn_of _ (by decide +kernel)) ggX5_of_X5_isWholeHeard
theorem dX5_of_0 : decode cX5_of 0 = .ok (.aload_n 0, 1) := by decide +kernel
theorem dX5_of_1 : decode cX5_of 1 = .ok (.iload_n 1, 1) := by decide +kernel
theorem dX5_of_2 : decode cX5_of 2 = .ok (.invokevirtual 113, 3) := by decide +kernel
theorem dX5_of_5 : decode cX5_of 5 = .ok (.ifCond .ne 5, 3) := by decide +kernel
theorem dX5_of_8 : decode cX5_of 8 = .ok (.iconst (-1), 1) := by decide +kernel
theorem dX5_of_9 : decode cX5_of 9 = .ok (.ireturn, 1) := by decide +kernel
theorem dX5_of_10 : decode cX5_of 10 = .ok (.iload_n 2, 1) := by decide +kernel
theorem dX5_of_11 : decode cX5_of 11 = .ok (.tableswitch 84 0 7 #[45, 45, 45, 45, 45, 52, 59, 66], 45) := by decide +kernel
theorem dX5_of_56 : decode cX5_of 56 = .ok (.aload_n 0, 1) := by decide +kernel
theorem dX5_of_57 : decode cX5_of 57 = .ok (.iload_n 1, 1) := by decide +kernel
theorem dX5_of_58 : decode cX5_of 58 = .ok (.iload_n 2, 1) := by decide +kernel
theorem dX5_of_59 : decode cX5_of 59 = .ok (.invokevirtual 49, 3) := by decide +kernel
theorem dX5_of_62 : decode cX5_of 62 = .ok (.ireturn, 1) := by decide +kernel
theorem dX5_of_63 : decode cX5_of 63 = .ok (.aload_n 0, 1) := by decide +kernel
theorem dX5_of_64 : decode cX5_of 64 = .ok (.iload_n 1, 1) := by decide +kernel
theorem dX5_of_65 : decode cX5_of 65 = .ok (.iconst 0, 1) := by decide +kernel
theorem dX5_of_66 : decode cX5_of 66 = .ok (.invokevirtual 178, 3) := by decide +kernel
theorem dX5_of_69 : decode cX5_of 69 = .ok (.ireturn, 1) := by decide +kernel
theorem dX5_of_70 : decode cX5_of 70 = .ok (.aload_n 0, 1) := by decide +kernel
theorem dX5_of_71 : decode cX5_of 71 = .ok (.iload_n 1, 1) := by decide +kernel
theorem dX5_of_72 : decode cX5_of 72 = .ok (.iconst 1, 1) := by decide +kernel
theorem dX5_of_73 : decode cX5_of 73 = .ok (.invokevirtual 178, 3) := by decide +kernel
theorem dX5_of_76 : decode cX5_of 76 = .ok (.ireturn, 1) := by decide +kernel
theorem dX5_of_77 : decode cX5_of 77 = .ok (.aload_n 0, 1) := by decide +kernel
theorem dX5_of_78 : decode cX5_of 78 = .ok (.invokevirtual 92, 3) := by decide +kernel
theorem dX5_of_81 : decode cX5_of 81 = .ok (.aload_n 0, 1) := by decide +kernel
theorem dX5_of_82 : decode cX5_of 82 = .ok (.iload_n 1, 1) := by decide +kernel
theorem dX5_of_83 : decode cX5_of 83 = .ok (.invokevirtual 95, 3) := by decide +kernel
theorem dX5_of_86 : decode cX5_of 86 = .ok (.ifCond .eq 7, 3) := by decide +kernel
theorem dX5_of_89 : decode cX5_of 89 = .ok (.iconst 1, 1) := by decide +kernel
theorem dX5_of_90 : decode cX5_of 90 = .ok (.goto 4, 3) := by decide +kernel
theorem dX5_of_93 : decode cX5_of 93 = .ok (.iconst 0, 1) := by decide +kernel
theorem dX5_of_94 : decode cX5_of 94 = .ok (.ireturn, 1) := by decide +kernel
theorem dX5_of_95 : decode cX5_of 95 = .ok (.bipush (-2), 2) := by decide +kernel
theorem dX5_of_97 : decode cX5_of 97 = .ok (.ireturn, 1) := by decide +kernel
set_option maxRecDepth 20000 in
theorem ggX5_tracksAt_X5_part : GoodIn wsX5_tracksAt wsX5_part := goodIn_r _ [6, 1, 10, 11, 12, 13, 14, 15, 16, 17, 18, 19, 20, 21, 22, 23, 24, 25] (by decide +kernel) (by decide +kernel)
set_option maxRecDepth 20000 in
theorem gX5_tracksAt_X5_part : GoodIn wsX5_tracksAt (wsV RX5 49 RX5 yX5_part wsX5_part) := goodIn_app (goodIn_of _ (by decide +kernel)) ggX5_tracksAt_X5_part
set_option maxRecDepth 20000 in
theorem ggX5_tracksAt_X5_within : GoodIn wsX5_tracksAt wsX5_within := goodIn_r _ [9] (by decide +kernel) (by decide +kernel)
set_option maxRecDepth 20000 in
theorem gX5_tracksAt_X5_within : GoodIn wsX5_tracksAt (va_wsS RX5 45 yX5_within wsX5_within) := goodIn_app (goodIn_of _ (by decide +kernel)) ggX5_tracksAt_X5_within
theorem dX5_tracksAt_0 : decode cX5_tracksAt 0 = .ok (.iconst 0, 1) := by decide +kernel
theorem dX5_tracksAt_1 : decode cX5_tracksAt 1 = .ok (.istore_n 2, 1) := by decide +kernel
theorem dX5_tracksAt_2 : decode cX5_tracksAt 2 = .ok (.iconst 0, 1) := by decide +kernel
theorem dX5_tracksAt_3 : decode cX5_tracksAt 3 = .ok (.istore_n 3, 1) := by decide +kernel
theorem dX5_tracksAt_4 : decode cX5_tracksAt 4 = .ok (.iload_n 3, 1) := by decide +kernel
theorem dX5_tracksAt_5 : decode cX5_tracksAt 5 = .ok (.aload_n 0, 1) := by decide +kernel
theorem dX5_tracksAt_6 : decode cX5_tracksAt 6 = .ok (.getfield 7, 3) := by decide +kernel
theorem dX5_tracksAt_9 : decode cX5_tracksAt 9 = .ok (.iconst 4, 1) := by decide +kernel
theorem dX5_tracksAt_10 : decode cX5_tracksAt 10 = .ok (.iaload, 1) := by decide +kernel
theorem dX5_tracksAt_11 : decode cX5_tracksAt 11 = .ok (.if_icmp .ge 43, 3) := by decide +kernel
theorem dX5_tracksAt_14 : decode cX5_tracksAt 14 = .ok (.iload_n 2, 1) := by decide +kernel
theorem dX5_tracksAt_15 : decode cX5_tracksAt 15 = .ok (.iload_n 1, 1) := by decide +kernel
theorem dX5_tracksAt_16 : decode cX5_tracksAt 16 = .ok (.aload_n 0, 1) := by decide +kernel
theorem dX5_tracksAt_17 : decode cX5_tracksAt 17 = .ok (.iload_n 3, 1) := by decide +kernel
theorem dX5_tracksAt_18 : decode cX5_tracksAt 18 = .ok (.iconst 1, 1) := by decide +kernel
theorem dX5_tracksAt_19 : decode cX5_tracksAt 19 = .ok (.invokevirtual 49, 3) := by decide +kernel
theorem dX5_tracksAt_22 : decode cX5_tracksAt 22 = .ok (.aload_n 0, 1) := by decide +kernel
theorem dX5_tracksAt_23 : decode cX5_tracksAt 23 = .ok (.iload_n 3, 1) := by decide +kernel
theorem dX5_tracksAt_24 : decode cX5_tracksAt 24 = .ok (.iconst 2, 1) := by decide +kernel
theorem dX5_tracksAt_25 : decode cX5_tracksAt 25 = .ok (.invokevirtual 49, 3) := by decide +kernel
theorem dX5_tracksAt_28 : decode cX5_tracksAt 28 = .ok (.invokestatic 45, 3) := by decide +kernel
theorem dX5_tracksAt_31 : decode cX5_tracksAt 31 = .ok (.ifCond .eq 14, 3) := by decide +kernel
theorem dX5_tracksAt_34 : decode cX5_tracksAt 34 = .ok (.iconst 1, 1) := by decide +kernel
theorem dX5_tracksAt_35 : decode cX5_tracksAt 35 = .ok (.aload_n 0, 1) := by decide +kernel
theorem dX5_tracksAt_36 : decode cX5_tracksAt 36 = .ok (.iload_n 3, 1) := by decide +kernel
theorem dX5_tracksAt_37 : decode cX5_tracksAt 37 = .ok (.iconst 0, 1) := by decide +kernel
theorem dX5_tracksAt_38 : decode cX5_tracksAt 38 = .ok (.invokevirtual 49, 3) := by decide +kernel
theorem dX5_tracksAt_41 : decode cX5_tracksAt 41 = .ok (.ishl, 1) := by decide +kernel
theorem dX5_tracksAt_42 : decode cX5_tracksAt 42 = .ok (.goto 4, 3) := by decide +kernel
theorem dX5_tracksAt_45 : decode cX5_tracksAt 45 = .ok (.iconst 0, 1) := by decide +kernel
theorem dX5_tracksAt_46 : decode cX5_tracksAt 46 = .ok (.ior, 1) := by decide +kernel
theorem dX5_tracksAt_47 : decode cX5_tracksAt 47 = .ok (.istore_n 2, 1) := by decide +kernel
theorem dX5_tracksAt_48 : decode cX5_tracksAt 48 = .ok (.iinc 3 1, 3) := by decide +kernel
theorem dX5_tracksAt_51 : decode cX5_tracksAt 51 = .ok (.goto (-47), 3) := by decide +kernel
theorem dX5_tracksAt_54 : decode cX5_tracksAt 54 = .ok (.iload_n 2, 1) := by decide +kernel
theorem dX5_tracksAt_55 : decode cX5_tracksAt 55 = .ok (.ireturn, 1) := by decide +kernel
set_option maxRecDepth 20000 in
theorem ggX5_at_X5_isStep : GoodIn wsX5_at wsX5_isStep := goodIn_r _ [6, 7, 8, 5, 9] (by decide +kernel) (by decide +kernel)
set_option maxRecDepth 20000 in
theorem gX5_at_X5_isStep : GoodIn wsX5_at (va_wsS RX5 107 yX5_isStep wsX5_isStep) := goodIn_app (goodIn_of _ (by decide +kernel)) ggX5_at_X5_isStep
set_option maxRecDepth 20000 in
theorem ggX5_at_X5_findHeard : GoodIn wsX5_at wsX5_findHeard := goodIn_r _ [13, 2, 14, 1, 15, 16, 17, 5, 18, 19, 20, 21, 22, 23, 24, 25, 26, 38, 39, 40, 41, 42, 43, 44, 45, 46, 47, 48, 49, 50, 51, 52, 53] (by decide +kernel) (by decide +kernel)
set_option maxRecDepth 20000 in
theorem gX5_at_X5_findHeard : GoodIn wsX5_at (wsV RX5 92 RX5 yX5_findHeard wsX5_findHeard) := goodIn_app (goodIn_of _ (by decide +kernel)) ggX5_at_X5_findHeard
set_option maxRecDepth 20000 in
theorem ggX5_at_X5_tracksAt : GoodIn wsX5_at wsX5_tracksAt := goodIn_r _ [30, 14, 19, 20, 21, 5, 22, 7, 8, 9, 38, 39, 40, 41, 42, 43, 44, 45, 46, 47, 48, 49, 50, 51, 52, 53] (by decide +kernel) (by decide +kernel)
set_option maxRecDepth 20000 in
theorem gX5_at_X5_tracksAt : GoodIn wsX5_at (wsV RX5 182 RX5 yX5_tracksAt wsX5_tracksAt) := goodIn_app (goodIn_of _ (by decide +kernel)) ggX5_at_X5_tracksAt
set_option maxRecDepth 20000 in
theorem ggX5_at_X5_sideBySide : GoodIn wsX5_at wsX5_sideBySide := goodIn_r _ [33] (by decide +kernel) (by decide +kernel)
set_option maxRecDepth 20000 in
theorem gX5_at_X5_sideBySide : GoodIn wsX5_at (va_wsS RX5 76 yX5_sideBySide wsX5_sideBySide) := goodIn_app (goodIn_of _ (by decide +kernel)) ggX5_at_X5_sideBySide
set_option maxRecDepth 20000 in
theorem ggX5_at_X5_isWeak : GoodIn wsX5_at wsX5_isWeak := goodIn_r _ [37, 1, 14, 31, 32, 5, 33, 38, 39, 40, 41, 42, 43, 44, 45, 46, 47, 48, 49, 50, 51, 52, 53] (by decide +kernel) (by decide +kernel)
set_option maxRecDepth 20000 in
theorem gX5_at_X5_isWeak : GoodIn wsX5_at (wsV RX5 79 RX5 yX5_isWeak wsX5_isWeak) := goodIn_app (goodIn_of _ (by decide +kernel)) ggX5_at_X5_isWeak
theorem dX5_at_0 : decode cX5_at 0 = .ok (.iload_n 1, 1) := by decide +kernel
theorem dX5_at_1 : decode cX5_at 1 = .ok (.invokestatic 107, 3) := by decide +kernel
theorem dX5_at_4 : decode cX5_at 4 = .ok (.ifCond .ne 6, 3) := by decide +kernel
theorem dX5_at_7 : decode cX5_at 7 = .ok (.bipush (-2), 2) := by decide +kernel
theorem dX5_at_9 : decode cX5_at 9 = .ok (.ireturn, 1) := by decide +kernel
theorem dX5_at_10 : decode cX5_at 10 = .ok (.aload_n 0, 1) := by decide +kernel
theorem dX5_at_11 : decode cX5_at 11 = .ok (.invokevirtual 92, 3) := by decide +kernel
theorem dX5_at_14 : decode cX5_at 14 = .ok (.iload_n 2, 1) := by decide +kernel
theorem dX5_at_15 : decode cX5_at 15 = .ok (.tableswitch 77 0 4 #[33, 40, 47, 53, 63], 33) := by decide +kernel
theorem dX5_at_48 : decode cX5_at 48 = .ok (.aload_n 0, 1) := by decide +kernel
theorem dX5_at_49 : decode cX5_at 49 = .ok (.getfield 28, 3) := by decide +kernel
theorem dX5_at_52 : decode cX5_at 52 = .ok (.iload_n 1, 1) := by decide +kernel
theorem dX5_at_53 : decode cX5_at 53 = .ok (.iaload, 1) := by decide +kernel
theorem dX5_at_54 : decode cX5_at 54 = .ok (.ireturn, 1) := by decide +kernel
theorem dX5_at_55 : decode cX5_at 55 = .ok (.aload_n 0, 1) := by decide +kernel
theorem dX5_at_56 : decode cX5_at 56 = .ok (.getfield 31, 3) := by decide +kernel
theorem dX5_at_59 : decode cX5_at 59 = .ok (.iload_n 1, 1) := by decide +kernel
theorem dX5_at_60 : decode cX5_at 60 = .ok (.iaload, 1) := by decide +kernel
theorem dX5_at_61 : decode cX5_at 61 = .ok (.ireturn, 1) := by decide +kernel
theorem dX5_at_62 : decode cX5_at 62 = .ok (.aload_n 0, 1) := by decide +kernel
theorem dX5_at_63 : decode cX5_at 63 = .ok (.iload_n 1, 1) := by decide +kernel
theorem dX5_at_64 : decode cX5_at 64 = .ok (.invokevirtual 182, 3) := by decide +kernel
theorem dX5_at_67 : decode cX5_at 67 = .ok (.ireturn, 1) := by decide +kernel
theorem dX5_at_68 : decode cX5_at 68 = .ok (.aload_n 0, 1) := by decide +kernel
theorem dX5_at_69 : decode cX5_at 69 = .ok (.getfield 28, 3) := by decide +kernel
theorem dX5_at_72 : decode cX5_at 72 = .ok (.iload_n 1, 1) := by decide +kernel
theorem dX5_at_73 : decode cX5_at 73 = .ok (.iaload, 1) := by decide +kernel
theorem dX5_at_74 : decode cX5_at 74 = .ok (.invokestatic 76, 3) := by decide +kernel
theorem dX5_at_77 : decode cX5_at 77 = .ok (.ireturn, 1) := by decide +kernel
theorem dX5_at_78 : decode cX5_at 78 = .ok (.aload_n 0, 1) := by decide +kernel
theorem dX5_at_79 : decode cX5_at 79 = .ok (.iload_n 1, 1) := by decide +kernel
theorem dX5_at_80 : decode cX5_at 80 = .ok (.invokevirtual 79, 3) := by decide +kernel
theorem dX5_at_83 : decode cX5_at 83 = .ok (.ifCond .eq 7, 3) := by decide +kernel
theorem dX5_at_86 : decode cX5_at 86 = .ok (.iconst 1, 1) := by decide +kernel
theorem dX5_at_87 : decode cX5_at 87 = .ok (.goto 4, 3) := by decide +kernel
theorem dX5_at_90 : decode cX5_at 90 = .ok (.iconst 0, 1) := by decide +kernel
theorem dX5_at_91 : decode cX5_at 91 = .ok (.ireturn, 1) := by decide +kernel
theorem dX5_at_92 : decode cX5_at 92 = .ok (.bipush (-2), 2) := by decide +kernel
theorem dX5_at_94 : decode cX5_at 94 = .ok (.ireturn, 1) := by decide +kernel
set_option maxRecDepth 20000 in
theorem ggX5_notesIn_X5_part : GoodIn wsX5_notesIn wsX5_part := goodIn_r _ [6, 1, 7, 8, 9, 10, 11, 12, 13, 14, 15, 16, 17, 18, 19, 20, 21, 22] (by decide +kernel) (by decide +kernel)
set_option maxRecDepth 20000 in
theorem gX5_notesIn_X5_part : GoodIn wsX5_notesIn (wsV RX5 49 RX5 yX5_part wsX5_part) := goodIn_app (goodIn_of _ (by decide +kernel)) ggX5_notesIn_X5_part
theorem dX5_notesIn_0 : decode cX5_notesIn 0 = .ok (.iconst 0, 1) := by decide +kernel
theorem dX5_notesIn_1 : decode cX5_notesIn 1 = .ok (.istore 4, 2) := by decide +kernel
theorem dX5_notesIn_3 : decode cX5_notesIn 3 = .ok (.iconst 0, 1) := by decide +kernel
theorem dX5_notesIn_4 : decode cX5_notesIn 4 = .ok (.istore 5, 2) := by decide +kernel
theorem dX5_notesIn_6 : decode cX5_notesIn 6 = .ok (.iload 5, 2) := by decide +kernel
theorem dX5_notesIn_8 : decode cX5_notesIn 8 = .ok (.aload_n 0, 1) := by decide +kernel
theorem dX5_notesIn_9 : decode cX5_notesIn 9 = .ok (.getfield 7, 3) := by decide +kernel
theorem dX5_notesIn_12 : decode cX5_notesIn 12 = .ok (.iconst 4, 1) := by decide +kernel
theorem dX5_notesIn_13 : decode cX5_notesIn 13 = .ok (.iaload, 1) := by decide +kernel
theorem dX5_notesIn_14 : decode cX5_notesIn 14 = .ok (.if_icmp .ge 52, 3) := by decide +kernel
theorem dX5_notesIn_17 : decode cX5_notesIn 17 = .ok (.iload 4, 2) := by decide +kernel
theorem dX5_notesIn_19 : decode cX5_notesIn 19 = .ok (.aload_n 0, 1) := by decide +kernel
theorem dX5_notesIn_20 : decode cX5_notesIn 20 = .ok (.iload 5, 2) := by decide +kernel
theorem dX5_notesIn_22 : decode cX5_notesIn 22 = .ok (.iconst 0, 1) := by decide +kernel
theorem dX5_notesIn_23 : decode cX5_notesIn 23 = .ok (.invokevirtual 49, 3) := by decide +kernel
theorem dX5_notesIn_26 : decode cX5_notesIn 26 = .ok (.iload_n 1, 1) := by decide +kernel
theorem dX5_notesIn_27 : decode cX5_notesIn 27 = .ok (.if_icmp .ne 29, 3) := by decide +kernel
theorem dX5_notesIn_30 : decode cX5_notesIn 30 = .ok (.aload_n 0, 1) := by decide +kernel
theorem dX5_notesIn_31 : decode cX5_notesIn 31 = .ok (.iload 5, 2) := by decide +kernel
theorem dX5_notesIn_33 : decode cX5_notesIn 33 = .ok (.iconst 1, 1) := by decide +kernel
theorem dX5_notesIn_34 : decode cX5_notesIn 34 = .ok (.invokevirtual 49, 3) := by decide +kernel
theorem dX5_notesIn_37 : decode cX5_notesIn 37 = .ok (.iload_n 3, 1) := by decide +kernel
theorem dX5_notesIn_38 : decode cX5_notesIn 38 = .ok (.if_icmp .gt 18, 3) := by decide +kernel
theorem dX5_notesIn_41 : decode cX5_notesIn 41 = .ok (.aload_n 0, 1) := by decide +kernel
theorem dX5_notesIn_42 : decode cX5_notesIn 42 = .ok (.iload 5, 2) := by decide +kernel
theorem dX5_notesIn_44 : decode cX5_notesIn 44 = .ok (.iconst 2, 1) := by decide +kernel
theorem dX5_notesIn_45 : decode cX5_notesIn 45 = .ok (.invokevirtual 49, 3) := by decide +kernel
theorem dX5_notesIn_48 : decode cX5_notesIn 48 = .ok (.iload_n 2, 1) := by decide +kernel
theorem dX5_notesIn_49 : decode cX5_notesIn 49 = .ok (.if_icmp .lt 7, 3) := by decide +kernel
theorem dX5_notesIn_52 : decode cX5_notesIn 52 = .ok (.iconst 1, 1) := by decide +kernel
theorem dX5_notesIn_53 : decode cX5_notesIn 53 = .ok (.goto 4, 3) := by decide +kernel
theorem dX5_notesIn_56 : decode cX5_notesIn 56 = .ok (.iconst 0, 1) := by decide +kernel
theorem dX5_notesIn_57 : decode cX5_notesIn 57 = .ok (.iadd, 1) := by decide +kernel
theorem dX5_notesIn_58 : decode cX5_notesIn 58 = .ok (.istore 4, 2) := by decide +kernel
theorem dX5_notesIn_60 : decode cX5_notesIn 60 = .ok (.iinc 5 1, 3) := by decide +kernel
theorem dX5_notesIn_63 : decode cX5_notesIn 63 = .ok (.goto (-57), 3) := by decide +kernel
theorem dX5_notesIn_66 : decode cX5_notesIn 66 = .ok (.iload 4, 2) := by decide +kernel
theorem dX5_notesIn_68 : decode cX5_notesIn 68 = .ok (.ireturn, 1) := by decide +kernel
set_option maxRecDepth 20000 in
theorem ggX5_sound_X5_isTrack : GoodIn wsX5_sound wsX5_isTrack := goodIn_r _ [4, 5, 6, 3, 7] (by decide +kernel) (by decide +kernel)
set_option maxRecDepth 20000 in
theorem gX5_sound_X5_isTrack : GoodIn wsX5_sound (va_wsS RX5 104 yX5_isTrack wsX5_isTrack) := goodIn_app (goodIn_of _ (by decide +kernel)) ggX5_sound_X5_isTrack
set_option maxRecDepth 20000 in
theorem ggX5_sound_X5_findHeard : GoodIn wsX5_sound wsX5_findHeard := goodIn_r _ [11, 12, 13, 14, 15, 16, 17, 3, 18, 19, 20, 21, 22, 23, 24, 25, 26, 47, 48, 49, 50, 51, 52, 53, 54, 55, 56, 57, 58, 59, 60, 61, 62] (by decide +kernel) (by decide +kernel)
set_option maxRecDepth 20000 in
theorem gX5_sound_X5_findHeard : GoodIn wsX5_sound (wsV RX5 92 RX5 yX5_findHeard wsX5_findHeard) := goodIn_app (goodIn_of _ (by decide +kernel)) ggX5_sound_X5_findHeard
set_option maxRecDepth 20000 in
theorem ggX5_sound_X5_beginOf : GoodIn wsX5_sound wsX5_beginOf := goodIn_r _ [30, 31, 32, 33, 3, 34, 35, 36, 37, 38, 12, 47, 48, 49, 50, 51, 52, 53, 54, 55, 56, 57, 58, 59, 60, 61, 62] (by decide +kernel) (by decide +kernel)
set_option maxRecDepth 20000 in
theorem gX5_sound_X5_beginOf : GoodIn wsX5_sound (wsV RX5 185 RX5 yX5_beginOf wsX5_beginOf) := goodIn_app (goodIn_of _ (by decide +kernel)) ggX5_sound_X5_beginOf
set_option maxRecDepth 20000 in
theorem ggX5_sound_X5_endOf : GoodIn wsX5_sound wsX5_endOf := goodIn_r _ [42, 35, 36, 37, 3, 38, 12, 47, 48, 49, 50, 51, 52, 53, 54, 55, 56, 57, 58, 59, 60, 61, 62] (by decide +kernel) (by decide +kernel)
set_option maxRecDepth 20000 in
theorem gX5_sound_X5_endOf : GoodIn wsX5_sound (wsV RX5 188 RX5 yX5_endOf wsX5_endOf) := goodIn_app (goodIn_of _ (by decide +kernel)) ggX5_sound_X5_endOf
set_option maxRecDepth 20000 in
theorem ggX5_sound_X5_notesIn : GoodIn wsX5_sound wsX5_notesIn := goodIn_r _ [46, 13, 19, 20, 21, 3, 22, 47, 48, 49, 50, 51, 52, 53, 54, 55, 56, 57, 58, 59, 60, 61, 62] (by decide +kernel) (by decide +kernel)
set_option maxRecDepth 20000 in
theorem gX5_sound_X5_notesIn : GoodIn wsX5_sound (wsV RX5 191 RX5 yX5_notesIn wsX5_notesIn) := goodIn_app (goodIn_of _ (by decide +kernel)) ggX5_sound_X5_notesIn
theorem dX5_sound_0 : decode cX5_sound 0 = .ok (.iload_n 1, 1) := by decide +kernel
theorem dX5_sound_1 : decode cX5_sound 1 = .ok (.invokestatic 104, 3) := by decide +kernel
theorem dX5_sound_4 : decode cX5_sound 4 = .ok (.ifCond .eq 7, 3) := by decide +kernel
theorem dX5_sound_7 : decode cX5_sound 7 = .ok (.iload_n 2, 1) := by decide +kernel
theorem dX5_sound_8 : decode cX5_sound 8 = .ok (.ifCond .ge 5, 3) := by decide +kernel
theorem dX5_sound_11 : decode cX5_sound 11 = .ok (.iconst (-1), 1) := by decide +kernel
theorem dX5_sound_12 : decode cX5_sound 12 = .ok (.ireturn, 1) := by decide +kernel
theorem dX5_sound_13 : decode cX5_sound 13 = .ok (.aload_n 0, 1) := by decide +kernel
theorem dX5_sound_14 : decode cX5_sound 14 = .ok (.invokevirtual 92, 3) := by decide +kernel
theorem dX5_sound_17 : decode cX5_sound 17 = .ok (.aload_n 0, 1) := by decide +kernel
theorem dX5_sound_18 : decode cX5_sound 18 = .ok (.iload_n 1, 1) := by decide +kernel
theorem dX5_sound_19 : decode cX5_sound 19 = .ok (.iload_n 2, 1) := by decide +kernel
theorem dX5_sound_20 : decode cX5_sound 20 = .ok (.invokevirtual 185, 3) := by decide +kernel
theorem dX5_sound_23 : decode cX5_sound 23 = .ok (.istore 4, 2) := by decide +kernel
theorem dX5_sound_25 : decode cX5_sound 25 = .ok (.iload 4, 2) := by decide +kernel
theorem dX5_sound_27 : decode cX5_sound 27 = .ok (.bipush (-6), 2) := by decide +kernel
theorem dX5_sound_29 : decode cX5_sound 29 = .ok (.if_icmp .ne 5, 3) := by decide +kernel
theorem dX5_sound_32 : decode cX5_sound 32 = .ok (.iconst (-1), 1) := by decide +kernel
theorem dX5_sound_33 : decode cX5_sound 33 = .ok (.ireturn, 1) := by decide +kernel
theorem dX5_sound_34 : decode cX5_sound 34 = .ok (.aload_n 0, 1) := by decide +kernel
theorem dX5_sound_35 : decode cX5_sound 35 = .ok (.iload_n 1, 1) := by decide +kernel
theorem dX5_sound_36 : decode cX5_sound 36 = .ok (.iload 4, 2) := by decide +kernel
theorem dX5_sound_38 : decode cX5_sound 38 = .ok (.invokevirtual 188, 3) := by decide +kernel
theorem dX5_sound_41 : decode cX5_sound 41 = .ok (.istore 5, 2) := by decide +kernel
theorem dX5_sound_43 : decode cX5_sound 43 = .ok (.iload_n 3, 1) := by decide +kernel
theorem dX5_sound_44 : decode cX5_sound 44 = .ok (.ifCond .ne 8, 3) := by decide +kernel
theorem dX5_sound_47 : decode cX5_sound 47 = .ok (.iload 4, 2) := by decide +kernel
theorem dX5_sound_49 : decode cX5_sound 49 = .ok (.goto 32, 3) := by decide +kernel
theorem dX5_sound_52 : decode cX5_sound 52 = .ok (.iload_n 3, 1) := by decide +kernel
theorem dX5_sound_53 : decode cX5_sound 53 = .ok (.iconst 1, 1) := by decide +kernel
theorem dX5_sound_54 : decode cX5_sound 54 = .ok (.if_icmp .ne 8, 3) := by decide +kernel
theorem dX5_sound_57 : decode cX5_sound 57 = .ok (.iload 5, 2) := by decide +kernel
theorem dX5_sound_59 : decode cX5_sound 59 = .ok (.goto 22, 3) := by decide +kernel
theorem dX5_sound_62 : decode cX5_sound 62 = .ok (.iload_n 3, 1) := by decide +kernel
theorem dX5_sound_63 : decode cX5_sound 63 = .ok (.iconst 2, 1) := by decide +kernel
theorem dX5_sound_64 : decode cX5_sound 64 = .ok (.if_icmp .ne 15, 3) := by decide +kernel
theorem dX5_sound_67 : decode cX5_sound 67 = .ok (.aload_n 0, 1) := by decide +kernel
theorem dX5_sound_68 : decode cX5_sound 68 = .ok (.iload_n 1, 1) := by decide +kernel
theorem dX5_sound_69 : decode cX5_sound 69 = .ok (.iload 4, 2) := by decide +kernel
theorem dX5_sound_71 : decode cX5_sound 71 = .ok (.iload 5, 2) := by decide +kernel
theorem dX5_sound_73 : decode cX5_sound 73 = .ok (.invokevirtual 191, 3) := by decide +kernel
theorem dX5_sound_76 : decode cX5_sound 76 = .ok (.goto 5, 3) := by decide +kernel
theorem dX5_sound_79 : decode cX5_sound 79 = .ok (.bipush (-2), 2) := by decide +kernel
theorem dX5_sound_81 : decode cX5_sound 81 = .ok (.ireturn, 1) := by decide +kernel
set_option maxRecDepth 20000 in
theorem ggX5_greatestLast_X5_part : GoodIn wsX5_greatestLast wsX5_part := goodIn_r _ [6, 1, 7, 8, 9, 10, 11, 12, 13, 14, 15, 16, 17, 18, 19, 20, 21, 22] (by decide +kernel) (by decide +kernel)
set_option maxRecDepth 20000 in
theorem gX5_greatestLast_X5_part : GoodIn wsX5_greatestLast (wsV RX5 49 RX5 yX5_part wsX5_part) := goodIn_app (goodIn_of _ (by decide +kernel)) ggX5_greatestLast_X5_part
theorem dX5_greatestLast_0 : decode cX5_greatestLast 0 = .ok (.bipush (-6), 2) := by decide +kernel
theorem dX5_greatestLast_2 : decode cX5_greatestLast 2 = .ok (.istore_n 1, 1) := by decide +kernel
theorem dX5_greatestLast_3 : decode cX5_greatestLast 3 = .ok (.iconst 0, 1) := by decide +kernel
theorem dX5_greatestLast_4 : decode cX5_greatestLast 4 = .ok (.istore_n 2, 1) := by decide +kernel
theorem dX5_greatestLast_5 : decode cX5_greatestLast 5 = .ok (.iload_n 2, 1) := by decide +kernel
theorem dX5_greatestLast_6 : decode cX5_greatestLast 6 = .ok (.aload_n 0, 1) := by decide +kernel
theorem dX5_greatestLast_7 : decode cX5_greatestLast 7 = .ok (.getfield 7, 3) := by decide +kernel
theorem dX5_greatestLast_10 : decode cX5_greatestLast 10 = .ok (.iconst 4, 1) := by decide +kernel
theorem dX5_greatestLast_11 : decode cX5_greatestLast 11 = .ok (.iaload, 1) := by decide +kernel
theorem dX5_greatestLast_12 : decode cX5_greatestLast 12 = .ok (.if_icmp .ge 30, 3) := by decide +kernel
theorem dX5_greatestLast_15 : decode cX5_greatestLast 15 = .ok (.aload_n 0, 1) := by decide +kernel
theorem dX5_greatestLast_16 : decode cX5_greatestLast 16 = .ok (.iload_n 2, 1) := by decide +kernel
theorem dX5_greatestLast_17 : decode cX5_greatestLast 17 = .ok (.iconst 2, 1) := by decide +kernel
theorem dX5_greatestLast_18 : decode cX5_greatestLast 18 = .ok (.invokevirtual 49, 3) := by decide +kernel
theorem dX5_greatestLast_21 : decode cX5_greatestLast 21 = .ok (.iload_n 1, 1) := by decide +kernel
theorem dX5_greatestLast_22 : decode cX5_greatestLast 22 = .ok (.if_icmp .le 12, 3) := by decide +kernel
theorem dX5_greatestLast_25 : decode cX5_greatestLast 25 = .ok (.aload_n 0, 1) := by decide +kernel
theorem dX5_greatestLast_26 : decode cX5_greatestLast 26 = .ok (.iload_n 2, 1) := by decide +kernel
theorem dX5_greatestLast_27 : decode cX5_greatestLast 27 = .ok (.iconst 2, 1) := by decide +kernel
theorem dX5_greatestLast_28 : decode cX5_greatestLast 28 = .ok (.invokevirtual 49, 3) := by decide +kernel
theorem dX5_greatestLast_31 : decode cX5_greatestLast 31 = .ok (.goto 4, 3) := by decide +kernel
theorem dX5_greatestLast_34 : decode cX5_greatestLast 34 = .ok (.iload_n 1, 1) := by decide +kernel
theorem dX5_greatestLast_35 : decode cX5_greatestLast 35 = .ok (.istore_n 1, 1) := by decide +kernel
theorem dX5_greatestLast_36 : decode cX5_greatestLast 36 = .ok (.iinc 2 1, 3) := by decide +kernel
theorem dX5_greatestLast_39 : decode cX5_greatestLast 39 = .ok (.goto (-34), 3) := by decide +kernel
theorem dX5_greatestLast_42 : decode cX5_greatestLast 42 = .ok (.iload_n 1, 1) := by decide +kernel
theorem dX5_greatestLast_43 : decode cX5_greatestLast 43 = .ok (.ireturn, 1) := by decide +kernel
set_option maxRecDepth 20000 in
theorem ggX5_count_X5_allHoles : GoodIn wsX5_count wsX5_allHoles := goodIn_r _ [8, 9, 10, 11, 12, 7, 13, 1, 14, 15, 16, 17, 18, 19, 20, 21, 22, 23, 24, 69, 70, 71, 72, 73, 74, 75, 76, 77, 78, 79, 80, 81, 82, 83, 84] (by decide +kernel) (by decide +kernel)
set_option maxRecDepth 20000 in
theorem gX5_count_X5_allHoles : GoodIn wsX5_count (wsV RX5 194 RX5 yX5_allHoles wsX5_allHoles) := goodIn_app (goodIn_of _ (by decide +kernel)) ggX5_count_X5_allHoles
set_option maxRecDepth 20000 in
theorem ggX5_count_X5_weakMany : GoodIn wsX5_count wsX5_weakMany := goodIn_r _ [28, 10, 11, 12, 7, 13, 9, 1, 14, 15, 16, 17, 18, 19, 20, 21, 29, 30, 31, 32, 33, 34, 35, 69, 70, 71, 72, 73, 74, 75, 76, 77, 78, 79, 80, 81, 82, 83, 84] (by decide +kernel) (by decide +kernel)
set_option maxRecDepth 20000 in
theorem gX5_count_X5_weakMany : GoodIn wsX5_count (wsV RX5 197 RX5 yX5_weakMany wsX5_weakMany) := goodIn_app (goodIn_of _ (by decide +kernel)) ggX5_count_X5_weakMany
set_option maxRecDepth 20000 in
theorem ggX5_count_X5_firstWeak : GoodIn wsX5_count wsX5_firstWeak := goodIn_r _ [39, 10, 11, 12, 7, 13, 9, 1, 14, 15, 16, 17, 18, 19, 20, 21, 29, 30, 31, 32, 33, 34, 35, 69, 70, 71, 72, 73, 74, 75, 76, 77, 78, 79, 80, 81, 82, 83, 84] (by decide +kernel) (by decide +kernel)
set_option maxRecDepth 20000 in
theorem gX5_count_X5_firstWeak : GoodIn wsX5_count (wsV RX5 200 RX5 yX5_firstWeak wsX5_firstWeak) := goodIn_app (goodIn_of _ (by decide +kernel)) ggX5_count_X5_firstWeak
set_option maxRecDepth 20000 in
theorem ggX5_count_X5_soundsMany : GoodIn wsX5_count wsX5_soundsMany := goodIn_r _ [43, 44, 45, 46, 7, 47, 48, 1, 9, 10, 11, 12, 13, 14, 15, 16, 17, 18, 19, 20, 21, 49, 50, 51, 52, 53, 54, 55, 56, 69, 70, 71, 72, 73, 74, 75, 76, 77, 78, 79, 80, 81, 82, 83, 84] (by decide +kernel) (by decide +kernel)
set_option maxRecDepth 20000 in
theorem gX5_count_X5_soundsMany : GoodIn wsX5_count (wsV RX5 203 RX5 yX5_soundsMany wsX5_soundsMany) := goodIn_app (goodIn_of _ (by decide +kernel)) ggX5_count_X5_soundsMany
set_option maxRecDepth 20000 in
theorem ggX5_count_X5_withGap : GoodIn wsX5_count wsX5_withGap := goodIn_r _ [60, 1, 44, 45, 46, 7, 47, 48, 9, 10, 11, 12, 13, 14, 15, 16, 17, 18, 19, 20, 21, 61, 62, 63, 64, 53, 54, 55, 56, 69, 70, 71, 72, 73, 74, 75, 76, 77, 78, 79, 80, 81, 82, 83, 84] (by decide +kernel) (by decide +kernel)
set_option maxRecDepth 20000 in
theorem gX5_count_X5_withGap : GoodIn wsX5_count (wsV RX5 206 RX5 yX5_withGap wsX5_withGap) := goodIn_app (goodIn_of _ (by decide +kernel)) ggX5_count_X5_withGap
set_option maxRecDepth 20000 in
theorem ggX5_count_X5_greatestLast : GoodIn wsX5_count wsX5_greatestLast := goodIn_r _ [68, 1, 14, 15, 16, 7, 17, 69, 70, 71, 72, 73, 74, 75, 76, 77, 78, 79, 80, 81, 82, 83, 84] (by decide +kernel) (by decide +kernel)
set_option maxRecDepth 20000 in
theorem gX5_count_X5_greatestLast : GoodIn wsX5_count (wsV RX5 209 RX5 yX5_greatestLast wsX5_greatestLast) := goodIn_app (goodIn_of _ (by decide +kernel)) ggX5_count_X5_greatestLast
theorem dX5_count_0 : decode cX5_count 0 = .ok (.iload_n 1, 1) := by decide +kernel
theorem dX5_count_1 : decode cX5_count 1 = .ok (.tableswitch 124 0 12 #[67, 74, 79, 84, 89, 94, 99, 104, 104, 104, 104, 114, 119], 67) := by decide +kernel
theorem dX5_count_68 : decode cX5_count 68 = .ok (.aload_n 0, 1) := by decide +kernel
theorem dX5_count_69 : decode cX5_count 69 = .ok (.getfield 7, 3) := by decide +kernel
theorem dX5_count_72 : decode cX5_count 72 = .ok (.iconst 4, 1) := by decide +kernel
theorem dX5_count_73 : decode cX5_count 73 = .ok (.iaload, 1) := by decide +kernel
theorem dX5_count_74 : decode cX5_count 74 = .ok (.ireturn, 1) := by decide +kernel
theorem dX5_count_75 : decode cX5_count 75 = .ok (.aload_n 0, 1) := by decide +kernel
theorem dX5_count_76 : decode cX5_count 76 = .ok (.invokevirtual 194, 3) := by decide +kernel
theorem dX5_count_79 : decode cX5_count 79 = .ok (.ireturn, 1) := by decide +kernel
theorem dX5_count_80 : decode cX5_count 80 = .ok (.aload_n 0, 1) := by decide +kernel
theorem dX5_count_81 : decode cX5_count 81 = .ok (.invokevirtual 197, 3) := by decide +kernel
theorem dX5_count_84 : decode cX5_count 84 = .ok (.ireturn, 1) := by decide +kernel
theorem dX5_count_85 : decode cX5_count 85 = .ok (.aload_n 0, 1) := by decide +kernel
theorem dX5_count_86 : decode cX5_count 86 = .ok (.invokevirtual 200, 3) := by decide +kernel
theorem dX5_count_89 : decode cX5_count 89 = .ok (.ireturn, 1) := by decide +kernel
theorem dX5_count_90 : decode cX5_count 90 = .ok (.aload_n 0, 1) := by decide +kernel
theorem dX5_count_91 : decode cX5_count 91 = .ok (.invokevirtual 203, 3) := by decide +kernel
theorem dX5_count_94 : decode cX5_count 94 = .ok (.ireturn, 1) := by decide +kernel
theorem dX5_count_95 : decode cX5_count 95 = .ok (.aload_n 0, 1) := by decide +kernel
theorem dX5_count_96 : decode cX5_count 96 = .ok (.invokevirtual 206, 3) := by decide +kernel
theorem dX5_count_99 : decode cX5_count 99 = .ok (.ireturn, 1) := by decide +kernel
theorem dX5_count_100 : decode cX5_count 100 = .ok (.aload_n 0, 1) := by decide +kernel
theorem dX5_count_101 : decode cX5_count 101 = .ok (.invokevirtual 209, 3) := by decide +kernel
theorem dX5_count_104 : decode cX5_count 104 = .ok (.ireturn, 1) := by decide +kernel
theorem dX5_count_105 : decode cX5_count 105 = .ok (.aload_n 0, 1) := by decide +kernel
theorem dX5_count_106 : decode cX5_count 106 = .ok (.getfield 7, 3) := by decide +kernel
theorem dX5_count_109 : decode cX5_count 109 = .ok (.iload_n 1, 1) := by decide +kernel
theorem dX5_count_110 : decode cX5_count 110 = .ok (.bipush 7, 2) := by decide +kernel
theorem dX5_count_112 : decode cX5_count 112 = .ok (.isub, 1) := by decide +kernel
theorem dX5_count_113 : decode cX5_count 113 = .ok (.iaload, 1) := by decide +kernel
theorem dX5_count_114 : decode cX5_count 114 = .ok (.ireturn, 1) := by decide +kernel
theorem dX5_count_115 : decode cX5_count 115 = .ok (.aload_n 0, 1) := by decide +kernel
theorem dX5_count_116 : decode cX5_count 116 = .ok (.getfield 145, 3) := by decide +kernel
theorem dX5_count_119 : decode cX5_count 119 = .ok (.ireturn, 1) := by decide +kernel
theorem dX5_count_120 : decode cX5_count 120 = .ok (.aload_n 0, 1) := by decide +kernel
theorem dX5_count_121 : decode cX5_count 121 = .ok (.getfield 37, 3) := by decide +kernel
theorem dX5_count_124 : decode cX5_count 124 = .ok (.ireturn, 1) := by decide +kernel
theorem dX5_count_125 : decode cX5_count 125 = .ok (.bipush (-2), 2) := by decide +kernel
theorem dX5_count_127 : decode cX5_count 127 = .ok (.ireturn, 1) := by decide +kernel
set_option maxRecDepth 20000 in
theorem ggX5_bestShift_X5_isNote : GoodIn wsX5_bestShift wsX5_isNote := goodIn_r _ [5, 6, 7, 8, 4, 9, 38, 39, 40, 41, 42, 43, 44, 45, 46, 47, 48, 49, 50, 51, 52, 53] (by decide +kernel) (by decide +kernel)
set_option maxRecDepth 20000 in
theorem gX5_bestShift_X5_isNote : GoodIn wsX5_bestShift (wsV RX5 113 RX5 yX5_isNote wsX5_isNote) := goodIn_app (goodIn_of _ (by decide +kernel)) ggX5_bestShift_X5_isNote
set_option maxRecDepth 20000 in
theorem ggX5_bestShift_X5_within : GoodIn wsX5_bestShift wsX5_within := goodIn_r _ [9] (by decide +kernel) (by decide +kernel)
set_option maxRecDepth 20000 in
theorem gX5_bestShift_X5_within : GoodIn wsX5_bestShift (va_wsS RX5 45 yX5_within wsX5_within) := goodIn_app (goodIn_of _ (by decide +kernel)) ggX5_bestShift_X5_within
set_option maxRecDepth 20000 in
theorem ggX5_bestShift_X5_part : GoodIn wsX5_bestShift wsX5_part := goodIn_r _ [13, 6, 38, 39, 40, 41, 42, 43, 44, 45, 46, 47, 48, 49, 50, 51, 52, 53] (by decide +kernel) (by decide +kernel)
set_option maxRecDepth 20000 in
theorem gX5_bestShift_X5_part : GoodIn wsX5_bestShift (wsV RX5 49 RX5 yX5_part wsX5_part) := goodIn_app (goodIn_of _ (by decide +kernel)) ggX5_bestShift_X5_part
set_option maxRecDepth 20000 in
theorem ggX5_bestShift_X5_setPart : GoodIn wsX5_bestShift wsX5_setPart := goodIn_r _ [17, 6, 38, 39, 40, 41, 42, 43, 44, 45, 46, 47, 48, 49, 50, 51, 52, 53] (by decide +kernel) (by decide +kernel)
set_option maxRecDepth 20000 in
theorem gX5_bestShift_X5_setPart : GoodIn wsX5_bestShift (wsV RX5 53 RX5 yX5_setPart wsX5_setPart) := goodIn_app (goodIn_of _ (by decide +kernel)) ggX5_bestShift_X5_setPart
set_option maxRecDepth 20000 in
theorem ggX5_bestShift_X5_weakMany : GoodIn wsX5_bestShift wsX5_weakMany := goodIn_r _ [21, 22, 23, 24, 4, 25, 26, 6, 10, 11, 12, 13, 27, 28, 29, 30, 31, 32, 33, 34, 35, 36, 37, 38, 39, 40, 41, 42, 43, 44, 45, 46, 47, 48, 49, 50, 51, 52, 53] (by decide +kernel) (by decide +kernel)
set_option maxRecDepth 20000 in
theorem gX5_bestShift_X5_weakMany : GoodIn wsX5_bestShift (wsV RX5 197 RX5 yX5_weakMany wsX5_weakMany) := goodIn_app (goodIn_of _ (by decide +kernel)) ggX5_bestShift_X5_weakMany
theorem dX5_bestShift_0 : decode cX5_bestShift 0 = .ok (.aload_n 0, 1) := by decide +kernel
theorem dX5_bestShift_1 : decode cX5_bestShift 1 = .ok (.iload_n 1, 1) := by decide +kernel
theorem dX5_bestShift_2 : decode cX5_bestShift 2 = .ok (.invokevirtual 113, 3) := by decide +kernel
theorem dX5_bestShift_5 : decode cX5_bestShift 5 = .ok (.ifCond .eq 12, 3) := by decide +kernel
theorem dX5_bestShift_8 : decode cX5_bestShift 8 = .ok (.iload_n 2, 1) := by decide +kernel
theorem dX5_bestShift_9 : decode cX5_bestShift 9 = .ok (.iconst 0, 1) := by decide +kernel
theorem dX5_bestShift_10 : decode cX5_bestShift 10 = .ok (.iconst 1, 1) := by decide +kernel
theorem dX5_bestShift_11 : decode cX5_bestShift 11 = .ok (.invokestatic 45, 3) := by decide +kernel
theorem dX5_bestShift_14 : decode cX5_bestShift 14 = .ok (.ifCond .ne 18, 3) := by decide +kernel
theorem dX5_bestShift_17 : decode cX5_bestShift 17 = .ok (.aload_n 0, 1) := by decide +kernel
theorem dX5_bestShift_18 : decode cX5_bestShift 18 = .ok (.iload_n 1, 1) := by decide +kernel
theorem dX5_bestShift_19 : decode cX5_bestShift 19 = .ok (.invokevirtual 113, 3) := by decide +kernel
theorem dX5_bestShift_22 : decode cX5_bestShift 22 = .ok (.ifCond .eq 8, 3) := by decide +kernel
theorem dX5_bestShift_25 : decode cX5_bestShift 25 = .ok (.bipush (-2), 2) := by decide +kernel
theorem dX5_bestShift_27 : decode cX5_bestShift 27 = .ok (.goto 4, 3) := by decide +kernel
theorem dX5_bestShift_30 : decode cX5_bestShift 30 = .ok (.iconst (-1), 1) := by decide +kernel
theorem dX5_bestShift_31 : decode cX5_bestShift 31 = .ok (.ireturn, 1) := by decide +kernel
theorem dX5_bestShift_32 : decode cX5_bestShift 32 = .ok (.aload_n 0, 1) := by decide +kernel
theorem dX5_bestShift_33 : decode cX5_bestShift 33 = .ok (.iload_n 1, 1) := by decide +kernel
theorem dX5_bestShift_34 : decode cX5_bestShift 34 = .ok (.iconst 3, 1) := by decide +kernel
theorem dX5_bestShift_35 : decode cX5_bestShift 35 = .ok (.invokevirtual 49, 3) := by decide +kernel
theorem dX5_bestShift_38 : decode cX5_bestShift 38 = .ok (.istore_n 3, 1) := by decide +kernel
theorem dX5_bestShift_39 : decode cX5_bestShift 39 = .ok (.bipush (-6), 2) := by decide +kernel
theorem dX5_bestShift_41 : decode cX5_bestShift 41 = .ok (.istore 4, 2) := by decide +kernel
theorem dX5_bestShift_43 : decode cX5_bestShift 43 = .ok (.bipush 101, 2) := by decide +kernel
theorem dX5_bestShift_45 : decode cX5_bestShift 45 = .ok (.istore 5, 2) := by decide +kernel
theorem dX5_bestShift_47 : decode cX5_bestShift 47 = .ok (.iconst 0, 1) := by decide +kernel
theorem dX5_bestShift_48 : decode cX5_bestShift 48 = .ok (.istore 6, 2) := by decide +kernel
theorem dX5_bestShift_50 : decode cX5_bestShift 50 = .ok (.iload 6, 2) := by decide +kernel
theorem dX5_bestShift_52 : decode cX5_bestShift 52 = .ok (.bipush 12, 2) := by decide +kernel
theorem dX5_bestShift_54 : decode cX5_bestShift 54 = .ok (.if_icmp .gt 55, 3) := by decide +kernel
theorem dX5_bestShift_57 : decode cX5_bestShift 57 = .ok (.aload_n 0, 1) := by decide +kernel
theorem dX5_bestShift_58 : decode cX5_bestShift 58 = .ok (.iload_n 1, 1) := by decide +kernel
theorem dX5_bestShift_59 : decode cX5_bestShift 59 = .ok (.iconst 3, 1) := by decide +kernel
theorem dX5_bestShift_60 : decode cX5_bestShift 60 = .ok (.iload 6, 2) := by decide +kernel
theorem dX5_bestShift_62 : decode cX5_bestShift 62 = .ok (.invokevirtual 53, 3) := by decide +kernel
theorem dX5_bestShift_65 : decode cX5_bestShift 65 = .ok (.aload_n 0, 1) := by decide +kernel
theorem dX5_bestShift_66 : decode cX5_bestShift 66 = .ok (.invokevirtual 197, 3) := by decide +kernel
theorem dX5_bestShift_69 : decode cX5_bestShift 69 = .ok (.istore 7, 2) := by decide +kernel
theorem dX5_bestShift_71 : decode cX5_bestShift 71 = .ok (.iload 7, 2) := by decide +kernel
theorem dX5_bestShift_73 : decode cX5_bestShift 73 = .ok (.iload 5, 2) := by decide +kernel
theorem dX5_bestShift_75 : decode cX5_bestShift 75 = .ok (.if_icmp .ge 8, 3) := by decide +kernel
theorem dX5_bestShift_78 : decode cX5_bestShift 78 = .ok (.iload 6, 2) := by decide +kernel
theorem dX5_bestShift_80 : decode cX5_bestShift 80 = .ok (.goto 5, 3) := by decide +kernel
theorem dX5_bestShift_83 : decode cX5_bestShift 83 = .ok (.iload 4, 2) := by decide +kernel
theorem dX5_bestShift_85 : decode cX5_bestShift 85 = .ok (.istore 4, 2) := by decide +kernel
theorem dX5_bestShift_87 : decode cX5_bestShift 87 = .ok (.iload 7, 2) := by decide +kernel
theorem dX5_bestShift_89 : decode cX5_bestShift 89 = .ok (.iload 5, 2) := by decide +kernel
theorem dX5_bestShift_91 : decode cX5_bestShift 91 = .ok (.if_icmp .ge 8, 3) := by decide +kernel
theorem dX5_bestShift_94 : decode cX5_bestShift 94 = .ok (.iload 7, 2) := by decide +kernel
theorem dX5_bestShift_96 : decode cX5_bestShift 96 = .ok (.goto 5, 3) := by decide +kernel
theorem dX5_bestShift_99 : decode cX5_bestShift 99 = .ok (.iload 5, 2) := by decide +kernel
theorem dX5_bestShift_101 : decode cX5_bestShift 101 = .ok (.istore 5, 2) := by decide +kernel
theorem dX5_bestShift_103 : decode cX5_bestShift 103 = .ok (.iinc 6 1, 3) := by decide +kernel
theorem dX5_bestShift_106 : decode cX5_bestShift 106 = .ok (.goto (-56), 3) := by decide +kernel
theorem dX5_bestShift_109 : decode cX5_bestShift 109 = .ok (.aload_n 0, 1) := by decide +kernel
theorem dX5_bestShift_110 : decode cX5_bestShift 110 = .ok (.iload_n 1, 1) := by decide +kernel
theorem dX5_bestShift_111 : decode cX5_bestShift 111 = .ok (.iconst 3, 1) := by decide +kernel
theorem dX5_bestShift_112 : decode cX5_bestShift 112 = .ok (.iload_n 3, 1) := by decide +kernel
theorem dX5_bestShift_113 : decode cX5_bestShift 113 = .ok (.invokevirtual 53, 3) := by decide +kernel
theorem dX5_bestShift_116 : decode cX5_bestShift 116 = .ok (.iload_n 2, 1) := by decide +kernel
theorem dX5_bestShift_117 : decode cX5_bestShift 117 = .ok (.ifCond .ne 8, 3) := by decide +kernel
theorem dX5_bestShift_120 : decode cX5_bestShift 120 = .ok (.iload 4, 2) := by decide +kernel
theorem dX5_bestShift_122 : decode cX5_bestShift 122 = .ok (.goto 5, 3) := by decide +kernel
theorem dX5_bestShift_125 : decode cX5_bestShift 125 = .ok (.iload 5, 2) := by decide +kernel
theorem dX5_bestShift_127 : decode cX5_bestShift 127 = .ok (.ireturn, 1) := by decide +kernel
set_option maxRecDepth 20000 in
theorem ggX5_greatestRun_X5_weakMany : GoodIn wsX5_greatestRun wsX5_weakMany := goodIn_r _ [6, 7, 8, 9, 5, 10, 11, 1, 12, 13, 14, 15, 16, 17, 18, 19, 20, 21, 22, 23, 24, 25, 26, 27, 28, 29, 30, 31, 32, 33, 34, 35, 36, 37, 38, 39, 40, 41, 42] (by decide +kernel) (by decide +kernel)
set_option maxRecDepth 20000 in
theorem gX5_greatestRun_X5_weakMany : GoodIn wsX5_greatestRun (wsV RX5 197 RX5 yX5_weakMany wsX5_weakMany) := goodIn_app (goodIn_of _ (by decide +kernel)) ggX5_greatestRun_X5_weakMany
theorem dX5_greatestRun_0 : decode cX5_greatestRun 0 = .ok (.aload_n 0, 1) := by decide +kernel
theorem dX5_greatestRun_1 : decode cX5_greatestRun 1 = .ok (.getfield 7, 3) := by decide +kernel
theorem dX5_greatestRun_4 : decode cX5_greatestRun 4 = .ok (.iconst 0, 1) := by decide +kernel
theorem dX5_greatestRun_5 : decode cX5_greatestRun 5 = .ok (.iaload, 1) := by decide +kernel
theorem dX5_greatestRun_6 : decode cX5_greatestRun 6 = .ok (.istore_n 1, 1) := by decide +kernel
theorem dX5_greatestRun_7 : decode cX5_greatestRun 7 = .ok (.bipush (-6), 2) := by decide +kernel
theorem dX5_greatestRun_9 : decode cX5_greatestRun 9 = .ok (.istore_n 2, 1) := by decide +kernel
theorem dX5_greatestRun_10 : decode cX5_greatestRun 10 = .ok (.iconst 1, 1) := by decide +kernel
theorem dX5_greatestRun_11 : decode cX5_greatestRun 11 = .ok (.istore_n 3, 1) := by decide +kernel
theorem dX5_greatestRun_12 : decode cX5_greatestRun 12 = .ok (.iload_n 3, 1) := by decide +kernel
theorem dX5_greatestRun_13 : decode cX5_greatestRun 13 = .ok (.bipush 9, 2) := by decide +kernel
theorem dX5_greatestRun_15 : decode cX5_greatestRun 15 = .ok (.if_icmp .gt 29, 3) := by decide +kernel
theorem dX5_greatestRun_18 : decode cX5_greatestRun 18 = .ok (.aload_n 0, 1) := by decide +kernel
theorem dX5_greatestRun_19 : decode cX5_greatestRun 19 = .ok (.getfield 7, 3) := by decide +kernel
theorem dX5_greatestRun_22 : decode cX5_greatestRun 22 = .ok (.iconst 0, 1) := by decide +kernel
theorem dX5_greatestRun_23 : decode cX5_greatestRun 23 = .ok (.iload_n 3, 1) := by decide +kernel
theorem dX5_greatestRun_24 : decode cX5_greatestRun 24 = .ok (.iastore, 1) := by decide +kernel
theorem dX5_greatestRun_25 : decode cX5_greatestRun 25 = .ok (.aload_n 0, 1) := by decide +kernel
theorem dX5_greatestRun_26 : decode cX5_greatestRun 26 = .ok (.invokevirtual 197, 3) := by decide +kernel
theorem dX5_greatestRun_29 : decode cX5_greatestRun 29 = .ok (.ifCond .ne 7, 3) := by decide +kernel
theorem dX5_greatestRun_32 : decode cX5_greatestRun 32 = .ok (.iload_n 3, 1) := by decide +kernel
theorem dX5_greatestRun_33 : decode cX5_greatestRun 33 = .ok (.goto 4, 3) := by decide +kernel
theorem dX5_greatestRun_36 : decode cX5_greatestRun 36 = .ok (.iload_n 2, 1) := by decide +kernel
theorem dX5_greatestRun_37 : decode cX5_greatestRun 37 = .ok (.istore_n 2, 1) := by decide +kernel
theorem dX5_greatestRun_38 : decode cX5_greatestRun 38 = .ok (.iinc 3 1, 3) := by decide +kernel
theorem dX5_greatestRun_41 : decode cX5_greatestRun 41 = .ok (.goto (-29), 3) := by decide +kernel
theorem dX5_greatestRun_44 : decode cX5_greatestRun 44 = .ok (.aload_n 0, 1) := by decide +kernel
theorem dX5_greatestRun_45 : decode cX5_greatestRun 45 = .ok (.getfield 7, 3) := by decide +kernel
theorem dX5_greatestRun_48 : decode cX5_greatestRun 48 = .ok (.iconst 0, 1) := by decide +kernel
theorem dX5_greatestRun_49 : decode cX5_greatestRun 49 = .ok (.iload_n 1, 1) := by decide +kernel
theorem dX5_greatestRun_50 : decode cX5_greatestRun 50 = .ok (.iastore, 1) := by decide +kernel
theorem dX5_greatestRun_51 : decode cX5_greatestRun 51 = .ok (.iload_n 2, 1) := by decide +kernel
theorem dX5_greatestRun_52 : decode cX5_greatestRun 52 = .ok (.ireturn, 1) := by decide +kernel
set_option maxRecDepth 20000 in
theorem ggX5_swallowed_X5_isTrack : GoodIn wsX5_swallowed wsX5_isTrack := goodIn_r _ [5, 6, 7, 4, 8] (by decide +kernel) (by decide +kernel)
set_option maxRecDepth 20000 in
theorem gX5_swallowed_X5_isTrack : GoodIn wsX5_swallowed (va_wsS RX5 104 yX5_isTrack wsX5_isTrack) := goodIn_app (goodIn_of _ (by decide +kernel)) ggX5_swallowed_X5_isTrack
set_option maxRecDepth 20000 in
theorem ggX5_swallowed_X5_findHeard : GoodIn wsX5_swallowed wsX5_findHeard := goodIn_r _ [12, 13, 1, 14, 15, 16, 17, 4, 18, 19, 20, 21, 22, 23, 24, 25, 26, 35, 36, 37, 38, 39, 40, 41, 42, 43, 44, 45, 46, 47, 48, 49, 50] (by decide +kernel) (by decide +kernel)
set_option maxRecDepth 20000 in
theorem gX5_swallowed_X5_findHeard : GoodIn wsX5_swallowed (wsV RX5 92 RX5 yX5_findHeard wsX5_findHeard) := goodIn_app (goodIn_of _ (by decide +kernel)) ggX5_swallowed_X5_findHeard
set_option maxRecDepth 20000 in
theorem ggX5_swallowed_X5_part : GoodIn wsX5_swallowed wsX5_part := goodIn_r _ [22, 1, 35, 36, 37, 38, 39, 40, 41, 42, 43, 44, 45, 46, 47, 48, 49, 50] (by decide +kernel) (by decide +kernel)
set_option maxRecDepth 20000 in
theorem gX5_swallowed_X5_part : GoodIn wsX5_swallowed (wsV RX5 49 RX5 yX5_part wsX5_part) := goodIn_app (goodIn_of _ (by decide +kernel)) ggX5_swallowed_X5_part
set_option maxRecDepth 20000 in
theorem ggX5_swallowed_X5_begins : GoodIn wsX5_swallowed wsX5_begins := goodIn_r _ [30, 31, 32, 33, 4, 34, 13, 35, 36, 37, 38, 39, 40, 41, 42, 43, 44, 45, 46, 47, 48, 49, 50] (by decide +kernel) (by decide +kernel)
set_option maxRecDepth 20000 in
theorem gX5_swallowed_X5_begins : GoodIn wsX5_swallowed (wsV RX5 89 RX5 yX5_begins wsX5_begins) := goodIn_app (goodIn_of _ (by decide +kernel)) ggX5_swallowed_X5_begins
theorem dX5_swallowed_0 : decode cX5_swallowed 0 = .ok (.iload_n 1, 1) := by decide +kernel
theorem dX5_swallowed_1 : decode cX5_swallowed 1 = .ok (.invokestatic 104, 3) := by decide +kernel
theorem dX5_swallowed_4 : decode cX5_swallowed 4 = .ok (.ifCond .ne 5, 3) := by decide +kernel
theorem dX5_swallowed_7 : decode cX5_swallowed 7 = .ok (.iconst (-1), 1) := by decide +kernel
theorem dX5_swallowed_8 : decode cX5_swallowed 8 = .ok (.ireturn, 1) := by decide +kernel
theorem dX5_swallowed_9 : decode cX5_swallowed 9 = .ok (.aload_n 0, 1) := by decide +kernel
theorem dX5_swallowed_10 : decode cX5_swallowed 10 = .ok (.invokevirtual 92, 3) := by decide +kernel
theorem dX5_swallowed_13 : decode cX5_swallowed 13 = .ok (.iconst 0, 1) := by decide +kernel
theorem dX5_swallowed_14 : decode cX5_swallowed 14 = .ok (.istore_n 2, 1) := by decide +kernel
theorem dX5_swallowed_15 : decode cX5_swallowed 15 = .ok (.iconst 0, 1) := by decide +kernel
theorem dX5_swallowed_16 : decode cX5_swallowed 16 = .ok (.istore_n 3, 1) := by decide +kernel
theorem dX5_swallowed_17 : decode cX5_swallowed 17 = .ok (.iload_n 3, 1) := by decide +kernel
theorem dX5_swallowed_18 : decode cX5_swallowed 18 = .ok (.aload_n 0, 1) := by decide +kernel
theorem dX5_swallowed_19 : decode cX5_swallowed 19 = .ok (.getfield 7, 3) := by decide +kernel
theorem dX5_swallowed_22 : decode cX5_swallowed 22 = .ok (.iconst 4, 1) := by decide +kernel
theorem dX5_swallowed_23 : decode cX5_swallowed 23 = .ok (.iaload, 1) := by decide +kernel
theorem dX5_swallowed_24 : decode cX5_swallowed 24 = .ok (.if_icmp .ge 41, 3) := by decide +kernel
theorem dX5_swallowed_27 : decode cX5_swallowed 27 = .ok (.iload_n 2, 1) := by decide +kernel
theorem dX5_swallowed_28 : decode cX5_swallowed 28 = .ok (.aload_n 0, 1) := by decide +kernel
theorem dX5_swallowed_29 : decode cX5_swallowed 29 = .ok (.iload_n 3, 1) := by decide +kernel
theorem dX5_swallowed_30 : decode cX5_swallowed 30 = .ok (.iconst 0, 1) := by decide +kernel
theorem dX5_swallowed_31 : decode cX5_swallowed 31 = .ok (.invokevirtual 49, 3) := by decide +kernel
theorem dX5_swallowed_34 : decode cX5_swallowed 34 = .ok (.iload_n 1, 1) := by decide +kernel
theorem dX5_swallowed_35 : decode cX5_swallowed 35 = .ok (.if_icmp .ne 21, 3) := by decide +kernel
theorem dX5_swallowed_38 : decode cX5_swallowed 38 = .ok (.aload_n 0, 1) := by decide +kernel
theorem dX5_swallowed_39 : decode cX5_swallowed 39 = .ok (.iload_n 1, 1) := by decide +kernel
theorem dX5_swallowed_40 : decode cX5_swallowed 40 = .ok (.aload_n 0, 1) := by decide +kernel
theorem dX5_swallowed_41 : decode cX5_swallowed 41 = .ok (.iload_n 3, 1) := by decide +kernel
theorem dX5_swallowed_42 : decode cX5_swallowed 42 = .ok (.iconst 1, 1) := by decide +kernel
theorem dX5_swallowed_43 : decode cX5_swallowed 43 = .ok (.invokevirtual 49, 3) := by decide +kernel
theorem dX5_swallowed_46 : decode cX5_swallowed 46 = .ok (.invokevirtual 89, 3) := by decide +kernel
theorem dX5_swallowed_49 : decode cX5_swallowed 49 = .ok (.ifCond .ne 7, 3) := by decide +kernel
theorem dX5_swallowed_52 : decode cX5_swallowed 52 = .ok (.iconst 1, 1) := by decide +kernel
theorem dX5_swallowed_53 : decode cX5_swallowed 53 = .ok (.goto 4, 3) := by decide +kernel
theorem dX5_swallowed_56 : decode cX5_swallowed 56 = .ok (.iconst 0, 1) := by decide +kernel
theorem dX5_swallowed_57 : decode cX5_swallowed 57 = .ok (.iadd, 1) := by decide +kernel
theorem dX5_swallowed_58 : decode cX5_swallowed 58 = .ok (.istore_n 2, 1) := by decide +kernel
theorem dX5_swallowed_59 : decode cX5_swallowed 59 = .ok (.iinc 3 1, 3) := by decide +kernel
theorem dX5_swallowed_62 : decode cX5_swallowed 62 = .ok (.goto (-45), 3) := by decide +kernel
theorem dX5_swallowed_65 : decode cX5_swallowed 65 = .ok (.iload_n 2, 1) := by decide +kernel
theorem dX5_swallowed_66 : decode cX5_swallowed 66 = .ok (.ireturn, 1) := by decide +kernel
set_option maxRecDepth 20000 in
theorem ggX5_freeGoal_X5_isPassage : GoodIn wsX5_freeGoal wsX5_isPassage := goodIn_r _ [4, 5, 6, 3, 7, 8, 9, 10] (by decide +kernel) (by decide +kernel)
set_option maxRecDepth 20000 in
theorem gX5_freeGoal_X5_isPassage : GoodIn wsX5_freeGoal (va_wsS RX5 136 yX5_isPassage wsX5_isPassage) := goodIn_app (goodIn_of _ (by decide +kernel)) ggX5_freeGoal_X5_isPassage
set_option maxRecDepth 20000 in
theorem ggX5_freeGoal_X5_betweenMany : GoodIn wsX5_freeGoal wsX5_betweenMany := goodIn_r _ [14, 15, 16, 17, 18, 3, 19, 20, 21, 22, 23, 32, 33, 34, 35, 36, 37, 38, 39, 40, 41, 42, 43, 44, 45, 46, 47] (by decide +kernel) (by decide +kernel)
set_option maxRecDepth 20000 in
theorem gX5_freeGoal_X5_betweenMany : GoodIn wsX5_freeGoal (wsV RX5 133 RX5 yX5_betweenMany wsX5_betweenMany) := goodIn_app (goodIn_of _ (by decide +kernel)) ggX5_freeGoal_X5_betweenMany
set_option maxRecDepth 20000 in
theorem ggX5_freeGoal_X5_whyNotCopied : GoodIn wsX5_freeGoal wsX5_whyNotCopied := goodIn_r _ [27, 15, 11, 12, 13, 3, 14, 16, 17, 18, 19, 20, 21, 22, 23, 28, 29, 30, 31, 32, 33, 34, 35, 36, 37, 38, 39, 40, 41, 42, 43, 44, 45, 46, 47] (by decide +kernel) (by decide +kernel)
set_option maxRecDepth 20000 in
theorem gX5_freeGoal_X5_whyNotCopied : GoodIn wsX5_freeGoal (wsV RX5 139 RX5 yX5_whyNotCopied wsX5_whyNotCopied) := goodIn_app (goodIn_of _ (by decide +kernel)) ggX5_freeGoal_X5_whyNotCopied
theorem dX5_freeGoal_0 : decode cX5_freeGoal 0 = .ok (.iload_n 1, 1) := by decide +kernel
theorem dX5_freeGoal_1 : decode cX5_freeGoal 1 = .ok (.iload_n 2, 1) := by decide +kernel
theorem dX5_freeGoal_2 : decode cX5_freeGoal 2 = .ok (.invokestatic 136, 3) := by decide +kernel
theorem dX5_freeGoal_5 : decode cX5_freeGoal 5 = .ok (.ifCond .ne 6, 3) := by decide +kernel
theorem dX5_freeGoal_8 : decode cX5_freeGoal 8 = .ok (.bipush (-2), 2) := by decide +kernel
theorem dX5_freeGoal_10 : decode cX5_freeGoal 10 = .ok (.ireturn, 1) := by decide +kernel
theorem dX5_freeGoal_11 : decode cX5_freeGoal 11 = .ok (.aload_n 0, 1) := by decide +kernel
theorem dX5_freeGoal_12 : decode cX5_freeGoal 12 = .ok (.iload_n 1, 1) := by decide +kernel
theorem dX5_freeGoal_13 : decode cX5_freeGoal 13 = .ok (.iload_n 2, 1) := by decide +kernel
theorem dX5_freeGoal_14 : decode cX5_freeGoal 14 = .ok (.invokevirtual 133, 3) := by decide +kernel
theorem dX5_freeGoal_17 : decode cX5_freeGoal 17 = .ok (.ifCond .ne 6, 3) := by decide +kernel
theorem dX5_freeGoal_20 : decode cX5_freeGoal 20 = .ok (.bipush (-6), 2) := by decide +kernel
theorem dX5_freeGoal_22 : decode cX5_freeGoal 22 = .ok (.ireturn, 1) := by decide +kernel
theorem dX5_freeGoal_23 : decode cX5_freeGoal 23 = .ok (.iconst 0, 1) := by decide +kernel
theorem dX5_freeGoal_24 : decode cX5_freeGoal 24 = .ok (.istore_n 3, 1) := by decide +kernel
theorem dX5_freeGoal_25 : decode cX5_freeGoal 25 = .ok (.iload_n 3, 1) := by decide +kernel
theorem dX5_freeGoal_26 : decode cX5_freeGoal 26 = .ok (.bipush 100, 2) := by decide +kernel
theorem dX5_freeGoal_28 : decode cX5_freeGoal 28 = .ok (.if_icmp .ge 21, 3) := by decide +kernel
theorem dX5_freeGoal_31 : decode cX5_freeGoal 31 = .ok (.aload_n 0, 1) := by decide +kernel
theorem dX5_freeGoal_32 : decode cX5_freeGoal 32 = .ok (.iload_n 1, 1) := by decide +kernel
theorem dX5_freeGoal_33 : decode cX5_freeGoal 33 = .ok (.iload_n 2, 1) := by decide +kernel
theorem dX5_freeGoal_34 : decode cX5_freeGoal 34 = .ok (.iload_n 3, 1) := by decide +kernel
theorem dX5_freeGoal_35 : decode cX5_freeGoal 35 = .ok (.invokevirtual 139, 3) := by decide +kernel
theorem dX5_freeGoal_38 : decode cX5_freeGoal 38 = .ok (.ifCond .ne 5, 3) := by decide +kernel
theorem dX5_freeGoal_41 : decode cX5_freeGoal 41 = .ok (.iload_n 3, 1) := by decide +kernel
theorem dX5_freeGoal_42 : decode cX5_freeGoal 42 = .ok (.ireturn, 1) := by decide +kernel
theorem dX5_freeGoal_43 : decode cX5_freeGoal 43 = .ok (.iinc 3 1, 3) := by decide +kernel
theorem dX5_freeGoal_46 : decode cX5_freeGoal 46 = .ok (.goto (-21), 3) := by decide +kernel
theorem dX5_freeGoal_49 : decode cX5_freeGoal 49 = .ok (.bipush (-6), 2) := by decide +kernel
theorem dX5_freeGoal_51 : decode cX5_freeGoal 51 = .ok (.ireturn, 1) := by decide +kernel
set_option maxRecDepth 20000 in
theorem ggX5_put_X5_within : GoodIn wsX5_put wsX5_within := goodIn_r _ [7] (by decide +kernel) (by decide +kernel)
set_option maxRecDepth 20000 in
theorem gX5_put_X5_within : GoodIn wsX5_put (va_wsS RX5 45 yX5_within wsX5_within) := goodIn_app (goodIn_of _ (by decide +kernel)) ggX5_put_X5_within
theorem dX5_put_0 : decode cX5_put 0 = .ok (.iconst 0, 1) := by decide +kernel
theorem dX5_put_1 : decode cX5_put 1 = .ok (.istore_n 3, 1) := by decide +kernel
theorem dX5_put_2 : decode cX5_put 2 = .ok (.lload_n 1, 1) := by decide +kernel
theorem dX5_put_3 : decode cX5_put 3 = .ok (.lstore 4, 2) := by decide +kernel
theorem dX5_put_5 : decode cX5_put 5 = .ok (.iconst 1, 1) := by decide +kernel
theorem dX5_put_6 : decode cX5_put 6 = .ok (.istore 6, 2) := by decide +kernel
theorem dX5_put_8 : decode cX5_put 8 = .ok (.iload_n 3, 1) := by decide +kernel
theorem dX5_put_9 : decode cX5_put 9 = .ok (.bipush 8, 2) := by decide +kernel
theorem dX5_put_11 : decode cX5_put 11 = .ok (.if_icmp .ge 56, 3) := by decide +kernel
theorem dX5_put_14 : decode cX5_put 14 = .ok (.lload 4, 2) := by decide +kernel
theorem dX5_put_16 : decode cX5_put 16 = .ok (.ldc2_w 212, 3) := by decide +kernel
theorem dX5_put_19 : decode cX5_put 19 = .ok (.land, 1) := by decide +kernel
theorem dX5_put_20 : decode cX5_put 20 = .ok (.lconst 0, 1) := by decide +kernel
theorem dX5_put_21 : decode cX5_put 21 = .ok (.lcmp, 1) := by decide +kernel
theorem dX5_put_22 : decode cX5_put 22 = .ok (.ifCond .eq 45, 3) := by decide +kernel
theorem dX5_put_25 : decode cX5_put 25 = .ok (.iload 6, 2) := by decide +kernel
theorem dX5_put_27 : decode cX5_put 27 = .ok (.ifCond .eq 24, 3) := by decide +kernel
theorem dX5_put_30 : decode cX5_put 30 = .ok (.lload 4, 2) := by decide +kernel
theorem dX5_put_32 : decode cX5_put 32 = .ok (.ldc2_w 212, 3) := by decide +kernel
theorem dX5_put_35 : decode cX5_put 35 = .ok (.land, 1) := by decide +kernel
theorem dX5_put_36 : decode cX5_put 36 = .ok (.l2i, 1) := by decide +kernel
theorem dX5_put_37 : decode cX5_put 37 = .ok (.bipush 33, 2) := by decide +kernel
theorem dX5_put_39 : decode cX5_put 39 = .ok (.bipush 126, 2) := by decide +kernel
theorem dX5_put_41 : decode cX5_put 41 = .ok (.invokestatic 45, 3) := by decide +kernel
theorem dX5_put_44 : decode cX5_put 44 = .ok (.ifCond .eq 7, 3) := by decide +kernel
theorem dX5_put_47 : decode cX5_put 47 = .ok (.iconst 1, 1) := by decide +kernel
theorem dX5_put_48 : decode cX5_put 48 = .ok (.goto 4, 3) := by decide +kernel
theorem dX5_put_51 : decode cX5_put 51 = .ok (.iconst 0, 1) := by decide +kernel
theorem dX5_put_52 : decode cX5_put 52 = .ok (.istore 6, 2) := by decide +kernel
theorem dX5_put_54 : decode cX5_put 54 = .ok (.lload 4, 2) := by decide +kernel
theorem dX5_put_56 : decode cX5_put 56 = .ok (.bipush 8, 2) := by decide +kernel
theorem dX5_put_58 : decode cX5_put 58 = .ok (.lushr, 1) := by decide +kernel
theorem dX5_put_59 : decode cX5_put 59 = .ok (.lstore 4, 2) := by decide +kernel
theorem dX5_put_61 : decode cX5_put 61 = .ok (.iinc 3 1, 3) := by decide +kernel
theorem dX5_put_64 : decode cX5_put 64 = .ok (.goto (-56), 3) := by decide +kernel
theorem dX5_put_67 : decode cX5_put 67 = .ok (.iload_n 3, 1) := by decide +kernel
theorem dX5_put_68 : decode cX5_put 68 = .ok (.ifCond .eq 15, 3) := by decide +kernel
theorem dX5_put_71 : decode cX5_put 71 = .ok (.iload 6, 2) := by decide +kernel
theorem dX5_put_73 : decode cX5_put 73 = .ok (.ifCond .eq 10, 3) := by decide +kernel
theorem dX5_put_76 : decode cX5_put 76 = .ok (.lload 4, 2) := by decide +kernel
theorem dX5_put_78 : decode cX5_put 78 = .ok (.lconst 0, 1) := by decide +kernel
theorem dX5_put_79 : decode cX5_put 79 = .ok (.lcmp, 1) := by decide +kernel
theorem dX5_put_80 : decode cX5_put 80 = .ok (.ifCond .eq 6, 3) := by decide +kernel
theorem dX5_put_83 : decode cX5_put 83 = .ok (.bipush (-2), 2) := by decide +kernel
theorem dX5_put_85 : decode cX5_put 85 = .ok (.ireturn, 1) := by decide +kernel
theorem dX5_put_86 : decode cX5_put 86 = .ok (.aload_n 0, 1) := by decide +kernel
theorem dX5_put_87 : decode cX5_put 87 = .ok (.getfield 145, 3) := by decide +kernel
theorem dX5_put_90 : decode cX5_put 90 = .ok (.iload_n 3, 1) := by decide +kernel
theorem dX5_put_91 : decode cX5_put 91 = .ok (.iadd, 1) := by decide +kernel
theorem dX5_put_92 : decode cX5_put 92 = .ok (.bipush 60, 2) := by decide +kernel
theorem dX5_put_94 : decode cX5_put 94 = .ok (.if_icmp .le 6, 3) := by decide +kernel
theorem dX5_put_97 : decode cX5_put 97 = .ok (.bipush (-4), 2) := by decide +kernel
theorem dX5_put_99 : decode cX5_put 99 = .ok (.ireturn, 1) := by decide +kernel
theorem dX5_put_100 : decode cX5_put 100 = .ok (.iload_n 3, 1) := by decide +kernel
theorem dX5_put_101 : decode cX5_put 101 = .ok (.iconst 1, 1) := by decide +kernel
theorem dX5_put_102 : decode cX5_put 102 = .ok (.isub, 1) := by decide +kernel
theorem dX5_put_103 : decode cX5_put 103 = .ok (.istore 7, 2) := by decide +kernel
theorem dX5_put_105 : decode cX5_put 105 = .ok (.iload 7, 2) := by decide +kernel
theorem dX5_put_107 : decode cX5_put 107 = .ok (.ifCond .lt 40, 3) := by decide +kernel
theorem dX5_put_110 : decode cX5_put 110 = .ok (.aload_n 0, 1) := by decide +kernel
theorem dX5_put_111 : decode cX5_put 111 = .ok (.getfield 25, 3) := by decide +kernel
theorem dX5_put_114 : decode cX5_put 114 = .ok (.aload_n 0, 1) := by decide +kernel
theorem dX5_put_115 : decode cX5_put 115 = .ok (.getfield 145, 3) := by decide +kernel
theorem dX5_put_118 : decode cX5_put 118 = .ok (.lload_n 1, 1) := by decide +kernel
theorem dX5_put_119 : decode cX5_put 119 = .ok (.bipush 8, 2) := by decide +kernel
theorem dX5_put_121 : decode cX5_put 121 = .ok (.iload 7, 2) := by decide +kernel
theorem dX5_put_123 : decode cX5_put 123 = .ok (.imul, 1) := by decide +kernel
theorem dX5_put_124 : decode cX5_put 124 = .ok (.lushr, 1) := by decide +kernel
theorem dX5_put_125 : decode cX5_put 125 = .ok (.ldc2_w 212, 3) := by decide +kernel
theorem dX5_put_128 : decode cX5_put 128 = .ok (.land, 1) := by decide +kernel
theorem dX5_put_129 : decode cX5_put 129 = .ok (.l2i, 1) := by decide +kernel
theorem dX5_put_130 : decode cX5_put 130 = .ok (.iastore, 1) := by decide +kernel
theorem dX5_put_131 : decode cX5_put 131 = .ok (.aload_n 0, 1) := by decide +kernel
theorem dX5_put_132 : decode cX5_put 132 = .ok (.dup, 1) := by decide +kernel
theorem dX5_put_133 : decode cX5_put 133 = .ok (.getfield 145, 3) := by decide +kernel
theorem dX5_put_136 : decode cX5_put 136 = .ok (.iconst 1, 1) := by decide +kernel
theorem dX5_put_137 : decode cX5_put 137 = .ok (.iadd, 1) := by decide +kernel
theorem dX5_put_138 : decode cX5_put 138 = .ok (.putfield 145, 3) := by decide +kernel
theorem dX5_put_141 : decode cX5_put 141 = .ok (.iinc 7 (-1), 3) := by decide +kernel
theorem dX5_put_144 : decode cX5_put 144 = .ok (.goto (-39), 3) := by decide +kernel
theorem dX5_put_147 : decode cX5_put 147 = .ok (.aload_n 0, 1) := by decide +kernel
theorem dX5_put_148 : decode cX5_put 148 = .ok (.getfield 145, 3) := by decide +kernel
theorem dX5_put_151 : decode cX5_put 151 = .ok (.ireturn, 1) := by decide +kernel
theorem dX5_wipe_0 : decode cX5_wipe 0 = .ok (.aload_n 0, 1) := by decide +kernel
theorem dX5_wipe_1 : decode cX5_wipe 1 = .ok (.getfield 145, 3) := by decide +kernel
theorem dX5_wipe_4 : decode cX5_wipe 4 = .ok (.istore_n 1, 1) := by decide +kernel
theorem dX5_wipe_5 : decode cX5_wipe 5 = .ok (.aload_n 0, 1) := by decide +kernel
theorem dX5_wipe_6 : decode cX5_wipe 6 = .ok (.iconst 0, 1) := by decide +kernel
theorem dX5_wipe_7 : decode cX5_wipe 7 = .ok (.putfield 145, 3) := by decide +kernel
theorem dX5_wipe_10 : decode cX5_wipe 10 = .ok (.iload_n 1, 1) := by decide +kernel
theorem dX5_wipe_11 : decode cX5_wipe 11 = .ok (.ireturn, 1) := by decide +kernel
theorem dX5_character_0 : decode cX5_character 0 = .ok (.iload_n 1, 1) := by decide +kernel
theorem dX5_character_1 : decode cX5_character 1 = .ok (.aload_n 0, 1) := by decide +kernel
theorem dX5_character_2 : decode cX5_character 2 = .ok (.getfield 145, 3) := by decide +kernel
theorem dX5_character_5 : decode cX5_character 5 = .ok (.if_icmp .ge 12, 3) := by decide +kernel
theorem dX5_character_8 : decode cX5_character 8 = .ok (.aload_n 0, 1) := by decide +kernel
theorem dX5_character_9 : decode cX5_character 9 = .ok (.getfield 25, 3) := by decide +kernel
theorem dX5_character_12 : decode cX5_character 12 = .ok (.iload_n 1, 1) := by decide +kernel
theorem dX5_character_13 : decode cX5_character 13 = .ok (.iaload, 1) := by decide +kernel
theorem dX5_character_14 : decode cX5_character 14 = .ok (.goto 4, 3) := by decide +kernel
theorem dX5_character_17 : decode cX5_character 17 = .ok (.iconst (-1), 1) := by decide +kernel
theorem dX5_character_18 : decode cX5_character 18 = .ok (.ireturn, 1) := by decide +kernel
set_option maxRecDepth 20000 in
theorem ggX5_isNext_X5_character : GoodIn wsX5_isNext wsX5_character := goodIn_r _ [6, 7, 8, 9, 10, 11, 12, 13, 14, 15, 16, 17, 18, 19, 20, 21, 22, 23, 24] (by decide +kernel) (by decide +kernel)
set_option maxRecDepth 20000 in
theorem gX5_isNext_X5_character : GoodIn wsX5_isNext (wsV RX5 214 RX5 yX5_character wsX5_character) := goodIn_app (goodIn_of _ (by decide +kernel)) ggX5_isNext_X5_character
theorem dX5_isNext_0 : decode cX5_isNext 0 = .ok (.aload_n 0, 1) := by decide +kernel
theorem dX5_isNext_1 : decode cX5_isNext 1 = .ok (.aload_n 0, 1) := by decide +kernel
theorem dX5_isNext_2 : decode cX5_isNext 2 = .ok (.getfield 142, 3) := by decide +kernel
theorem dX5_isNext_5 : decode cX5_isNext 5 = .ok (.invokevirtual 214, 3) := by decide +kernel
theorem dX5_isNext_8 : decode cX5_isNext 8 = .ok (.iload_n 1, 1) := by decide +kernel
theorem dX5_isNext_9 : decode cX5_isNext 9 = .ok (.if_icmp .ne 7, 3) := by decide +kernel
theorem dX5_isNext_12 : decode cX5_isNext 12 = .ok (.iconst 1, 1) := by decide +kernel
theorem dX5_isNext_13 : decode cX5_isNext 13 = .ok (.goto 4, 3) := by decide +kernel
theorem dX5_isNext_16 : decode cX5_isNext 16 = .ok (.iconst 0, 1) := by decide +kernel
theorem dX5_isNext_17 : decode cX5_isNext 17 = .ok (.istore_n 2, 1) := by decide +kernel
theorem dX5_isNext_18 : decode cX5_isNext 18 = .ok (.aload_n 0, 1) := by decide +kernel
theorem dX5_isNext_19 : decode cX5_isNext 19 = .ok (.dup, 1) := by decide +kernel
theorem dX5_isNext_20 : decode cX5_isNext 20 = .ok (.getfield 142, 3) := by decide +kernel
theorem dX5_isNext_23 : decode cX5_isNext 23 = .ok (.iload_n 2, 1) := by decide +kernel
theorem dX5_isNext_24 : decode cX5_isNext 24 = .ok (.ifCond .eq 7, 3) := by decide +kernel
theorem dX5_isNext_27 : decode cX5_isNext 27 = .ok (.iconst 1, 1) := by decide +kernel
theorem dX5_isNext_28 : decode cX5_isNext 28 = .ok (.goto 4, 3) := by decide +kernel
theorem dX5_isNext_31 : decode cX5_isNext 31 = .ok (.iconst 0, 1) := by decide +kernel
theorem dX5_isNext_32 : decode cX5_isNext 32 = .ok (.iadd, 1) := by decide +kernel
theorem dX5_isNext_33 : decode cX5_isNext 33 = .ok (.putfield 142, 3) := by decide +kernel
theorem dX5_isNext_36 : decode cX5_isNext 36 = .ok (.iload_n 2, 1) := by decide +kernel
theorem dX5_isNext_37 : decode cX5_isNext 37 = .ok (.ireturn, 1) := by decide +kernel
set_option maxRecDepth 20000 in
theorem ggX5_takeNumber_X5_character : GoodIn wsX5_takeNumber wsX5_character := goodIn_r _ [6, 7, 8, 12, 13, 14, 15, 16, 17, 18, 19, 20, 21, 22, 23, 24, 25, 26, 27] (by decide +kernel) (by decide +kernel)
set_option maxRecDepth 20000 in
theorem gX5_takeNumber_X5_character : GoodIn wsX5_takeNumber (wsV RX5 214 RX5 yX5_character wsX5_character) := goodIn_app (goodIn_of _ (by decide +kernel)) ggX5_takeNumber_X5_character
set_option maxRecDepth 20000 in
theorem ggX5_takeNumber_X5_within : GoodIn wsX5_takeNumber wsX5_within := goodIn_r _ [11] (by decide +kernel) (by decide +kernel)
set_option maxRecDepth 20000 in
theorem gX5_takeNumber_X5_within : GoodIn wsX5_takeNumber (va_wsS RX5 45 yX5_within wsX5_within) := goodIn_app (goodIn_of _ (by decide +kernel)) ggX5_takeNumber_X5_within
theorem dX5_takeNumber_0 : decode cX5_takeNumber 0 = .ok (.iconst (-1), 1) := by decide +kernel
theorem dX5_takeNumber_1 : decode cX5_takeNumber 1 = .ok (.istore_n 2, 1) := by decide +kernel
theorem dX5_takeNumber_2 : decode cX5_takeNumber 2 = .ok (.aload_n 0, 1) := by decide +kernel
theorem dX5_takeNumber_3 : decode cX5_takeNumber 3 = .ok (.aload_n 0, 1) := by decide +kernel
theorem dX5_takeNumber_4 : decode cX5_takeNumber 4 = .ok (.getfield 142, 3) := by decide +kernel
theorem dX5_takeNumber_7 : decode cX5_takeNumber 7 = .ok (.invokevirtual 214, 3) := by decide +kernel
theorem dX5_takeNumber_10 : decode cX5_takeNumber 10 = .ok (.bipush 48, 2) := by decide +kernel
theorem dX5_takeNumber_12 : decode cX5_takeNumber 12 = .ok (.bipush 57, 2) := by decide +kernel
theorem dX5_takeNumber_14 : decode cX5_takeNumber 14 = .ok (.invokestatic 45, 3) := by decide +kernel
theorem dX5_takeNumber_17 : decode cX5_takeNumber 17 = .ok (.istore_n 3, 1) := by decide +kernel
theorem dX5_takeNumber_18 : decode cX5_takeNumber 18 = .ok (.iload_n 3, 1) := by decide +kernel
theorem dX5_takeNumber_19 : decode cX5_takeNumber 19 = .ok (.ifCond .eq 89, 3) := by decide +kernel
theorem dX5_takeNumber_22 : decode cX5_takeNumber 22 = .ok (.iload_n 2, 1) := by decide +kernel
theorem dX5_takeNumber_23 : decode cX5_takeNumber 23 = .ok (.ifCond .ge 7, 3) := by decide +kernel
theorem dX5_takeNumber_26 : decode cX5_takeNumber 26 = .ok (.iconst 0, 1) := by decide +kernel
theorem dX5_takeNumber_27 : decode cX5_takeNumber 27 = .ok (.goto 7, 3) := by decide +kernel
theorem dX5_takeNumber_30 : decode cX5_takeNumber 30 = .ok (.bipush 10, 2) := by decide +kernel
theorem dX5_takeNumber_32 : decode cX5_takeNumber 32 = .ok (.iload_n 2, 1) := by decide +kernel
theorem dX5_takeNumber_33 : decode cX5_takeNumber 33 = .ok (.imul, 1) := by decide +kernel
theorem dX5_takeNumber_34 : decode cX5_takeNumber 34 = .ok (.aload_n 0, 1) := by decide +kernel
theorem dX5_takeNumber_35 : decode cX5_takeNumber 35 = .ok (.aload_n 0, 1) := by decide +kernel
theorem dX5_takeNumber_36 : decode cX5_takeNumber 36 = .ok (.getfield 142, 3) := by decide +kernel
theorem dX5_takeNumber_39 : decode cX5_takeNumber 39 = .ok (.invokevirtual 214, 3) := by decide +kernel
theorem dX5_takeNumber_42 : decode cX5_takeNumber 42 = .ok (.iadd, 1) := by decide +kernel
theorem dX5_takeNumber_43 : decode cX5_takeNumber 43 = .ok (.bipush 48, 2) := by decide +kernel
theorem dX5_takeNumber_45 : decode cX5_takeNumber 45 = .ok (.isub, 1) := by decide +kernel
theorem dX5_takeNumber_46 : decode cX5_takeNumber 46 = .ok (.istore_n 2, 1) := by decide +kernel
theorem dX5_takeNumber_47 : decode cX5_takeNumber 47 = .ok (.aload_n 0, 1) := by decide +kernel
theorem dX5_takeNumber_48 : decode cX5_takeNumber 48 = .ok (.dup, 1) := by decide +kernel
theorem dX5_takeNumber_49 : decode cX5_takeNumber 49 = .ok (.getfield 142, 3) := by decide +kernel
theorem dX5_takeNumber_52 : decode cX5_takeNumber 52 = .ok (.iconst 1, 1) := by decide +kernel
theorem dX5_takeNumber_53 : decode cX5_takeNumber 53 = .ok (.iadd, 1) := by decide +kernel
theorem dX5_takeNumber_54 : decode cX5_takeNumber 54 = .ok (.putfield 142, 3) := by decide +kernel
theorem dX5_takeNumber_57 : decode cX5_takeNumber 57 = .ok (.iload_n 2, 1) := by decide +kernel
theorem dX5_takeNumber_58 : decode cX5_takeNumber 58 = .ok (.ifCond .le 45, 3) := by decide +kernel
theorem dX5_takeNumber_61 : decode cX5_takeNumber 61 = .ok (.aload_n 0, 1) := by decide +kernel
theorem dX5_takeNumber_62 : decode cX5_takeNumber 62 = .ok (.aload_n 0, 1) := by decide +kernel
theorem dX5_takeNumber_63 : decode cX5_takeNumber 63 = .ok (.getfield 142, 3) := by decide +kernel
theorem dX5_takeNumber_66 : decode cX5_takeNumber 66 = .ok (.invokevirtual 214, 3) := by decide +kernel
theorem dX5_takeNumber_69 : decode cX5_takeNumber 69 = .ok (.bipush 48, 2) := by decide +kernel
theorem dX5_takeNumber_71 : decode cX5_takeNumber 71 = .ok (.bipush 57, 2) := by decide +kernel
theorem dX5_takeNumber_73 : decode cX5_takeNumber 73 = .ok (.invokestatic 45, 3) := by decide +kernel
theorem dX5_takeNumber_76 : decode cX5_takeNumber 76 = .ok (.ifCond .eq 27, 3) := by decide +kernel
theorem dX5_takeNumber_79 : decode cX5_takeNumber 79 = .ok (.bipush 10, 2) := by decide +kernel
theorem dX5_takeNumber_81 : decode cX5_takeNumber 81 = .ok (.iload_n 2, 1) := by decide +kernel
theorem dX5_takeNumber_82 : decode cX5_takeNumber 82 = .ok (.imul, 1) := by decide +kernel
theorem dX5_takeNumber_83 : decode cX5_takeNumber 83 = .ok (.aload_n 0, 1) := by decide +kernel
theorem dX5_takeNumber_84 : decode cX5_takeNumber 84 = .ok (.aload_n 0, 1) := by decide +kernel
theorem dX5_takeNumber_85 : decode cX5_takeNumber 85 = .ok (.getfield 142, 3) := by decide +kernel
theorem dX5_takeNumber_88 : decode cX5_takeNumber 88 = .ok (.invokevirtual 214, 3) := by decide +kernel
theorem dX5_takeNumber_91 : decode cX5_takeNumber 91 = .ok (.iadd, 1) := by decide +kernel
theorem dX5_takeNumber_92 : decode cX5_takeNumber 92 = .ok (.bipush 48, 2) := by decide +kernel
theorem dX5_takeNumber_94 : decode cX5_takeNumber 94 = .ok (.isub, 1) := by decide +kernel
theorem dX5_takeNumber_95 : decode cX5_takeNumber 95 = .ok (.iload_n 1, 1) := by decide +kernel
theorem dX5_takeNumber_96 : decode cX5_takeNumber 96 = .ok (.if_icmp .gt 7, 3) := by decide +kernel
theorem dX5_takeNumber_99 : decode cX5_takeNumber 99 = .ok (.iconst 1, 1) := by decide +kernel
theorem dX5_takeNumber_100 : decode cX5_takeNumber 100 = .ok (.goto 4, 3) := by decide +kernel
theorem dX5_takeNumber_103 : decode cX5_takeNumber 103 = .ok (.iconst 0, 1) := by decide +kernel
theorem dX5_takeNumber_104 : decode cX5_takeNumber 104 = .ok (.istore_n 3, 1) := by decide +kernel
theorem dX5_takeNumber_105 : decode cX5_takeNumber 105 = .ok (.goto (-87), 3) := by decide +kernel
theorem dX5_takeNumber_108 : decode cX5_takeNumber 108 = .ok (.iload_n 2, 1) := by decide +kernel
theorem dX5_takeNumber_109 : decode cX5_takeNumber 109 = .ok (.ireturn, 1) := by decide +kernel
set_option maxRecDepth 20000 in
theorem ggX5_readsNote_X5_takeNumber : GoodIn wsX5_readsNote wsX5_takeNumber := goodIn_r _ [9, 10, 11, 12, 13, 8, 14, 15, 16, 17, 18, 19, 24, 25, 26, 27, 28, 29, 30, 31, 32, 33, 34, 35, 36, 37, 38, 39] (by decide +kernel) (by decide +kernel)
set_option maxRecDepth 20000 in
theorem gX5_readsNote_X5_takeNumber : GoodIn wsX5_readsNote (wsV RX5 217 RX5 yX5_takeNumber wsX5_takeNumber) := goodIn_app (goodIn_of _ (by decide +kernel)) ggX5_readsNote_X5_takeNumber
set_option maxRecDepth 20000 in
theorem ggX5_readsNote_X5_isNext : GoodIn wsX5_readsNote wsX5_isNext := goodIn_r _ [23, 10, 11, 12, 13, 8, 14, 15, 16, 24, 25, 26, 27, 28, 29, 30, 31, 32, 33, 34, 35, 36, 37, 38, 39] (by decide +kernel) (by decide +kernel)
set_option maxRecDepth 20000 in
theorem gX5_readsNote_X5_isNext : GoodIn wsX5_readsNote (wsV RX5 152 RX5 yX5_isNext wsX5_isNext) := goodIn_app (goodIn_of _ (by decide +kernel)) ggX5_readsNote_X5_isNext
theorem dX5_readsNote_0 : decode cX5_readsNote 0 = .ok (.aload_n 0, 1) := by decide +kernel
theorem dX5_readsNote_1 : decode cX5_readsNote 1 = .ok (.aload_n 0, 1) := by decide +kernel
theorem dX5_readsNote_2 : decode cX5_readsNote 2 = .ok (.bipush 11, 2) := by decide +kernel
theorem dX5_readsNote_4 : decode cX5_readsNote 4 = .ok (.invokevirtual 217, 3) := by decide +kernel
theorem dX5_readsNote_7 : decode cX5_readsNote 7 = .ok (.putfield 155, 3) := by decide +kernel
theorem dX5_readsNote_10 : decode cX5_readsNote 10 = .ok (.aload_n 0, 1) := by decide +kernel
theorem dX5_readsNote_11 : decode cX5_readsNote 11 = .ok (.aload_n 0, 1) := by decide +kernel
theorem dX5_readsNote_12 : decode cX5_readsNote 12 = .ok (.getfield 155, 3) := by decide +kernel
theorem dX5_readsNote_15 : decode cX5_readsNote 15 = .ok (.ifCond .lt 21, 3) := by decide +kernel
theorem dX5_readsNote_18 : decode cX5_readsNote 18 = .ok (.aload_n 0, 1) := by decide +kernel
theorem dX5_readsNote_19 : decode cX5_readsNote 19 = .ok (.bipush 58, 2) := by decide +kernel
theorem dX5_readsNote_21 : decode cX5_readsNote 21 = .ok (.invokevirtual 152, 3) := by decide +kernel
theorem dX5_readsNote_24 : decode cX5_readsNote 24 = .ok (.ifCond .eq 12, 3) := by decide +kernel
theorem dX5_readsNote_27 : decode cX5_readsNote 27 = .ok (.aload_n 0, 1) := by decide +kernel
theorem dX5_readsNote_28 : decode cX5_readsNote 28 = .ok (.bipush 99, 2) := by decide +kernel
theorem dX5_readsNote_30 : decode cX5_readsNote 30 = .ok (.invokevirtual 217, 3) := by decide +kernel
theorem dX5_readsNote_33 : decode cX5_readsNote 33 = .ok (.goto 4, 3) := by decide +kernel
theorem dX5_readsNote_36 : decode cX5_readsNote 36 = .ok (.iconst (-1), 1) := by decide +kernel
theorem dX5_readsNote_37 : decode cX5_readsNote 37 = .ok (.putfield 158, 3) := by decide +kernel
theorem dX5_readsNote_40 : decode cX5_readsNote 40 = .ok (.aload_n 0, 1) := by decide +kernel
theorem dX5_readsNote_41 : decode cX5_readsNote 41 = .ok (.aload_n 0, 1) := by decide +kernel
theorem dX5_readsNote_42 : decode cX5_readsNote 42 = .ok (.getfield 158, 3) := by decide +kernel
theorem dX5_readsNote_45 : decode cX5_readsNote 45 = .ok (.ifCond .lt 21, 3) := by decide +kernel
theorem dX5_readsNote_48 : decode cX5_readsNote 48 = .ok (.aload_n 0, 1) := by decide +kernel
theorem dX5_readsNote_49 : decode cX5_readsNote 49 = .ok (.bipush 45, 2) := by decide +kernel
theorem dX5_readsNote_51 : decode cX5_readsNote 51 = .ok (.invokevirtual 152, 3) := by decide +kernel
theorem dX5_readsNote_54 : decode cX5_readsNote 54 = .ok (.ifCond .eq 12, 3) := by decide +kernel
theorem dX5_readsNote_57 : decode cX5_readsNote 57 = .ok (.aload_n 0, 1) := by decide +kernel
theorem dX5_readsNote_58 : decode cX5_readsNote 58 = .ok (.bipush 99, 2) := by decide +kernel
theorem dX5_readsNote_60 : decode cX5_readsNote 60 = .ok (.invokevirtual 217, 3) := by decide +kernel
theorem dX5_readsNote_63 : decode cX5_readsNote 63 = .ok (.goto 4, 3) := by decide +kernel
theorem dX5_readsNote_66 : decode cX5_readsNote 66 = .ok (.iconst (-1), 1) := by decide +kernel
theorem dX5_readsNote_67 : decode cX5_readsNote 67 = .ok (.putfield 161, 3) := by decide +kernel
theorem dX5_readsNote_70 : decode cX5_readsNote 70 = .ok (.aload_n 0, 1) := by decide +kernel
theorem dX5_readsNote_71 : decode cX5_readsNote 71 = .ok (.aload_n 0, 1) := by decide +kernel
theorem dX5_readsNote_72 : decode cX5_readsNote 72 = .ok (.getfield 161, 3) := by decide +kernel
theorem dX5_readsNote_75 : decode cX5_readsNote 75 = .ok (.ifCond .lt 16, 3) := by decide +kernel
theorem dX5_readsNote_78 : decode cX5_readsNote 78 = .ok (.aload_n 0, 1) := by decide +kernel
theorem dX5_readsNote_79 : decode cX5_readsNote 79 = .ok (.bipush 33, 2) := by decide +kernel
theorem dX5_readsNote_81 : decode cX5_readsNote 81 = .ok (.invokevirtual 152, 3) := by decide +kernel
theorem dX5_readsNote_84 : decode cX5_readsNote 84 = .ok (.ifCond .eq 7, 3) := by decide +kernel
theorem dX5_readsNote_87 : decode cX5_readsNote 87 = .ok (.iconst 1, 1) := by decide +kernel
theorem dX5_readsNote_88 : decode cX5_readsNote 88 = .ok (.goto 4, 3) := by decide +kernel
theorem dX5_readsNote_91 : decode cX5_readsNote 91 = .ok (.iconst 0, 1) := by decide +kernel
theorem dX5_readsNote_92 : decode cX5_readsNote 92 = .ok (.putfield 164, 3) := by decide +kernel
theorem dX5_readsNote_95 : decode cX5_readsNote 95 = .ok (.aload_n 0, 1) := by decide +kernel
theorem dX5_readsNote_96 : decode cX5_readsNote 96 = .ok (.getfield 161, 3) := by decide +kernel
theorem dX5_readsNote_99 : decode cX5_readsNote 99 = .ok (.ifCond .lt 7, 3) := by decide +kernel
theorem dX5_readsNote_102 : decode cX5_readsNote 102 = .ok (.iconst 1, 1) := by decide +kernel
theorem dX5_readsNote_103 : decode cX5_readsNote 103 = .ok (.goto 4, 3) := by decide +kernel
theorem dX5_readsNote_106 : decode cX5_readsNote 106 = .ok (.iconst 0, 1) := by decide +kernel
theorem dX5_readsNote_107 : decode cX5_readsNote 107 = .ok (.ireturn, 1) := by decide +kernel
set_option maxRecDepth 20000 in
theorem ggX5_findFault_X5_readsNote : GoodIn wsX5_findFault wsX5_readsNote := goodIn_r _ [7, 8, 9, 10, 11, 12, 13, 14, 6, 15, 1, 16, 17, 18, 19, 2, 20, 21, 22, 23, 24, 25, 26, 27, 28, 29, 30, 31, 32, 33, 34, 35, 36, 37, 38, 39, 40, 41, 42, 43] (by decide +kernel) (by decide +kernel)
set_option maxRecDepth 20000 in
theorem gX5_findFault_X5_readsNote : GoodIn wsX5_findFault (wsV RX5 148 RX5 yX5_readsNote wsX5_readsNote) := goodIn_app (goodIn_of _ (by decide +kernel)) ggX5_findFault_X5_readsNote
set_option maxRecDepth 20000 in
theorem ggX5_findFault_X5_isNext : GoodIn wsX5_findFault wsX5_isNext := goodIn_r _ [27, 1, 16, 17, 18, 6, 19, 2, 20, 28, 29, 30, 31, 32, 33, 34, 35, 36, 37, 38, 39, 40, 41, 42, 43] (by decide +kernel) (by decide +kernel)
set_option maxRecDepth 20000 in
theorem gX5_findFault_X5_isNext : GoodIn wsX5_findFault (wsV RX5 152 RX5 yX5_isNext wsX5_isNext) := goodIn_app (goodIn_of _ (by decide +kernel)) ggX5_findFault_X5_isNext
theorem dX5_findFault_0 : decode cX5_findFault 0 = .ok (.aload_n 0, 1) := by decide +kernel
theorem dX5_findFault_1 : decode cX5_findFault 1 = .ok (.iconst 0, 1) := by decide +kernel
theorem dX5_findFault_2 : decode cX5_findFault 2 = .ok (.putfield 142, 3) := by decide +kernel
theorem dX5_findFault_5 : decode cX5_findFault 5 = .ok (.aload_n 0, 1) := by decide +kernel
theorem dX5_findFault_6 : decode cX5_findFault 6 = .ok (.invokevirtual 148, 3) := by decide +kernel
theorem dX5_findFault_9 : decode cX5_findFault 9 = .ok (.ifCond .ne 8, 3) := by decide +kernel
theorem dX5_findFault_12 : decode cX5_findFault 12 = .ok (.aload_n 0, 1) := by decide +kernel
theorem dX5_findFault_13 : decode cX5_findFault 13 = .ok (.getfield 142, 3) := by decide +kernel
theorem dX5_findFault_16 : decode cX5_findFault 16 = .ok (.ireturn, 1) := by decide +kernel
theorem dX5_findFault_17 : decode cX5_findFault 17 = .ok (.aload_n 0, 1) := by decide +kernel
theorem dX5_findFault_18 : decode cX5_findFault 18 = .ok (.getfield 142, 3) := by decide +kernel
theorem dX5_findFault_21 : decode cX5_findFault 21 = .ok (.aload_n 0, 1) := by decide +kernel
theorem dX5_findFault_22 : decode cX5_findFault 22 = .ok (.getfield 145, 3) := by decide +kernel
theorem dX5_findFault_25 : decode cX5_findFault 25 = .ok (.if_icmp .ne 6, 3) := by decide +kernel
theorem dX5_findFault_28 : decode cX5_findFault 28 = .ok (.bipush (-6), 2) := by decide +kernel
theorem dX5_findFault_30 : decode cX5_findFault 30 = .ok (.ireturn, 1) := by decide +kernel
theorem dX5_findFault_31 : decode cX5_findFault 31 = .ok (.aload_n 0, 1) := by decide +kernel
theorem dX5_findFault_32 : decode cX5_findFault 32 = .ok (.bipush 59, 2) := by decide +kernel
theorem dX5_findFault_34 : decode cX5_findFault 34 = .ok (.invokevirtual 152, 3) := by decide +kernel
theorem dX5_findFault_37 : decode cX5_findFault 37 = .ok (.ifCond .ne (-32), 3) := by decide +kernel
theorem dX5_findFault_40 : decode cX5_findFault 40 = .ok (.aload_n 0, 1) := by decide +kernel
theorem dX5_findFault_41 : decode cX5_findFault 41 = .ok (.getfield 142, 3) := by decide +kernel
theorem dX5_findFault_44 : decode cX5_findFault 44 = .ok (.ireturn, 1) := by decide +kernel
set_option maxRecDepth 20000 in
theorem ggX5_fault_X5_findFault : GoodIn wsX5_fault wsX5_findFault := goodIn_r _ [5, 6, 7, 8, 9, 10, 4, 11, 12, 13, 14, 15, 16, 17, 18, 19, 20, 21, 22, 23, 24, 25, 26, 27, 28, 29, 30, 31, 32, 33, 34, 35, 36, 37, 38, 39, 40, 41, 42, 43, 44, 45, 46, 47] (by decide +kernel) (by decide +kernel)
set_option maxRecDepth 20000 in
theorem gX5_fault_X5_findFault : GoodIn wsX5_fault (wsV RX5 167 RX5 yX5_findFault wsX5_findFault) := goodIn_app (goodIn_of _ (by decide +kernel)) ggX5_fault_X5_findFault
theorem dX5_fault_0 : decode cX5_fault 0 = .ok (.aload_n 0, 1) := by decide +kernel
theorem dX5_fault_1 : decode cX5_fault 1 = .ok (.invokevirtual 167, 3) := by decide +kernel
theorem dX5_fault_4 : decode cX5_fault 4 = .ok (.ireturn, 1) := by decide +kernel
set_option maxRecDepth 20000 in
theorem ggX5_undo_X5_moves : GoodIn wsX5_undo wsX5_moves := goodIn_r _ [7] (by decide +kernel) (by decide +kernel)
set_option maxRecDepth 20000 in
theorem gX5_undo_X5_moves : GoodIn wsX5_undo (va_wsS RX5 41 yX5_moves wsX5_moves) := goodIn_app (goodIn_of _ (by decide +kernel)) ggX5_undo_X5_moves
theorem dX5_undo_0 : decode cX5_undo 0 = .ok (.aload_n 0, 1) := by decide +kernel
theorem dX5_undo_1 : decode cX5_undo 1 = .ok (.getfield 37, 3) := by decide +kernel
theorem dX5_undo_4 : decode cX5_undo 4 = .ok (.ifCond .ne 6, 3) := by decide +kernel
theorem dX5_undo_7 : decode cX5_undo 7 = .ok (.bipush (-5), 2) := by decide +kernel
theorem dX5_undo_9 : decode cX5_undo 9 = .ok (.ireturn, 1) := by decide +kernel
theorem dX5_undo_10 : decode cX5_undo 10 = .ok (.aload_n 0, 1) := by decide +kernel
theorem dX5_undo_11 : decode cX5_undo 11 = .ok (.dup, 1) := by decide +kernel
theorem dX5_undo_12 : decode cX5_undo 12 = .ok (.getfield 37, 3) := by decide +kernel
theorem dX5_undo_15 : decode cX5_undo 15 = .ok (.iconst 1, 1) := by decide +kernel
theorem dX5_undo_16 : decode cX5_undo 16 = .ok (.isub, 1) := by decide +kernel
theorem dX5_undo_17 : decode cX5_undo 17 = .ok (.putfield 37, 3) := by decide +kernel
theorem dX5_undo_20 : decode cX5_undo 20 = .ok (.aload_n 0, 1) := by decide +kernel
theorem dX5_undo_21 : decode cX5_undo 21 = .ok (.getfield 16, 3) := by decide +kernel
theorem dX5_undo_24 : decode cX5_undo 24 = .ok (.aload_n 0, 1) := by decide +kernel
theorem dX5_undo_25 : decode cX5_undo 25 = .ok (.getfield 37, 3) := by decide +kernel
theorem dX5_undo_28 : decode cX5_undo 28 = .ok (.sipush 205, 3) := by decide +kernel
theorem dX5_undo_31 : decode cX5_undo 31 = .ok (.imul, 1) := by decide +kernel
theorem dX5_undo_32 : decode cX5_undo 32 = .ok (.aload_n 0, 1) := by decide +kernel
theorem dX5_undo_33 : decode cX5_undo 33 = .ok (.getfield 7, 3) := by decide +kernel
theorem dX5_undo_36 : decode cX5_undo 36 = .ok (.iconst 0, 1) := by decide +kernel
theorem dX5_undo_37 : decode cX5_undo 37 = .ok (.invokestatic 41, 3) := by decide +kernel
theorem dX5_undo_40 : decode cX5_undo 40 = .ok (.aload_n 0, 1) := by decide +kernel
theorem dX5_undo_41 : decode cX5_undo 41 = .ok (.getfield 37, 3) := by decide +kernel
theorem dX5_undo_44 : decode cX5_undo 44 = .ok (.ireturn, 1) := by decide +kernel
set_option maxRecDepth 20000 in
theorem ggX5_save_X5_within : GoodIn wsX5_save wsX5_within := goodIn_r _ [7] (by decide +kernel) (by decide +kernel)
set_option maxRecDepth 20000 in
theorem gX5_save_X5_within : GoodIn wsX5_save (va_wsS RX5 45 yX5_within wsX5_within) := goodIn_app (goodIn_of _ (by decide +kernel)) ggX5_save_X5_within
set_option maxRecDepth 20000 in
theorem ggX5_save_X5_moves : GoodIn wsX5_save wsX5_moves := goodIn_r _ [10] (by decide +kernel) (by decide +kernel)
set_option maxRecDepth 20000 in
theorem gX5_save_X5_moves : GoodIn wsX5_save (va_wsS RX5 41 yX5_moves wsX5_moves) := goodIn_app (goodIn_of _ (by decide +kernel)) ggX5_save_X5_moves
theorem dX5_save_0 : decode cX5_save 0 = .ok (.iload_n 1, 1) := by decide +kernel
theorem dX5_save_1 : decode cX5_save 1 = .ok (.iconst 0, 1) := by decide +kernel
theorem dX5_save_2 : decode cX5_save 2 = .ok (.iconst 1, 1) := by decide +kernel
theorem dX5_save_3 : decode cX5_save 3 = .ok (.invokestatic 45, 3) := by decide +kernel
theorem dX5_save_6 : decode cX5_save 6 = .ok (.ifCond .ne 6, 3) := by decide +kernel
theorem dX5_save_9 : decode cX5_save 9 = .ok (.bipush (-2), 2) := by decide +kernel
theorem dX5_save_11 : decode cX5_save 11 = .ok (.ireturn, 1) := by decide +kernel
theorem dX5_save_12 : decode cX5_save 12 = .ok (.aload_n 0, 1) := by decide +kernel
theorem dX5_save_13 : decode cX5_save 13 = .ok (.getfield 7, 3) := by decide +kernel
theorem dX5_save_16 : decode cX5_save 16 = .ok (.iconst 0, 1) := by decide +kernel
theorem dX5_save_17 : decode cX5_save 17 = .ok (.aload_n 0, 1) := by decide +kernel
theorem dX5_save_18 : decode cX5_save 18 = .ok (.getfield 19, 3) := by decide +kernel
theorem dX5_save_21 : decode cX5_save 21 = .ok (.sipush 205, 3) := by decide +kernel
theorem dX5_save_24 : decode cX5_save 24 = .ok (.iload_n 1, 1) := by decide +kernel
theorem dX5_save_25 : decode cX5_save 25 = .ok (.imul, 1) := by decide +kernel
theorem dX5_save_26 : decode cX5_save 26 = .ok (.invokestatic 41, 3) := by decide +kernel
theorem dX5_save_29 : decode cX5_save 29 = .ok (.aload_n 0, 1) := by decide +kernel
theorem dX5_save_30 : decode cX5_save 30 = .ok (.getfield 22, 3) := by decide +kernel
theorem dX5_save_33 : decode cX5_save 33 = .ok (.iload_n 1, 1) := by decide +kernel
theorem dX5_save_34 : decode cX5_save 34 = .ok (.iconst 1, 1) := by decide +kernel
theorem dX5_save_35 : decode cX5_save 35 = .ok (.iastore, 1) := by decide +kernel
theorem dX5_save_36 : decode cX5_save 36 = .ok (.aload_n 0, 1) := by decide +kernel
theorem dX5_save_37 : decode cX5_save 37 = .ok (.getfield 7, 3) := by decide +kernel
theorem dX5_save_40 : decode cX5_save 40 = .ok (.iconst 4, 1) := by decide +kernel
theorem dX5_save_41 : decode cX5_save 41 = .ok (.iaload, 1) := by decide +kernel
theorem dX5_save_42 : decode cX5_save 42 = .ok (.ireturn, 1) := by decide +kernel
set_option maxRecDepth 20000 in
theorem ggX5_restore_X5_within : GoodIn wsX5_restore wsX5_within := goodIn_r _ [7] (by decide +kernel) (by decide +kernel)
set_option maxRecDepth 20000 in
theorem gX5_restore_X5_within : GoodIn wsX5_restore (va_wsS RX5 45 yX5_within wsX5_within) := goodIn_app (goodIn_of _ (by decide +kernel)) ggX5_restore_X5_within
set_option maxRecDepth 20000 in
theorem ggX5_restore_X5_record : GoodIn wsX5_restore wsX5_record := goodIn_r _ [11, 12, 13, 3, 14, 15, 6, 16, 17, 18, 19, 20, 21, 22, 23, 24, 25, 26, 27, 28, 29, 30, 31, 32] (by decide +kernel) (by decide +kernel)
set_option maxRecDepth 20000 in
theorem gX5_restore_X5_record : GoodIn wsX5_restore (wsV RX5 101 RX5 yX5_record wsX5_record) := goodIn_app (goodIn_of _ (by decide +kernel)) ggX5_restore_X5_record
set_option maxRecDepth 20000 in
theorem ggX5_restore_X5_moves : GoodIn wsX5_restore wsX5_moves := goodIn_r _ [16] (by decide +kernel) (by decide +kernel)
set_option maxRecDepth 20000 in
theorem gX5_restore_X5_moves : GoodIn wsX5_restore (va_wsS RX5 41 yX5_moves wsX5_moves) := goodIn_app (goodIn_of _ (by decide +kernel)) ggX5_restore_X5_moves
theorem dX5_restore_0 : decode cX5_restore 0 = .ok (.iload_n 1, 1) := by decide +kernel
theorem dX5_restore_1 : decode cX5_restore 1 = .ok (.iconst 0, 1) := by decide +kernel
theorem dX5_restore_2 : decode cX5_restore 2 = .ok (.iconst 1, 1) := by decide +kernel
theorem dX5_restore_3 : decode cX5_restore 3 = .ok (.invokestatic 45, 3) := by decide +kernel
theorem dX5_restore_6 : decode cX5_restore 6 = .ok (.ifCond .ne 6, 3) := by decide +kernel
theorem dX5_restore_9 : decode cX5_restore 9 = .ok (.bipush (-2), 2) := by decide +kernel
theorem dX5_restore_11 : decode cX5_restore 11 = .ok (.ireturn, 1) := by decide +kernel
theorem dX5_restore_12 : decode cX5_restore 12 = .ok (.aload_n 0, 1) := by decide +kernel
theorem dX5_restore_13 : decode cX5_restore 13 = .ok (.getfield 22, 3) := by decide +kernel
theorem dX5_restore_16 : decode cX5_restore 16 = .ok (.iload_n 1, 1) := by decide +kernel
theorem dX5_restore_17 : decode cX5_restore 17 = .ok (.iaload, 1) := by decide +kernel
theorem dX5_restore_18 : decode cX5_restore 18 = .ok (.ifCond .ne 6, 3) := by decide +kernel
theorem dX5_restore_21 : decode cX5_restore 21 = .ok (.bipush (-5), 2) := by decide +kernel
theorem dX5_restore_23 : decode cX5_restore 23 = .ok (.ireturn, 1) := by decide +kernel
theorem dX5_restore_24 : decode cX5_restore 24 = .ok (.aload_n 0, 1) := by decide +kernel
theorem dX5_restore_25 : decode cX5_restore 25 = .ok (.invokevirtual 101, 3) := by decide +kernel
theorem dX5_restore_28 : decode cX5_restore 28 = .ok (.aload_n 0, 1) := by decide +kernel
theorem dX5_restore_29 : decode cX5_restore 29 = .ok (.getfield 19, 3) := by decide +kernel
theorem dX5_restore_32 : decode cX5_restore 32 = .ok (.sipush 205, 3) := by decide +kernel
theorem dX5_restore_35 : decode cX5_restore 35 = .ok (.iload_n 1, 1) := by decide +kernel
theorem dX5_restore_36 : decode cX5_restore 36 = .ok (.imul, 1) := by decide +kernel
theorem dX5_restore_37 : decode cX5_restore 37 = .ok (.aload_n 0, 1) := by decide +kernel
theorem dX5_restore_38 : decode cX5_restore 38 = .ok (.getfield 7, 3) := by decide +kernel
theorem dX5_restore_41 : decode cX5_restore 41 = .ok (.iconst 0, 1) := by decide +kernel
theorem dX5_restore_42 : decode cX5_restore 42 = .ok (.invokestatic 41, 3) := by decide +kernel
theorem dX5_restore_45 : decode cX5_restore 45 = .ok (.aload_n 0, 1) := by decide +kernel
theorem dX5_restore_46 : decode cX5_restore 46 = .ok (.getfield 7, 3) := by decide +kernel
theorem dX5_restore_49 : decode cX5_restore 49 = .ok (.iconst 4, 1) := by decide +kernel
theorem dX5_restore_50 : decode cX5_restore 50 = .ok (.iaload, 1) := by decide +kernel
theorem dX5_restore_51 : decode cX5_restore 51 = .ok (.ireturn, 1) := by decide +kernel
theorem dJ6_bitCount_0f7a4_0 : decode cJ6_bitCount_0f7a4 0 = .ok (.iload_n 0, 1) := by decide +kernel
theorem dJ6_bitCount_0f7a4_1 : decode cJ6_bitCount_0f7a4 1 = .ok (.iload_n 0, 1) := by decide +kernel
theorem dJ6_bitCount_0f7a4_2 : decode cJ6_bitCount_0f7a4 2 = .ok (.iconst 1, 1) := by decide +kernel
theorem dJ6_bitCount_0f7a4_3 : decode cJ6_bitCount_0f7a4 3 = .ok (.iushr, 1) := by decide +kernel
theorem dJ6_bitCount_0f7a4_4 : decode cJ6_bitCount_0f7a4 4 = .ok (.ldc_w 265, 3) := by decide +kernel
theorem dJ6_bitCount_0f7a4_7 : decode cJ6_bitCount_0f7a4 7 = .ok (.iand, 1) := by decide +kernel
theorem dJ6_bitCount_0f7a4_8 : decode cJ6_bitCount_0f7a4 8 = .ok (.isub, 1) := by decide +kernel
theorem dJ6_bitCount_0f7a4_9 : decode cJ6_bitCount_0f7a4 9 = .ok (.istore_n 0, 1) := by decide +kernel
theorem dJ6_bitCount_0f7a4_10 : decode cJ6_bitCount_0f7a4 10 = .ok (.iload_n 0, 1) := by decide +kernel
theorem dJ6_bitCount_0f7a4_11 : decode cJ6_bitCount_0f7a4 11 = .ok (.ldc_w 266, 3) := by decide +kernel
theorem dJ6_bitCount_0f7a4_14 : decode cJ6_bitCount_0f7a4 14 = .ok (.iand, 1) := by decide +kernel
theorem dJ6_bitCount_0f7a4_15 : decode cJ6_bitCount_0f7a4 15 = .ok (.iload_n 0, 1) := by decide +kernel
theorem dJ6_bitCount_0f7a4_16 : decode cJ6_bitCount_0f7a4 16 = .ok (.iconst 2, 1) := by decide +kernel
theorem dJ6_bitCount_0f7a4_17 : decode cJ6_bitCount_0f7a4 17 = .ok (.iushr, 1) := by decide +kernel
theorem dJ6_bitCount_0f7a4_18 : decode cJ6_bitCount_0f7a4 18 = .ok (.ldc_w 266, 3) := by decide +kernel
theorem dJ6_bitCount_0f7a4_21 : decode cJ6_bitCount_0f7a4 21 = .ok (.iand, 1) := by decide +kernel
theorem dJ6_bitCount_0f7a4_22 : decode cJ6_bitCount_0f7a4 22 = .ok (.iadd, 1) := by decide +kernel
theorem dJ6_bitCount_0f7a4_23 : decode cJ6_bitCount_0f7a4 23 = .ok (.istore_n 0, 1) := by decide +kernel
theorem dJ6_bitCount_0f7a4_24 : decode cJ6_bitCount_0f7a4 24 = .ok (.iload_n 0, 1) := by decide +kernel
theorem dJ6_bitCount_0f7a4_25 : decode cJ6_bitCount_0f7a4 25 = .ok (.iload_n 0, 1) := by decide +kernel
theorem dJ6_bitCount_0f7a4_26 : decode cJ6_bitCount_0f7a4 26 = .ok (.iconst 4, 1) := by decide +kernel
theorem dJ6_bitCount_0f7a4_27 : decode cJ6_bitCount_0f7a4 27 = .ok (.iushr, 1) := by decide +kernel
theorem dJ6_bitCount_0f7a4_28 : decode cJ6_bitCount_0f7a4 28 = .ok (.iadd, 1) := by decide +kernel
theorem dJ6_bitCount_0f7a4_29 : decode cJ6_bitCount_0f7a4 29 = .ok (.ldc_w 267, 3) := by decide +kernel
theorem dJ6_bitCount_0f7a4_32 : decode cJ6_bitCount_0f7a4 32 = .ok (.iand, 1) := by decide +kernel
theorem dJ6_bitCount_0f7a4_33 : decode cJ6_bitCount_0f7a4 33 = .ok (.istore_n 0, 1) := by decide +kernel
theorem dJ6_bitCount_0f7a4_34 : decode cJ6_bitCount_0f7a4 34 = .ok (.iload_n 0, 1) := by decide +kernel
theorem dJ6_bitCount_0f7a4_35 : decode cJ6_bitCount_0f7a4 35 = .ok (.iload_n 0, 1) := by decide +kernel
theorem dJ6_bitCount_0f7a4_36 : decode cJ6_bitCount_0f7a4 36 = .ok (.bipush 8, 2) := by decide +kernel
theorem dJ6_bitCount_0f7a4_38 : decode cJ6_bitCount_0f7a4 38 = .ok (.iushr, 1) := by decide +kernel
theorem dJ6_bitCount_0f7a4_39 : decode cJ6_bitCount_0f7a4 39 = .ok (.iadd, 1) := by decide +kernel
theorem dJ6_bitCount_0f7a4_40 : decode cJ6_bitCount_0f7a4 40 = .ok (.istore_n 0, 1) := by decide +kernel
theorem dJ6_bitCount_0f7a4_41 : decode cJ6_bitCount_0f7a4 41 = .ok (.iload_n 0, 1) := by decide +kernel
theorem dJ6_bitCount_0f7a4_42 : decode cJ6_bitCount_0f7a4 42 = .ok (.iload_n 0, 1) := by decide +kernel
theorem dJ6_bitCount_0f7a4_43 : decode cJ6_bitCount_0f7a4 43 = .ok (.bipush 16, 2) := by decide +kernel
theorem dJ6_bitCount_0f7a4_45 : decode cJ6_bitCount_0f7a4 45 = .ok (.iushr, 1) := by decide +kernel
theorem dJ6_bitCount_0f7a4_46 : decode cJ6_bitCount_0f7a4 46 = .ok (.iadd, 1) := by decide +kernel
theorem dJ6_bitCount_0f7a4_47 : decode cJ6_bitCount_0f7a4 47 = .ok (.istore_n 0, 1) := by decide +kernel
theorem dJ6_bitCount_0f7a4_48 : decode cJ6_bitCount_0f7a4 48 = .ok (.iload_n 0, 1) := by decide +kernel
theorem dJ6_bitCount_0f7a4_49 : decode cJ6_bitCount_0f7a4 49 = .ok (.bipush 63, 2) := by decide +kernel
theorem dJ6_bitCount_0f7a4_51 : decode cJ6_bitCount_0f7a4 51 = .ok (.iand, 1) := by decide +kernel
theorem dJ6_bitCount_0f7a4_52 : decode cJ6_bitCount_0f7a4 52 = .ok (.ireturn, 1) := by decide +kernel
theorem dJ9_floorMod_7cf53_0 : decode cJ9_floorMod_7cf53 0 = .ok (.iload_n 0, 1) := by decide +kernel
theorem dJ9_floorMod_7cf53_1 : decode cJ9_floorMod_7cf53 1 = .ok (.iload_n 1, 1) := by decide +kernel
theorem dJ9_floorMod_7cf53_2 : decode cJ9_floorMod_7cf53 2 = .ok (.irem, 1) := by decide +kernel
theorem dJ9_floorMod_7cf53_3 : decode cJ9_floorMod_7cf53 3 = .ok (.istore_n 2, 1) := by decide +kernel
theorem dJ9_floorMod_7cf53_4 : decode cJ9_floorMod_7cf53 4 = .ok (.iload_n 0, 1) := by decide +kernel
theorem dJ9_floorMod_7cf53_5 : decode cJ9_floorMod_7cf53 5 = .ok (.iload_n 1, 1) := by decide +kernel
theorem dJ9_floorMod_7cf53_6 : decode cJ9_floorMod_7cf53 6 = .ok (.ixor, 1) := by decide +kernel
theorem dJ9_floorMod_7cf53_7 : decode cJ9_floorMod_7cf53 7 = .ok (.ifCond .ge 11, 3) := by decide +kernel
theorem dJ9_floorMod_7cf53_10 : decode cJ9_floorMod_7cf53 10 = .ok (.iload_n 2, 1) := by decide +kernel
theorem dJ9_floorMod_7cf53_11 : decode cJ9_floorMod_7cf53 11 = .ok (.ifCond .eq 7, 3) := by decide +kernel
theorem dJ9_floorMod_7cf53_14 : decode cJ9_floorMod_7cf53 14 = .ok (.iload_n 2, 1) := by decide +kernel
theorem dJ9_floorMod_7cf53_15 : decode cJ9_floorMod_7cf53 15 = .ok (.iload_n 1, 1) := by decide +kernel
theorem dJ9_floorMod_7cf53_16 : decode cJ9_floorMod_7cf53 16 = .ok (.iadd, 1) := by decide +kernel
theorem dJ9_floorMod_7cf53_17 : decode cJ9_floorMod_7cf53 17 = .ok (.ireturn, 1) := by decide +kernel
theorem dJ9_floorMod_7cf53_18 : decode cJ9_floorMod_7cf53 18 = .ok (.iload_n 2, 1) := by decide +kernel
theorem dJ9_floorMod_7cf53_19 : decode cJ9_floorMod_7cf53 19 = .ok (.ireturn, 1) := by decide +kernel
theorem dJ9_max_7cf53_0 : decode cJ9_max_7cf53 0 = .ok (.iload_n 0, 1) := by decide +kernel
theorem dJ9_max_7cf53_1 : decode cJ9_max_7cf53 1 = .ok (.iload_n 1, 1) := by decide +kernel
theorem dJ9_max_7cf53_2 : decode cJ9_max_7cf53 2 = .ok (.if_icmp .lt 7, 3) := by decide +kernel
theorem dJ9_max_7cf53_5 : decode cJ9_max_7cf53 5 = .ok (.iload_n 0, 1) := by decide +kernel
theorem dJ9_max_7cf53_6 : decode cJ9_max_7cf53 6 = .ok (.goto 4, 3) := by decide +kernel
theorem dJ9_max_7cf53_9 : decode cJ9_max_7cf53 9 = .ok (.iload_n 1, 1) := by decide +kernel
theorem dJ9_max_7cf53_10 : decode cJ9_max_7cf53 10 = .ok (.ireturn, 1) := by decide +kernel
theorem dJ9_min_7cf53_0 : decode cJ9_min_7cf53 0 = .ok (.iload_n 0, 1) := by decide +kernel
theorem dJ9_min_7cf53_1 : decode cJ9_min_7cf53 1 = .ok (.iload_n 1, 1) := by decide +kernel
theorem dJ9_min_7cf53_2 : decode cJ9_min_7cf53 2 = .ok (.if_icmp .gt 7, 3) := by decide +kernel
theorem dJ9_min_7cf53_5 : decode cJ9_min_7cf53 5 = .ok (.iload_n 0, 1) := by decide +kernel
theorem dJ9_min_7cf53_6 : decode cJ9_min_7cf53 6 = .ok (.goto 4, 3) := by decide +kernel
theorem dJ9_min_7cf53_9 : decode cJ9_min_7cf53 9 = .ok (.iload_n 1, 1) := by decide +kernel
theorem dJ9_min_7cf53_10 : decode cJ9_min_7cf53 10 = .ok (.ireturn, 1) := by decide +kernel
theorem dJ7_fill_53178_0 : decode cJ7_fill_53178 0 = .ok (.iconst 0, 1) := by decide +kernel
theorem dJ7_fill_53178_1 : decode cJ7_fill_53178 1 = .ok (.istore_n 2, 1) := by decide +kernel
theorem dJ7_fill_53178_2 : decode cJ7_fill_53178 2 = .ok (.aload_n 0, 1) := by decide +kernel
theorem dJ7_fill_53178_3 : decode cJ7_fill_53178 3 = .ok (.arraylength, 1) := by decide +kernel
theorem dJ7_fill_53178_4 : decode cJ7_fill_53178 4 = .ok (.istore_n 3, 1) := by decide +kernel
theorem dJ7_fill_53178_5 : decode cJ7_fill_53178 5 = .ok (.iload_n 2, 1) := by decide +kernel
theorem dJ7_fill_53178_6 : decode cJ7_fill_53178 6 = .ok (.iload_n 3, 1) := by decide +kernel
theorem dJ7_fill_53178_7 : decode cJ7_fill_53178 7 = .ok (.if_icmp .ge 13, 3) := by decide +kernel
theorem dJ7_fill_53178_10 : decode cJ7_fill_53178 10 = .ok (.aload_n 0, 1) := by decide +kernel
theorem dJ7_fill_53178_11 : decode cJ7_fill_53178 11 = .ok (.iload_n 2, 1) := by decide +kernel
theorem dJ7_fill_53178_12 : decode cJ7_fill_53178 12 = .ok (.iload_n 1, 1) := by decide +kernel
theorem dJ7_fill_53178_13 : decode cJ7_fill_53178 13 = .ok (.iastore, 1) := by decide +kernel
theorem dJ7_fill_53178_14 : decode cJ7_fill_53178 14 = .ok (.iinc 2 1, 3) := by decide +kernel
theorem dJ7_fill_53178_17 : decode cJ7_fill_53178 17 = .ok (.goto (-12), 3) := by decide +kernel
theorem dJ7_fill_53178_20 : decode cJ7_fill_53178 20 = .ok (.return_, 1) := by decide +kernel
set_option maxRecDepth 20000 in
theorem ggL_law_X4_init : GoodIn wsL_law wsX4_init := goodIn_r _ [9, 10, 11, 12, 13, 14, 15, 16, 17, 18, 19, 20, 21, 22, 23, 24, 25, 26, 27, 28, 29, 30, 31, 32, 33, 34, 35, 36, 37, 38, 39, 40, 41, 42, 43, 44, 45, 46, 47, 48, 49, 50, 51, 52, 53, 54, 55, 56, 57, 58, 59, 60, 61, 62, 63, 64, 65, 66, 67, 68, 845, 846, 847, 848, 849, 850, 851, 822, 823, 824, 825, 826, 827, 828, 852, 853, 854, 855, 856, 857, 858, 859, 860, 861, 862, 863, 864, 865] (by decide +kernel) (by decide +kernel)
set_option maxRecDepth 20000 in
theorem gL_law_X4_init : GoodIn wsL_law (wsX4_init) := ggL_law_X4_init
set_option maxRecDepth 20000 in
theorem ggL_law_X5_init : GoodIn wsL_law wsX5_init := goodIn_r _ [71, 72, 11, 12, 37, 73, 74, 75, 76, 77, 78, 79, 80, 81, 829, 830, 831, 832, 833, 834, 835, 836, 837, 838, 839, 840, 841, 842, 843, 844] (by decide +kernel) (by decide +kernel)
set_option maxRecDepth 20000 in
theorem gL_law_X5_init : GoodIn wsL_law (wsX5_init) := ggL_law_X5_init
set_option maxRecDepth 20000 in
theorem ggL_law_X4_set : GoodIn wsL_law wsX4_set := goodIn_r _ [85, 86, 87, 16, 29, 88, 89, 2, 90, 91, 92, 93, 15, 94, 38, 95, 96, 97, 28, 98, 67, 99, 100, 101, 102, 103, 104, 105, 106, 107, 108, 109, 110, 111, 112, 113, 39, 40, 41, 42, 43, 114, 115, 116, 117, 44, 45, 46, 47, 118, 119, 120, 121, 822, 823, 824, 825, 826, 827, 828, 845, 846, 847, 848, 849, 850, 851, 863, 864, 865] (by decide +kernel) (by decide +kernel)
set_option maxRecDepth 20000 in
theorem gL_law_X4_set : GoodIn wsL_law (wsV RL 13 RX4 yX4_set wsX4_set) := goodIn_app (goodIn_of _ (by decide +kernel)) ggL_law_X4_set
set_option maxRecDepth 20000 in
theorem ggL_law_X5_set : GoodIn wsL_law wsX5_set := goodIn_r _ [125, 73, 126, 127, 5, 128, 129, 130, 131, 132, 133, 134, 135, 136, 75, 137, 138, 139, 829, 830, 831, 832, 833, 834, 835, 836, 837, 838, 839, 840, 841, 842, 843, 844] (by decide +kernel) (by decide +kernel)
set_option maxRecDepth 20000 in
theorem gL_law_X5_set : GoodIn wsL_law (wsV RL 17 RX5 yX5_set wsX5_set) := goodIn_app (goodIn_of _ (by decide +kernel)) ggL_law_X5_set
set_option maxRecDepth 20000 in
theorem ggL_law_X4_note : GoodIn wsL_law wsX4_note := goodIn_r _ [143, 16, 29, 144, 145, 2, 146, 88, 89, 90, 147, 148, 149, 150, 151, 152, 15, 153, 113, 154, 155, 156, 157, 158, 159, 160, 161, 162, 163, 164, 165, 39, 166, 167, 168, 169, 170, 171, 172, 173, 40, 174, 175, 176, 177, 41, 95, 96, 97, 28, 98, 67, 99, 100, 101, 102, 103, 104, 105, 106, 107, 108, 109, 110, 111, 112, 42, 43, 114, 115, 116, 117, 38, 44, 45, 46, 47, 178, 179, 180, 181, 182, 183, 184, 185, 186, 187, 188, 189, 822, 823, 824, 825, 826, 827, 828, 845, 846, 847, 848, 849, 850, 851, 863, 864, 865] (by decide +kernel) (by decide +kernel)
set_option maxRecDepth 20000 in
theorem gL_law_X4_note : GoodIn wsL_law (wsV RL 18 RX4 yX4_note wsX4_note) := goodIn_app (goodIn_of _ (by decide +kernel)) ggL_law_X4_note
set_option maxRecDepth 20000 in
theorem ggL_law_X5_note : GoodIn wsL_law wsX5_note := goodIn_r _ [193, 73, 194, 195, 5, 196, 129, 130, 131, 197, 198, 199, 200, 201, 202, 203, 204, 205, 206, 207, 132, 133, 134, 135, 136, 75, 137, 138, 139, 208, 209, 210, 211, 212, 213, 214, 215, 216, 217, 218, 219, 220, 221, 222, 223, 829, 830, 831, 832, 833, 834, 835, 836, 837, 838, 839, 840, 841, 842, 843, 844] (by decide +kernel) (by decide +kernel)
set_option maxRecDepth 20000 in
theorem gL_law_X5_note : GoodIn wsL_law (wsV RL 22 RX5 yX5_note wsX5_note) := goodIn_app (goodIn_of _ (by decide +kernel)) ggL_law_X5_note
set_option maxRecDepth 20000 in
theorem ggL_law_X4_drop : GoodIn wsL_law wsX4_drop := goodIn_r _ [227, 16, 29, 228, 167, 168, 15, 169, 113, 95, 96, 97, 28, 98, 67, 99, 100, 101, 102, 103, 104, 105, 106, 107, 108, 109, 110, 111, 112, 39, 40, 41, 42, 43, 114, 115, 116, 117, 38, 44, 45, 46, 47, 229, 230, 231, 232, 166, 186, 187, 188, 189, 89, 2, 90, 150, 151, 152, 153, 822, 823, 824, 825, 826, 827, 828, 845, 846, 847, 848, 849, 850, 851, 863, 864, 865] (by decide +kernel) (by decide +kernel)
set_option maxRecDepth 20000 in
theorem gL_law_X4_drop : GoodIn wsL_law (wsV RL 23 RX4 yX4_drop wsX4_drop) := goodIn_app (goodIn_of _ (by decide +kernel)) ggL_law_X4_drop
set_option maxRecDepth 20000 in
theorem ggL_law_X5_drop : GoodIn wsL_law wsX5_drop := goodIn_r _ [236, 73, 237, 238, 239, 5, 240, 129, 130, 131, 132, 133, 134, 135, 136, 75, 137, 138, 139, 241, 242, 243, 244, 216, 217, 218, 219, 204, 205, 206, 207, 220, 221, 222, 223, 829, 830, 831, 832, 833, 834, 835, 836, 837, 838, 839, 840, 841, 842, 843, 844] (by decide +kernel) (by decide +kernel)
set_option maxRecDepth 20000 in
theorem gL_law_X5_drop : GoodIn wsL_law (wsV RL 27 RX5 yX5_drop wsX5_drop) := goodIn_app (goodIn_of _ (by decide +kernel)) ggL_law_X5_drop
set_option maxRecDepth 20000 in
theorem ggL_law_X4_shift : GoodIn wsL_law wsX4_shift := goodIn_r _ [248, 16, 29, 228, 167, 168, 15, 169, 113, 88, 89, 2, 90, 249, 250, 251, 252, 42, 166, 95, 96, 97, 28, 98, 67, 99, 100, 101, 102, 103, 104, 105, 106, 107, 108, 109, 110, 111, 112, 39, 40, 41, 43, 114, 115, 116, 117, 38, 44, 45, 46, 47, 253, 254, 255, 256, 822, 823, 824, 825, 826, 827, 828, 845, 846, 847, 848, 849, 850, 851, 863, 864, 865] (by decide +kernel) (by decide +kernel)
set_option maxRecDepth 20000 in
theorem gL_law_X4_shift : GoodIn wsL_law (wsV RL 28 RX4 yX4_shift wsX4_shift) := goodIn_app (goodIn_of _ (by decide +kernel)) ggL_law_X4_shift
set_option maxRecDepth 20000 in
theorem ggL_law_X5_shift : GoodIn wsL_law wsX5_shift := goodIn_r _ [260, 237, 238, 239, 5, 240, 73, 129, 130, 131, 132, 133, 134, 135, 136, 75, 137, 138, 139, 204, 205, 206, 207, 220, 221, 222, 223, 829, 830, 831, 832, 833, 834, 835, 836, 837, 838, 839, 840, 841, 842, 843, 844] (by decide +kernel) (by decide +kernel)
set_option maxRecDepth 20000 in
theorem gL_law_X5_shift : GoodIn wsL_law (wsV RL 31 RX5 yX5_shift wsX5_shift) := goodIn_app (goodIn_of _ (by decide +kernel)) ggL_law_X5_shift
set_option maxRecDepth 20000 in
theorem ggL_law_X4_accent : GoodIn wsL_law wsX4_accent := goodIn_r _ [264, 16, 29, 228, 167, 168, 15, 169, 113, 265, 266, 267, 268, 43, 166, 95, 96, 97, 28, 98, 67, 99, 100, 101, 102, 103, 104, 105, 106, 107, 108, 109, 110, 111, 112, 39, 40, 41, 42, 114, 115, 116, 117, 38, 44, 45, 46, 47, 269, 270, 271, 272, 273, 274, 2, 275, 822, 823, 824, 825, 826, 827, 828, 845, 846, 847, 848, 849, 850, 851, 863, 864, 865] (by decide +kernel) (by decide +kernel)
set_option maxRecDepth 20000 in
theorem gL_law_X4_accent : GoodIn wsL_law (wsV RL 32 RX4 yX4_accent wsX4_accent) := goodIn_app (goodIn_of _ (by decide +kernel)) ggL_law_X4_accent
set_option maxRecDepth 20000 in
theorem ggL_law_X5_accent : GoodIn wsL_law wsX5_accent := goodIn_r _ [279, 237, 238, 239, 5, 240, 73, 129, 130, 131, 132, 133, 134, 135, 136, 75, 137, 138, 139, 204, 205, 206, 207, 220, 221, 222, 223, 829, 830, 831, 832, 833, 834, 835, 836, 837, 838, 839, 840, 841, 842, 843, 844] (by decide +kernel) (by decide +kernel)
set_option maxRecDepth 20000 in
theorem gL_law_X5_accent : GoodIn wsL_law (wsV RL 36 RX5 yX5_accent wsX5_accent) := goodIn_app (goodIn_of _ (by decide +kernel)) ggL_law_X5_accent
set_option maxRecDepth 20000 in
theorem ggL_law_X4_insert : GoodIn wsL_law wsX4_insert := goodIn_r _ [283, 16, 29, 147, 148, 2, 149, 88, 89, 90, 284, 285, 286, 15, 287, 113, 288, 289, 290, 291, 174, 175, 176, 177, 41, 166, 167, 168, 169, 95, 96, 97, 28, 98, 67, 99, 100, 101, 102, 103, 104, 105, 106, 107, 108, 109, 110, 111, 112, 39, 40, 42, 43, 114, 115, 116, 117, 38, 44, 45, 46, 47, 292, 293, 294, 295, 822, 823, 824, 825, 826, 827, 828, 845, 846, 847, 848, 849, 850, 851, 863, 864, 865] (by decide +kernel) (by decide +kernel)
set_option maxRecDepth 20000 in
theorem gL_law_X4_insert : GoodIn wsL_law (wsV RL 37 RX4 yX4_insert wsX4_insert) := goodIn_app (goodIn_of _ (by decide +kernel)) ggL_law_X4_insert
set_option maxRecDepth 20000 in
theorem ggL_law_X5_insert : GoodIn wsL_law wsX5_insert := goodIn_r _ [299, 73, 197, 198, 5, 199, 129, 130, 131, 204, 205, 206, 207, 132, 133, 134, 135, 136, 75, 137, 138, 139, 220, 221, 222, 223, 829, 830, 831, 832, 833, 834, 835, 836, 837, 838, 839, 840, 841, 842, 843, 844] (by decide +kernel) (by decide +kernel)
set_option maxRecDepth 20000 in
theorem gL_law_X5_insert : GoodIn wsL_law (wsV RL 40 RX5 yX5_insert wsX5_insert) := goodIn_app (goodIn_of _ (by decide +kernel)) ggL_law_X5_insert
set_option maxRecDepth 20000 in
theorem ggL_law_X4_cut : GoodIn wsL_law wsX4_cut := goodIn_r _ [303, 16, 29, 17, 147, 148, 2, 149, 88, 89, 90, 150, 151, 152, 15, 153, 113, 95, 96, 97, 28, 98, 67, 99, 100, 101, 102, 103, 104, 105, 106, 107, 108, 109, 110, 111, 112, 39, 40, 41, 42, 43, 114, 115, 116, 117, 38, 44, 45, 46, 47, 304, 305, 306, 307, 308, 288, 289, 290, 291, 309, 310, 311, 312, 170, 171, 172, 173, 166, 167, 168, 169, 174, 175, 176, 177, 162, 163, 164, 165, 313, 250, 251, 252, 314, 266, 267, 268, 315, 179, 180, 181, 182, 183, 184, 185, 186, 187, 188, 189, 316, 822, 823, 824, 825, 826, 827, 828, 845, 846, 847, 848, 849, 850, 851, 863, 864, 865] (by decide +kernel) (by decide +kernel)
set_option maxRecDepth 20000 in
theorem gL_law_X4_cut : GoodIn wsL_law (wsV RL 41 RX4 yX4_cut wsX4_cut) := goodIn_app (goodIn_of _ (by decide +kernel)) ggL_law_X4_cut
set_option maxRecDepth 20000 in
theorem ggL_law_X5_cut : GoodIn wsL_law wsX5_cut := goodIn_r _ [320, 73, 197, 198, 5, 199, 129, 130, 131, 132, 133, 134, 135, 136, 75, 137, 138, 139, 204, 205, 206, 207, 321, 322, 323, 220, 221, 222, 223, 324, 325, 326, 241, 242, 243, 244, 216, 217, 218, 219, 327, 328, 329, 330, 81, 208, 209, 210, 211, 212, 213, 214, 215, 829, 830, 831, 832, 833, 834, 835, 836, 837, 838, 839, 840, 841, 842, 843, 844] (by decide +kernel) (by decide +kernel)
set_option maxRecDepth 20000 in
theorem gL_law_X5_cut : GoodIn wsL_law (wsV RL 44 RX5 yX5_cut wsX5_cut) := goodIn_app (goodIn_of _ (by decide +kernel)) ggL_law_X5_cut
set_option maxRecDepth 20000 in
theorem ggL_law_X4_copy : GoodIn wsL_law wsX4_copy := goodIn_r _ [334, 16, 29, 17, 335, 336, 2, 337, 147, 148, 149, 88, 89, 90, 338, 339, 340, 15, 341, 113, 342, 343, 344, 345, 166, 167, 168, 169, 170, 171, 172, 173, 40, 174, 175, 176, 177, 41, 150, 151, 152, 153, 346, 347, 348, 349, 350, 351, 352, 353, 163, 164, 165, 39, 154, 155, 156, 157, 158, 159, 160, 161, 162, 95, 96, 97, 28, 98, 67, 99, 100, 101, 102, 103, 104, 105, 106, 107, 108, 109, 110, 111, 112, 42, 43, 114, 115, 116, 117, 38, 44, 45, 46, 47, 316, 354, 355, 356, 357, 312, 313, 250, 251, 252, 314, 266, 267, 268, 315, 179, 180, 181, 182, 183, 184, 185, 186, 187, 188, 189, 822, 823, 824, 825, 826, 827, 828, 845, 846, 847, 848, 849, 850, 851, 863, 864, 865] (by decide +kernel) (by decide +kernel)
set_option maxRecDepth 20000 in
theorem gL_law_X4_copy : GoodIn wsL_law (wsV RL 45 RX4 yX4_copy wsX4_copy) := goodIn_app (goodIn_of _ (by decide +kernel)) ggL_law_X4_copy
set_option maxRecDepth 20000 in
theorem ggL_law_X5_copy : GoodIn wsL_law wsX5_copy := goodIn_r _ [361, 73, 74, 362, 363, 5, 364, 197, 198, 199, 129, 130, 131, 365, 366, 367, 368, 369, 370, 371, 372, 373, 374, 375, 376, 204, 205, 206, 207, 200, 201, 202, 203, 132, 133, 134, 135, 136, 75, 137, 138, 139, 208, 209, 210, 211, 212, 213, 214, 215, 216, 217, 218, 219, 220, 221, 222, 223, 829, 830, 831, 832, 833, 834, 835, 836, 837, 838, 839, 840, 841, 842, 843, 844] (by decide +kernel) (by decide +kernel)
set_option maxRecDepth 20000 in
theorem gL_law_X5_copy : GoodIn wsL_law (wsV RL 48 RX5 yX5_copy wsX5_copy) := goodIn_app (goodIn_of _ (by decide +kernel)) ggL_law_X5_copy
set_option maxRecDepth 20000 in
theorem ggL_law_X4_read : GoodIn wsL_law wsX4_read := goodIn_r _ [380, 25, 16, 17, 29, 381, 382, 383, 24, 384, 385, 386, 387, 388, 389, 390, 391, 392, 393, 394, 395, 396, 397, 398, 399, 400, 401, 402, 403, 57, 404, 405, 406, 407, 408, 409, 410, 411, 58, 59, 60, 61, 412, 413, 414, 415, 416, 417, 418, 419, 420, 421, 422, 423, 424, 425, 426, 427, 150, 151, 152, 15, 153, 113, 428, 429, 430, 431, 316, 110, 111, 112, 39, 40, 41, 42, 43, 114, 115, 116, 117, 38, 44, 45, 46, 47, 432, 433, 434, 2, 435, 436, 437, 438, 439, 440, 441, 154, 155, 156, 157, 158, 159, 160, 161, 162, 163, 164, 165, 166, 167, 168, 169, 170, 171, 172, 173, 174, 175, 176, 177, 442, 443, 444, 445, 178, 179, 180, 181, 182, 183, 184, 185, 186, 187, 188, 189, 89, 90, 95, 96, 97, 28, 98, 67, 99, 100, 101, 102, 103, 104, 105, 106, 107, 108, 109, 446, 447, 448, 449, 822, 823, 824, 825, 826, 827, 828, 855, 856, 857, 858, 859, 860, 861, 862, 845, 846, 847, 848, 849, 850, 851, 863, 864, 865] (by decide +kernel) (by decide +kernel)
set_option maxRecDepth 20000 in
theorem gL_law_X4_read : GoodIn wsL_law (wsV RL 49 RX4 yX4_read wsX4_read) := goodIn_app (goodIn_of _ (by decide +kernel)) ggL_law_X4_read
set_option maxRecDepth 20000 in
theorem ggL_law_X5_read : GoodIn wsL_law wsX5_read := goodIn_r _ [453, 73, 74, 454, 455, 456, 457, 5, 458, 459, 460, 461, 462, 463, 464, 465, 466, 467, 468, 469, 470, 471, 472, 473, 474, 475, 78, 129, 130, 131, 476, 477, 478, 479, 480, 481, 482, 483, 200, 201, 202, 203, 204, 205, 206, 207, 208, 209, 210, 211, 212, 213, 214, 215, 216, 217, 218, 219, 220, 221, 222, 223, 484, 485, 486, 487, 137, 138, 139, 132, 133, 134, 135, 136, 75, 829, 830, 831, 832, 833, 834, 835, 836, 837, 838, 839, 840, 841, 842, 843, 844] (by decide +kernel) (by decide +kernel)
set_option maxRecDepth 20000 in
theorem gL_law_X5_read : GoodIn wsL_law (wsV RL 53 RX5 yX5_read wsX5_read) := goodIn_app (goodIn_of _ (by decide +kernel)) ggL_law_X5_read
set_option maxRecDepth 20000 in
theorem ggL_law_X4_of : GoodIn wsL_law wsX4_of := goodIn_r _ [491, 16, 21, 228, 167, 168, 15, 169, 113, 353, 163, 164, 165, 39, 166, 351, 171, 172, 173, 40, 352, 175, 176, 177, 41, 249, 250, 251, 252, 42, 265, 266, 267, 268, 43, 273, 274, 2, 275, 492, 493, 494, 495, 170, 174, 496, 497, 498, 499, 38, 313, 500, 501, 502, 503, 288, 289, 290, 291, 504, 505, 506, 20, 507, 508, 51, 509, 92, 93, 94, 89, 90, 510, 511, 512, 513, 514, 151, 152, 153, 515, 516, 517, 518, 519, 520, 521, 522, 145, 146, 88, 148, 149, 523, 524, 525, 526, 527, 528, 52, 529, 530, 531, 532, 533, 534, 535, 536, 537, 538, 539, 540, 541, 542, 543, 544, 822, 823, 824, 825, 826, 827, 828, 845, 846, 847, 848, 849, 850, 851, 852, 853, 854] (by decide +kernel) (by decide +kernel)
set_option maxRecDepth 20000 in
theorem gL_law_X4_of : GoodIn wsL_law (wsV RL 54 RX4 yX4_of wsX4_of) := goodIn_app (goodIn_of _ (by decide +kernel)) ggL_law_X4_of
set_option maxRecDepth 20000 in
theorem ggL_law_X5_of : GoodIn wsL_law wsX5_of := goodIn_r _ [548, 237, 238, 239, 5, 240, 73, 129, 130, 131, 204, 205, 206, 207, 549, 550, 551, 552, 553, 554, 555, 556, 557, 558, 559, 560, 80, 79, 561, 562, 563, 564, 565, 566, 567, 568, 569, 570, 571, 572, 829, 830, 831, 832, 833, 834, 835, 836, 837, 838, 839, 840, 841, 842, 843, 844] (by decide +kernel) (by decide +kernel)
set_option maxRecDepth 20000 in
theorem gL_law_X5_of : GoodIn wsL_law (wsV RL 57 RX5 yX5_of wsX5_of) := goodIn_app (goodIn_of _ (by decide +kernel)) ggL_law_X5_of
set_option maxRecDepth 20000 in
theorem ggL_law_X4_at : GoodIn wsL_law wsX4_at := goodIn_r _ [576, 21, 16, 147, 148, 2, 149, 88, 89, 90, 504, 505, 506, 20, 507, 508, 51, 509, 92, 93, 15, 94, 38, 510, 511, 512, 513, 514, 151, 152, 153, 113, 515, 163, 164, 165, 39, 166, 167, 168, 169, 516, 171, 172, 173, 40, 517, 175, 176, 177, 41, 518, 497, 498, 499, 170, 174, 313, 250, 251, 252, 42, 519, 520, 521, 522, 145, 146, 523, 266, 267, 268, 43, 524, 525, 526, 527, 528, 289, 290, 291, 52, 529, 530, 531, 532, 577, 578, 542, 543, 544, 579, 580, 581, 582, 162, 583, 584, 585, 586, 587, 588, 589, 590, 591, 273, 274, 275, 822, 823, 824, 825, 826, 827, 828, 852, 853, 854, 845, 846, 847, 848, 849, 850, 851] (by decide +kernel) (by decide +kernel)
set_option maxRecDepth 20000 in
theorem gL_law_X4_at : GoodIn wsL_law (wsV RL 58 RX4 yX4_at wsX4_at) := goodIn_app (goodIn_of _ (by decide +kernel)) ggL_law_X4_at
set_option maxRecDepth 20000 in
theorem ggL_law_X5_at : GoodIn wsL_law wsX5_at := goodIn_r _ [595, 79, 80, 197, 198, 5, 199, 129, 130, 131, 557, 558, 559, 560, 73, 561, 562, 563, 564, 204, 205, 206, 207, 553, 554, 555, 556, 596, 597, 598, 599, 600, 601, 602, 603, 604, 605, 606, 829, 830, 831, 832, 833, 834, 835, 836, 837, 838, 839, 840, 841, 842, 843, 844] (by decide +kernel) (by decide +kernel)
set_option maxRecDepth 20000 in
theorem gL_law_X5_at : GoodIn wsL_law (wsV RL 61 RX5 yX5_at wsX5_at) := goodIn_app (goodIn_of _ (by decide +kernel)) ggL_law_X5_at
set_option maxRecDepth 20000 in
theorem ggL_law_X4_sound : GoodIn wsL_law wsX4_sound := goodIn_r _ [610, 21, 16, 144, 145, 2, 146, 88, 89, 90, 504, 505, 506, 20, 507, 508, 51, 509, 92, 93, 15, 94, 38, 510, 511, 512, 513, 514, 151, 152, 153, 113, 515, 163, 164, 165, 39, 166, 167, 168, 169, 516, 171, 172, 173, 40, 517, 175, 176, 177, 41, 518, 497, 498, 499, 170, 174, 313, 250, 251, 252, 42, 519, 520, 521, 522, 148, 149, 523, 266, 267, 268, 43, 524, 525, 526, 527, 528, 289, 290, 291, 52, 529, 530, 531, 532, 611, 612, 613, 614, 615, 616, 617, 618, 619, 538, 539, 540, 541, 542, 543, 544, 620, 621, 622, 623, 624, 159, 160, 161, 162, 822, 823, 824, 825, 826, 827, 828, 852, 853, 854, 845, 846, 847, 848, 849, 850, 851] (by decide +kernel) (by decide +kernel)
set_option maxRecDepth 20000 in
theorem gL_law_X4_sound : GoodIn wsL_law (wsV RL 62 RX4 yX4_sound wsX4_sound) := goodIn_app (goodIn_of _ (by decide +kernel)) ggL_law_X4_sound
set_option maxRecDepth 20000 in
theorem ggL_law_X5_sound : GoodIn wsL_law wsX5_sound := goodIn_r _ [628, 194, 195, 5, 196, 129, 130, 131, 557, 558, 559, 560, 80, 73, 79, 561, 562, 563, 564, 204, 205, 206, 207, 553, 554, 555, 556, 629, 630, 631, 632, 633, 634, 635, 636, 569, 570, 571, 572, 637, 638, 639, 640, 641, 642, 643, 644, 829, 830, 831, 832, 833, 834, 835, 836, 837, 838, 839, 840, 841, 842, 843, 844] (by decide +kernel) (by decide +kernel)
set_option maxRecDepth 20000 in
theorem gL_law_X5_sound : GoodIn wsL_law (wsV RL 65 RX5 yX5_sound wsX5_sound) := goodIn_app (goodIn_of _ (by decide +kernel)) ggL_law_X5_sound
set_option maxRecDepth 20000 in
theorem ggL_law_X4_count : GoodIn wsL_law wsX4_count := goodIn_r _ [648, 21, 16, 25, 29, 504, 505, 506, 20, 507, 508, 51, 509, 92, 93, 15, 94, 38, 89, 2, 90, 510, 511, 512, 513, 514, 151, 152, 153, 113, 515, 163, 164, 165, 39, 166, 167, 168, 169, 516, 171, 172, 173, 40, 517, 175, 176, 177, 41, 518, 497, 498, 499, 170, 174, 313, 250, 251, 252, 42, 519, 520, 521, 522, 145, 146, 88, 148, 149, 523, 266, 267, 268, 43, 524, 525, 526, 527, 528, 289, 290, 291, 52, 529, 530, 531, 532, 150, 649, 650, 651, 652, 653, 654, 655, 656, 657, 658, 659, 660, 661, 662, 663, 664, 588, 589, 590, 591, 584, 585, 586, 665, 666, 667, 668, 669, 670, 671, 672, 673, 674, 675, 676, 677, 678, 679, 615, 616, 617, 618, 619, 538, 539, 540, 541, 542, 543, 544, 680, 681, 682, 683, 533, 534, 535, 536, 351, 352, 353, 537, 284, 285, 286, 287, 288, 91, 684, 685, 686, 24, 687, 387, 688, 689, 690, 28, 691, 99, 822, 823, 824, 825, 826, 827, 828, 852, 853, 854, 845, 846, 847, 848, 849, 850, 851, 855, 856, 857, 858, 859, 860, 861, 862, 863, 864, 865] (by decide +kernel) (by decide +kernel)
set_option maxRecDepth 20000 in
theorem gL_law_X4_count : GoodIn wsL_law (wsV RL 66 RX4 yX4_count wsX4_count) := goodIn_app (goodIn_of _ (by decide +kernel)) ggL_law_X4_count
set_option maxRecDepth 20000 in
theorem ggL_law_X5_count : GoodIn wsL_law wsX5_count := goodIn_r _ [695, 73, 454, 136, 696, 697, 698, 5, 699, 79, 561, 562, 563, 564, 204, 205, 206, 207, 553, 554, 555, 556, 700, 701, 702, 703, 704, 705, 706, 603, 604, 605, 606, 600, 601, 602, 707, 708, 709, 710, 711, 712, 713, 714, 557, 558, 559, 560, 80, 633, 634, 635, 636, 569, 570, 571, 572, 715, 716, 717, 718, 565, 566, 567, 568, 719, 720, 721, 722, 829, 830, 831, 832, 833, 834, 835, 836, 837, 838, 839, 840, 841, 842, 843, 844] (by decide +kernel) (by decide +kernel)
set_option maxRecDepth 20000 in
theorem gL_law_X5_count : GoodIn wsL_law (wsV RL 69 RX5 yX5_count wsX5_count) := goodIn_app (goodIn_of _ (by decide +kernel)) ggL_law_X5_count
set_option maxRecDepth 20000 in
theorem ggL_law_X4_bestShift : GoodIn wsL_law wsX4_bestShift := goodIn_r _ [726, 16, 17, 21, 228, 167, 168, 15, 169, 113, 88, 89, 2, 90, 316, 110, 111, 112, 39, 40, 41, 42, 43, 114, 115, 116, 117, 38, 44, 45, 46, 47, 253, 254, 255, 256, 166, 504, 505, 506, 20, 507, 508, 51, 509, 92, 93, 94, 510, 511, 512, 513, 514, 151, 152, 153, 515, 163, 164, 165, 516, 171, 172, 173, 517, 175, 176, 177, 518, 497, 498, 499, 170, 174, 313, 250, 251, 252, 519, 520, 521, 522, 145, 146, 148, 149, 523, 266, 267, 268, 524, 525, 526, 527, 528, 289, 290, 291, 52, 529, 530, 531, 532, 660, 661, 662, 663, 664, 588, 589, 590, 591, 584, 585, 586, 822, 823, 824, 825, 826, 827, 828, 845, 846, 847, 848, 849, 850, 851, 852, 853, 854] (by decide +kernel) (by decide +kernel)
set_option maxRecDepth 20000 in
theorem gL_law_X4_bestShift : GoodIn wsL_law (wsV RL 70 RX4 yX4_bestShift wsX4_bestShift) := goodIn_app (goodIn_of _ (by decide +kernel)) ggL_law_X4_bestShift
set_option maxRecDepth 20000 in
theorem ggL_law_X5_bestShift : GoodIn wsL_law wsX5_bestShift := goodIn_r _ [730, 237, 238, 239, 5, 240, 73, 129, 130, 131, 204, 205, 206, 207, 220, 221, 222, 223, 703, 704, 705, 706, 561, 562, 563, 564, 79, 553, 554, 555, 556, 603, 604, 605, 606, 600, 601, 602, 829, 830, 831, 832, 833, 834, 835, 836, 837, 838, 839, 840, 841, 842, 843, 844] (by decide +kernel) (by decide +kernel)
set_option maxRecDepth 20000 in
theorem gL_law_X5_bestShift : GoodIn wsL_law (wsV RL 73 RX5 yX5_bestShift wsX5_bestShift) := goodIn_app (goodIn_of _ (by decide +kernel)) ggL_law_X5_bestShift
set_option maxRecDepth 20000 in
theorem ggL_law_X4_greatestRun : GoodIn wsL_law wsX4_greatestRun := goodIn_r _ [734, 17, 16, 87, 86, 21, 316, 110, 111, 15, 112, 113, 39, 40, 41, 42, 43, 114, 115, 116, 117, 38, 44, 45, 46, 47, 118, 119, 120, 121, 89, 2, 90, 504, 505, 506, 20, 507, 508, 51, 509, 92, 93, 94, 510, 511, 512, 513, 514, 151, 152, 153, 515, 163, 164, 165, 166, 167, 168, 169, 516, 171, 172, 173, 517, 175, 176, 177, 518, 497, 498, 499, 170, 174, 313, 250, 251, 252, 519, 520, 521, 522, 145, 146, 88, 148, 149, 523, 266, 267, 268, 524, 525, 526, 527, 528, 289, 290, 291, 52, 529, 530, 531, 532, 660, 661, 662, 663, 664, 588, 589, 590, 591, 584, 585, 586, 822, 823, 824, 825, 826, 827, 828, 845, 846, 847, 848, 849, 850, 851, 852, 853, 854] (by decide +kernel) (by decide +kernel)
set_option maxRecDepth 20000 in
theorem gL_law_X4_greatestRun : GoodIn wsL_law (wsV RL 74 RX4 yX4_greatestRun wsX4_greatestRun) := goodIn_app (goodIn_of _ (by decide +kernel)) ggL_law_X4_greatestRun
set_option maxRecDepth 20000 in
theorem ggL_law_X5_greatestRun : GoodIn wsL_law wsX5_greatestRun := goodIn_r _ [738, 73, 703, 704, 705, 5, 706, 561, 562, 563, 564, 79, 204, 205, 206, 207, 553, 554, 555, 556, 603, 604, 605, 606, 600, 601, 602, 829, 830, 831, 832, 833, 834, 835, 836, 837, 838, 839, 840, 841, 842, 843, 844] (by decide +kernel) (by decide +kernel)
set_option maxRecDepth 20000 in
theorem gL_law_X5_greatestRun : GoodIn wsL_law (wsV RL 77 RX5 yX5_greatestRun wsX5_greatestRun) := goodIn_app (goodIn_of _ (by decide +kernel)) ggL_law_X5_greatestRun
set_option maxRecDepth 20000 in
theorem ggL_law_X4_swallowed : GoodIn wsL_law wsX4_swallowed := goodIn_r _ [742, 21, 16, 144, 145, 2, 146, 88, 89, 90, 504, 505, 506, 20, 507, 508, 51, 509, 92, 93, 15, 94, 38, 510, 511, 512, 513, 514, 151, 152, 153, 113, 515, 163, 164, 165, 39, 166, 167, 168, 169, 516, 171, 172, 173, 40, 517, 175, 176, 177, 41, 518, 497, 498, 499, 170, 174, 313, 250, 251, 252, 42, 519, 520, 521, 522, 148, 149, 523, 266, 267, 268, 43, 524, 525, 526, 527, 528, 289, 290, 291, 52, 529, 530, 531, 532, 150, 353, 351, 537, 538, 539, 540, 541, 542, 543, 544, 822, 823, 824, 825, 826, 827, 828, 852, 853, 854, 845, 846, 847, 848, 849, 850, 851] (by decide +kernel) (by decide +kernel)
set_option maxRecDepth 20000 in
theorem gL_law_X4_swallowed : GoodIn wsL_law (wsV RL 78 RX4 yX4_swallowed wsX4_swallowed) := goodIn_app (goodIn_of _ (by decide +kernel)) ggL_law_X4_swallowed
set_option maxRecDepth 20000 in
theorem ggL_law_X5_swallowed : GoodIn wsL_law wsX5_swallowed := goodIn_r _ [746, 73, 194, 195, 5, 196, 129, 130, 131, 557, 558, 559, 560, 80, 79, 561, 562, 563, 564, 204, 205, 206, 207, 553, 554, 555, 556, 633, 634, 635, 636, 569, 570, 571, 572, 829, 830, 831, 832, 833, 834, 835, 836, 837, 838, 839, 840, 841, 842, 843, 844] (by decide +kernel) (by decide +kernel)
set_option maxRecDepth 20000 in
theorem gL_law_X5_swallowed : GoodIn wsL_law (wsV RL 81 RX5 yX5_swallowed wsX5_swallowed) := goodIn_app (goodIn_of _ (by decide +kernel)) ggL_law_X5_swallowed
set_option maxRecDepth 20000 in
theorem ggL_law_X4_freeGoal : GoodIn wsL_law wsX4_freeGoal := goodIn_r _ [750, 16, 335, 336, 2, 337, 147, 148, 149, 88, 89, 90, 338, 339, 340, 15, 341, 113, 342, 343, 344, 345, 166, 167, 168, 169, 170, 171, 172, 173, 40, 174, 175, 176, 177, 41, 150, 151, 152, 153, 346, 347, 348, 349, 350, 351, 352, 353, 163, 164, 165, 39, 154, 155, 156, 157, 158, 159, 160, 161, 162, 822, 823, 824, 825, 826, 827, 828, 845, 846, 847, 848, 849, 850, 851] (by decide +kernel) (by decide +kernel)
set_option maxRecDepth 20000 in
theorem gL_law_X4_freeGoal : GoodIn wsL_law (wsV RL 82 RX4 yX4_freeGoal wsX4_freeGoal) := goodIn_app (goodIn_of _ (by decide +kernel)) ggL_law_X4_freeGoal
set_option maxRecDepth 20000 in
theorem ggL_law_X5_freeGoal : GoodIn wsL_law wsX5_freeGoal := goodIn_r _ [754, 362, 363, 5, 364, 197, 198, 199, 129, 130, 131, 369, 370, 371, 372, 73, 373, 374, 375, 376, 204, 205, 206, 207, 365, 366, 367, 368, 200, 201, 202, 203, 829, 830, 831, 832, 833, 834, 835, 836, 837, 838, 839, 840, 841, 842, 843, 844] (by decide +kernel) (by decide +kernel)
set_option maxRecDepth 20000 in
theorem gL_law_X5_freeGoal : GoodIn wsL_law (wsV RL 85 RX5 yX5_freeGoal wsX5_freeGoal) := goodIn_app (goodIn_of _ (by decide +kernel)) ggL_law_X5_freeGoal
set_option maxRecDepth 20000 in
theorem ggL_law_X4_put : GoodIn wsL_law wsX4_put := goodIn_r _ [758, 25, 759, 760, 2, 761, 762, 763, 764, 88, 89, 90, 684, 685, 686, 24, 687, 387, 765, 766, 767, 768, 57, 822, 823, 824, 825, 826, 827, 828, 855, 856, 857, 858, 859, 860, 861, 862] (by decide +kernel) (by decide +kernel)
set_option maxRecDepth 20000 in
theorem gL_law_X4_put : GoodIn wsL_law (wsV RL 88 RX4 yX4_put wsX4_put) := goodIn_app (goodIn_of _ (by decide +kernel)) ggL_law_X4_put
set_option maxRecDepth 20000 in
theorem ggL_law_X5_put : GoodIn wsL_law wsX5_put := goodIn_r _ [772, 773, 454, 78, 129, 130, 5, 131, 829, 830, 831, 832, 833, 834, 835, 836, 837, 838, 839, 840, 841, 842, 843, 844] (by decide +kernel) (by decide +kernel)
set_option maxRecDepth 20000 in
theorem gL_law_X5_put : GoodIn wsL_law (wsV RL 92 RX5 yX5_put wsX5_put) := goodIn_app (goodIn_of _ (by decide +kernel)) ggL_law_X5_put
set_option maxRecDepth 20000 in
theorem ggL_law_X4_wipe : GoodIn wsL_law wsX4_wipe := goodIn_r _ [777, 25, 684, 685, 686, 24, 687, 387, 446, 447, 448, 449, 822, 823, 824, 825, 826, 827, 828, 855, 856, 857, 858, 859, 860, 861, 862] (by decide +kernel) (by decide +kernel)
set_option maxRecDepth 20000 in
theorem gL_law_X4_wipe : GoodIn wsL_law (wsV RL 93 RX4 yX4_wipe wsX4_wipe) := goodIn_app (goodIn_of _ (by decide +kernel)) ggL_law_X4_wipe
set_option maxRecDepth 20000 in
theorem ggL_law_X5_wipe : GoodIn wsL_law wsX5_wipe := goodIn_r _ [781, 454, 829, 830, 831, 832, 833, 834, 835, 836, 837, 838, 839, 840, 841, 842, 843, 844] (by decide +kernel) (by decide +kernel)
set_option maxRecDepth 20000 in
theorem gL_law_X5_wipe : GoodIn wsL_law (wsV RL 96 RX5 yX5_wipe wsX5_wipe) := goodIn_app (goodIn_of _ (by decide +kernel)) ggL_law_X5_wipe
set_option maxRecDepth 20000 in
theorem ggL_law_X4_fault : GoodIn wsL_law wsX4_fault := goodIn_r _ [785, 25, 381, 382, 383, 24, 384, 385, 386, 387, 388, 389, 390, 391, 392, 393, 394, 395, 396, 397, 398, 399, 400, 401, 402, 403, 57, 404, 405, 406, 407, 408, 409, 410, 411, 58, 59, 60, 61, 786, 787, 788, 789, 822, 823, 824, 825, 826, 827, 828, 855, 856, 857, 858, 859, 860, 861, 862] (by decide +kernel) (by decide +kernel)
set_option maxRecDepth 20000 in
theorem gL_law_X4_fault : GoodIn wsL_law (wsV RL 97 RX4 yX4_fault wsX4_fault) := goodIn_app (goodIn_of _ (by decide +kernel)) ggL_law_X4_fault
set_option maxRecDepth 20000 in
theorem ggL_law_X5_fault : GoodIn wsL_law wsX5_fault := goodIn_r _ [793, 455, 456, 457, 5, 458, 459, 454, 460, 461, 462, 463, 464, 465, 466, 467, 468, 469, 470, 471, 472, 473, 474, 475, 78, 129, 130, 131, 476, 477, 478, 479, 829, 830, 831, 832, 833, 834, 835, 836, 837, 838, 839, 840, 841, 842, 843, 844] (by decide +kernel) (by decide +kernel)
set_option maxRecDepth 20000 in
theorem gL_law_X5_fault : GoodIn wsL_law (wsV RL 100 RX5 yX5_fault wsX5_fault) := goodIn_app (goodIn_of _ (by decide +kernel)) ggL_law_X5_fault
set_option maxRecDepth 20000 in
theorem ggL_law_X4_undo : GoodIn wsL_law wsX4_undo := goodIn_r _ [797, 29, 16, 688, 689, 690, 28, 691, 99, 798, 799, 800, 801, 67, 101, 102, 103, 104, 100, 105, 106, 107, 108, 109, 110, 111, 15, 112, 113, 39, 40, 41, 42, 43, 114, 115, 116, 117, 38, 44, 45, 46, 47, 822, 823, 824, 825, 826, 827, 828, 863, 864, 865, 845, 846, 847, 848, 849, 850, 851] (by decide +kernel) (by decide +kernel)
set_option maxRecDepth 20000 in
theorem gL_law_X4_undo : GoodIn wsL_law (wsV RL 101 RX4 yX4_undo wsX4_undo) := goodIn_app (goodIn_of _ (by decide +kernel)) ggL_law_X4_undo
set_option maxRecDepth 20000 in
theorem ggL_law_X5_undo : GoodIn wsL_law wsX5_undo := goodIn_r _ [805, 136, 75, 73, 137, 138, 5, 139, 829, 830, 831, 832, 833, 834, 835, 836, 837, 838, 839, 840, 841, 842, 843, 844] (by decide +kernel) (by decide +kernel)
set_option maxRecDepth 20000 in
theorem gL_law_X5_undo : GoodIn wsL_law (wsV RL 104 RX5 yX5_undo wsX5_undo) := goodIn_app (goodIn_of _ (by decide +kernel)) ggL_law_X5_undo
set_option maxRecDepth 20000 in
theorem ggL_law_X4_save : GoodIn wsL_law wsX4_save := goodIn_r _ [809, 30, 16, 32, 88, 89, 2, 90, 316, 110, 111, 15, 112, 113, 39, 40, 41, 42, 43, 114, 115, 116, 117, 38, 44, 45, 46, 47, 150, 151, 152, 153, 822, 823, 824, 825, 826, 827, 828, 845, 846, 847, 848, 849, 850, 851] (by decide +kernel) (by decide +kernel)
set_option maxRecDepth 20000 in
theorem gL_law_X4_save : GoodIn wsL_law (wsV RL 105 RX4 yX4_save wsX4_save) := goodIn_app (goodIn_of _ (by decide +kernel)) ggL_law_X4_save
set_option maxRecDepth 20000 in
theorem ggL_law_X5_save : GoodIn wsL_law wsX5_save := goodIn_r _ [813, 73, 76, 77, 129, 130, 5, 131, 137, 138, 139, 829, 830, 831, 832, 833, 834, 835, 836, 837, 838, 839, 840, 841, 842, 843, 844] (by decide +kernel) (by decide +kernel)
set_option maxRecDepth 20000 in
theorem gL_law_X5_save : GoodIn wsL_law (wsV RL 108 RX5 yX5_save wsX5_save) := goodIn_app (goodIn_of _ (by decide +kernel)) ggL_law_X5_save
set_option maxRecDepth 20000 in
theorem ggL_law_X4_restore : GoodIn wsL_law wsX4_restore := goodIn_r _ [817, 32, 29, 16, 30, 88, 89, 2, 90, 95, 96, 97, 28, 98, 67, 99, 100, 101, 102, 103, 104, 105, 106, 107, 108, 109, 110, 111, 15, 112, 113, 39, 40, 41, 42, 43, 114, 115, 116, 117, 38, 44, 45, 46, 47, 316, 150, 151, 152, 153, 822, 823, 824, 825, 826, 827, 828, 863, 864, 865, 845, 846, 847, 848, 849, 850, 851] (by decide +kernel) (by decide +kernel)
set_option maxRecDepth 20000 in
theorem gL_law_X4_restore : GoodIn wsL_law (wsV RL 109 RX4 yX4_restore wsX4_restore) := goodIn_app (goodIn_of _ (by decide +kernel)) ggL_law_X4_restore
set_option maxRecDepth 20000 in
theorem ggL_law_X5_restore : GoodIn wsL_law wsX5_restore := goodIn_r _ [821, 77, 76, 73, 129, 130, 5, 131, 132, 133, 134, 135, 136, 75, 137, 138, 139, 829, 830, 831, 832, 833, 834, 835, 836, 837, 838, 839, 840, 841, 842, 843, 844] (by decide +kernel) (by decide +kernel)
set_option maxRecDepth 20000 in
theorem gL_law_X5_restore : GoodIn wsL_law (wsV RL 112 RX5 yX5_restore wsX5_restore) := goodIn_app (goodIn_of _ (by decide +kernel)) ggL_law_X5_restore
theorem dL_law_0 : decode cL_law 0 = .ok (.new 7, 3) := by decide +kernel
theorem dL_law_3 : decode cL_law 3 = .ok (.dup, 1) := by decide +kernel
theorem dL_law_4 : decode cL_law 4 = .ok (.invokespecial 9, 3) := by decide +kernel
theorem dL_law_7 : decode cL_law 7 = .ok (.astore_n 1, 1) := by decide +kernel
theorem dL_law_8 : decode cL_law 8 = .ok (.new 10, 3) := by decide +kernel
theorem dL_law_11 : decode cL_law 11 = .ok (.dup, 1) := by decide +kernel
theorem dL_law_12 : decode cL_law 12 = .ok (.invokespecial 12, 3) := by decide +kernel
theorem dL_law_15 : decode cL_law 15 = .ok (.astore_n 2, 1) := by decide +kernel
theorem dL_law_16 : decode cL_law 16 = .ok (.iconst 0, 1) := by decide +kernel
theorem dL_law_17 : decode cL_law 17 = .ok (.istore_n 3, 1) := by decide +kernel
theorem dL_law_18 : decode cL_law 18 = .ok (.iload_n 3, 1) := by decide +kernel
theorem dL_law_19 : decode cL_law 19 = .ok (.aload_n 0, 1) := by decide +kernel
theorem dL_law_20 : decode cL_law 20 = .ok (.arraylength, 1) := by decide +kernel
theorem dL_law_21 : decode cL_law 21 = .ok (.iconst 4, 1) := by decide +kernel
theorem dL_law_22 : decode cL_law 22 = .ok (.isub, 1) := by decide +kernel
theorem dL_law_23 : decode cL_law 23 = .ok (.if_icmp .gt 798, 3) := by decide +kernel
theorem dL_law_26 : decode cL_law 26 = .ok (.aload_n 0, 1) := by decide +kernel
theorem dL_law_27 : decode cL_law 27 = .ok (.iload_n 3, 1) := by decide +kernel
theorem dL_law_28 : decode cL_law 28 = .ok (.iaload, 1) := by decide +kernel
theorem dL_law_29 : decode cL_law 29 = .ok (.bipush 31, 2) := by decide +kernel
theorem dL_law_31 : decode cL_law 31 = .ok (.iand, 1) := by decide +kernel
theorem dL_law_32 : decode cL_law 32 = .ok (.tableswitch 783 0 22 #[108, 141, 184, 207, 240, 289, 322, 355, 398, 411, 444, 477, 520, 543, 576, 589, 612, 645, 698, 711, 724, 737, 760], 108) := by decide +kernel
theorem dL_law_140 : decode cL_law 140 = .ok (.aload_n 1, 1) := by decide +kernel
theorem dL_law_141 : decode cL_law 141 = .ok (.aload_n 0, 1) := by decide +kernel
theorem dL_law_142 : decode cL_law 142 = .ok (.iload_n 3, 1) := by decide +kernel
theorem dL_law_143 : decode cL_law 143 = .ok (.iconst 1, 1) := by decide +kernel
theorem dL_law_144 : decode cL_law 144 = .ok (.iadd, 1) := by decide +kernel
theorem dL_law_145 : decode cL_law 145 = .ok (.iaload, 1) := by decide +kernel
theorem dL_law_146 : decode cL_law 146 = .ok (.aload_n 0, 1) := by decide +kernel
theorem dL_law_147 : decode cL_law 147 = .ok (.iload_n 3, 1) := by decide +kernel
theorem dL_law_148 : decode cL_law 148 = .ok (.iconst 2, 1) := by decide +kernel
theorem dL_law_149 : decode cL_law 149 = .ok (.iadd, 1) := by decide +kernel
theorem dL_law_150 : decode cL_law 150 = .ok (.iaload, 1) := by decide +kernel
theorem dL_law_151 : decode cL_law 151 = .ok (.invokevirtual 13, 3) := by decide +kernel
theorem dL_law_154 : decode cL_law 154 = .ok (.aload_n 2, 1) := by decide +kernel
theorem dL_law_155 : decode cL_law 155 = .ok (.aload_n 0, 1) := by decide +kernel
theorem dL_law_156 : decode cL_law 156 = .ok (.iload_n 3, 1) := by decide +kernel
theorem dL_law_157 : decode cL_law 157 = .ok (.iconst 1, 1) := by decide +kernel
theorem dL_law_158 : decode cL_law 158 = .ok (.iadd, 1) := by decide +kernel
theorem dL_law_159 : decode cL_law 159 = .ok (.iaload, 1) := by decide +kernel
theorem dL_law_160 : decode cL_law 160 = .ok (.aload_n 0, 1) := by decide +kernel
theorem dL_law_161 : decode cL_law 161 = .ok (.iload_n 3, 1) := by decide +kernel
theorem dL_law_162 : decode cL_law 162 = .ok (.iconst 2, 1) := by decide +kernel
theorem dL_law_163 : decode cL_law 163 = .ok (.iadd, 1) := by decide +kernel
theorem dL_law_164 : decode cL_law 164 = .ok (.iaload, 1) := by decide +kernel
theorem dL_law_165 : decode cL_law 165 = .ok (.invokevirtual 17, 3) := by decide +kernel
theorem dL_law_168 : decode cL_law 168 = .ok (.if_icmp .eq 647, 3) := by decide +kernel
theorem dL_law_171 : decode cL_law 171 = .ok (.iconst 0, 1) := by decide +kernel
theorem dL_law_172 : decode cL_law 172 = .ok (.ireturn, 1) := by decide +kernel
theorem dL_law_173 : decode cL_law 173 = .ok (.aload_n 1, 1) := by decide +kernel
theorem dL_law_174 : decode cL_law 174 = .ok (.aload_n 0, 1) := by decide +kernel
theorem dL_law_175 : decode cL_law 175 = .ok (.iload_n 3, 1) := by decide +kernel
theorem dL_law_176 : decode cL_law 176 = .ok (.iconst 1, 1) := by decide +kernel
theorem dL_law_177 : decode cL_law 177 = .ok (.iadd, 1) := by decide +kernel
theorem dL_law_178 : decode cL_law 178 = .ok (.iaload, 1) := by decide +kernel
theorem dL_law_179 : decode cL_law 179 = .ok (.aload_n 0, 1) := by decide +kernel
theorem dL_law_180 : decode cL_law 180 = .ok (.iload_n 3, 1) := by decide +kernel
theorem dL_law_181 : decode cL_law 181 = .ok (.iconst 2, 1) := by decide +kernel
theorem dL_law_182 : decode cL_law 182 = .ok (.iadd, 1) := by decide +kernel
theorem dL_law_183 : decode cL_law 183 = .ok (.iaload, 1) := by decide +kernel
theorem dL_law_184 : decode cL_law 184 = .ok (.aload_n 0, 1) := by decide +kernel
theorem dL_law_185 : decode cL_law 185 = .ok (.iload_n 3, 1) := by decide +kernel
theorem dL_law_186 : decode cL_law 186 = .ok (.iconst 3, 1) := by decide +kernel
theorem dL_law_187 : decode cL_law 187 = .ok (.iadd, 1) := by decide +kernel
theorem dL_law_188 : decode cL_law 188 = .ok (.iaload, 1) := by decide +kernel
theorem dL_law_189 : decode cL_law 189 = .ok (.invokevirtual 18, 3) := by decide +kernel
theorem dL_law_192 : decode cL_law 192 = .ok (.aload_n 2, 1) := by decide +kernel
theorem dL_law_193 : decode cL_law 193 = .ok (.aload_n 0, 1) := by decide +kernel
theorem dL_law_194 : decode cL_law 194 = .ok (.iload_n 3, 1) := by decide +kernel
theorem dL_law_195 : decode cL_law 195 = .ok (.iconst 1, 1) := by decide +kernel
theorem dL_law_196 : decode cL_law 196 = .ok (.iadd, 1) := by decide +kernel
theorem dL_law_197 : decode cL_law 197 = .ok (.iaload, 1) := by decide +kernel
theorem dL_law_198 : decode cL_law 198 = .ok (.aload_n 0, 1) := by decide +kernel
theorem dL_law_199 : decode cL_law 199 = .ok (.iload_n 3, 1) := by decide +kernel
theorem dL_law_200 : decode cL_law 200 = .ok (.iconst 2, 1) := by decide +kernel
theorem dL_law_201 : decode cL_law 201 = .ok (.iadd, 1) := by decide +kernel
theorem dL_law_202 : decode cL_law 202 = .ok (.iaload, 1) := by decide +kernel
theorem dL_law_203 : decode cL_law 203 = .ok (.aload_n 0, 1) := by decide +kernel
theorem dL_law_204 : decode cL_law 204 = .ok (.iload_n 3, 1) := by decide +kernel
theorem dL_law_205 : decode cL_law 205 = .ok (.iconst 3, 1) := by decide +kernel
theorem dL_law_206 : decode cL_law 206 = .ok (.iadd, 1) := by decide +kernel
theorem dL_law_207 : decode cL_law 207 = .ok (.iaload, 1) := by decide +kernel
theorem dL_law_208 : decode cL_law 208 = .ok (.invokevirtual 22, 3) := by decide +kernel
theorem dL_law_211 : decode cL_law 211 = .ok (.if_icmp .eq 604, 3) := by decide +kernel
theorem dL_law_214 : decode cL_law 214 = .ok (.iconst 0, 1) := by decide +kernel
theorem dL_law_215 : decode cL_law 215 = .ok (.ireturn, 1) := by decide +kernel
theorem dL_law_216 : decode cL_law 216 = .ok (.aload_n 1, 1) := by decide +kernel
theorem dL_law_217 : decode cL_law 217 = .ok (.aload_n 0, 1) := by decide +kernel
theorem dL_law_218 : decode cL_law 218 = .ok (.iload_n 3, 1) := by decide +kernel
theorem dL_law_219 : decode cL_law 219 = .ok (.iconst 1, 1) := by decide +kernel
theorem dL_law_220 : decode cL_law 220 = .ok (.iadd, 1) := by decide +kernel
theorem dL_law_221 : decode cL_law 221 = .ok (.iaload, 1) := by decide +kernel
theorem dL_law_222 : decode cL_law 222 = .ok (.invokevirtual 23, 3) := by decide +kernel
theorem dL_law_225 : decode cL_law 225 = .ok (.aload_n 2, 1) := by decide +kernel
theorem dL_law_226 : decode cL_law 226 = .ok (.aload_n 0, 1) := by decide +kernel
theorem dL_law_227 : decode cL_law 227 = .ok (.iload_n 3, 1) := by decide +kernel
theorem dL_law_228 : decode cL_law 228 = .ok (.iconst 1, 1) := by decide +kernel
theorem dL_law_229 : decode cL_law 229 = .ok (.iadd, 1) := by decide +kernel
theorem dL_law_230 : decode cL_law 230 = .ok (.iaload, 1) := by decide +kernel
theorem dL_law_231 : decode cL_law 231 = .ok (.invokevirtual 27, 3) := by decide +kernel
theorem dL_law_234 : decode cL_law 234 = .ok (.if_icmp .eq 581, 3) := by decide +kernel
theorem dL_law_237 : decode cL_law 237 = .ok (.iconst 0, 1) := by decide +kernel
theorem dL_law_238 : decode cL_law 238 = .ok (.ireturn, 1) := by decide +kernel
theorem dL_law_239 : decode cL_law 239 = .ok (.aload_n 1, 1) := by decide +kernel
theorem dL_law_240 : decode cL_law 240 = .ok (.aload_n 0, 1) := by decide +kernel
theorem dL_law_241 : decode cL_law 241 = .ok (.iload_n 3, 1) := by decide +kernel
theorem dL_law_242 : decode cL_law 242 = .ok (.iconst 1, 1) := by decide +kernel
theorem dL_law_243 : decode cL_law 243 = .ok (.iadd, 1) := by decide +kernel
theorem dL_law_244 : decode cL_law 244 = .ok (.iaload, 1) := by decide +kernel
theorem dL_law_245 : decode cL_law 245 = .ok (.aload_n 0, 1) := by decide +kernel
theorem dL_law_246 : decode cL_law 246 = .ok (.iload_n 3, 1) := by decide +kernel
theorem dL_law_247 : decode cL_law 247 = .ok (.iconst 2, 1) := by decide +kernel
theorem dL_law_248 : decode cL_law 248 = .ok (.iadd, 1) := by decide +kernel
theorem dL_law_249 : decode cL_law 249 = .ok (.iaload, 1) := by decide +kernel
theorem dL_law_250 : decode cL_law 250 = .ok (.invokevirtual 28, 3) := by decide +kernel
theorem dL_law_253 : decode cL_law 253 = .ok (.aload_n 2, 1) := by decide +kernel
theorem dL_law_254 : decode cL_law 254 = .ok (.aload_n 0, 1) := by decide +kernel
theorem dL_law_255 : decode cL_law 255 = .ok (.iload_n 3, 1) := by decide +kernel
theorem dL_law_256 : decode cL_law 256 = .ok (.iconst 1, 1) := by decide +kernel
theorem dL_law_257 : decode cL_law 257 = .ok (.iadd, 1) := by decide +kernel
theorem dL_law_258 : decode cL_law 258 = .ok (.iaload, 1) := by decide +kernel
theorem dL_law_259 : decode cL_law 259 = .ok (.aload_n 0, 1) := by decide +kernel
theorem dL_law_260 : decode cL_law 260 = .ok (.iload_n 3, 1) := by decide +kernel
theorem dL_law_261 : decode cL_law 261 = .ok (.iconst 2, 1) := by decide +kernel
theorem dL_law_262 : decode cL_law 262 = .ok (.iadd, 1) := by decide +kernel
theorem dL_law_263 : decode cL_law 263 = .ok (.iaload, 1) := by decide +kernel
theorem dL_law_264 : decode cL_law 264 = .ok (.invokevirtual 31, 3) := by decide +kernel
theorem dL_law_267 : decode cL_law 267 = .ok (.if_icmp .eq 548, 3) := by decide +kernel
theorem dL_law_270 : decode cL_law 270 = .ok (.iconst 0, 1) := by decide +kernel
theorem dL_law_271 : decode cL_law 271 = .ok (.ireturn, 1) := by decide +kernel
theorem dL_law_272 : decode cL_law 272 = .ok (.aload_n 1, 1) := by decide +kernel
theorem dL_law_273 : decode cL_law 273 = .ok (.aload_n 0, 1) := by decide +kernel
theorem dL_law_274 : decode cL_law 274 = .ok (.iload_n 3, 1) := by decide +kernel
theorem dL_law_275 : decode cL_law 275 = .ok (.iconst 1, 1) := by decide +kernel
theorem dL_law_276 : decode cL_law 276 = .ok (.iadd, 1) := by decide +kernel
theorem dL_law_277 : decode cL_law 277 = .ok (.iaload, 1) := by decide +kernel
theorem dL_law_278 : decode cL_law 278 = .ok (.aload_n 0, 1) := by decide +kernel
theorem dL_law_279 : decode cL_law 279 = .ok (.iload_n 3, 1) := by decide +kernel
theorem dL_law_280 : decode cL_law 280 = .ok (.iconst 2, 1) := by decide +kernel
theorem dL_law_281 : decode cL_law 281 = .ok (.iadd, 1) := by decide +kernel
theorem dL_law_282 : decode cL_law 282 = .ok (.iaload, 1) := by decide +kernel
theorem dL_law_283 : decode cL_law 283 = .ok (.ifCond .eq 7, 3) := by decide +kernel
theorem dL_law_286 : decode cL_law 286 = .ok (.iconst 1, 1) := by decide +kernel
theorem dL_law_287 : decode cL_law 287 = .ok (.goto 4, 3) := by decide +kernel
theorem dL_law_290 : decode cL_law 290 = .ok (.iconst 0, 1) := by decide +kernel
theorem dL_law_291 : decode cL_law 291 = .ok (.invokevirtual 32, 3) := by decide +kernel
theorem dL_law_294 : decode cL_law 294 = .ok (.aload_n 2, 1) := by decide +kernel
theorem dL_law_295 : decode cL_law 295 = .ok (.aload_n 0, 1) := by decide +kernel
theorem dL_law_296 : decode cL_law 296 = .ok (.iload_n 3, 1) := by decide +kernel
theorem dL_law_297 : decode cL_law 297 = .ok (.iconst 1, 1) := by decide +kernel
theorem dL_law_298 : decode cL_law 298 = .ok (.iadd, 1) := by decide +kernel
theorem dL_law_299 : decode cL_law 299 = .ok (.iaload, 1) := by decide +kernel
theorem dL_law_300 : decode cL_law 300 = .ok (.aload_n 0, 1) := by decide +kernel
theorem dL_law_301 : decode cL_law 301 = .ok (.iload_n 3, 1) := by decide +kernel
theorem dL_law_302 : decode cL_law 302 = .ok (.iconst 2, 1) := by decide +kernel
theorem dL_law_303 : decode cL_law 303 = .ok (.iadd, 1) := by decide +kernel
theorem dL_law_304 : decode cL_law 304 = .ok (.iaload, 1) := by decide +kernel
theorem dL_law_305 : decode cL_law 305 = .ok (.ifCond .eq 7, 3) := by decide +kernel
theorem dL_law_308 : decode cL_law 308 = .ok (.iconst 1, 1) := by decide +kernel
theorem dL_law_309 : decode cL_law 309 = .ok (.goto 4, 3) := by decide +kernel
theorem dL_law_312 : decode cL_law 312 = .ok (.iconst 0, 1) := by decide +kernel
theorem dL_law_313 : decode cL_law 313 = .ok (.invokevirtual 36, 3) := by decide +kernel
theorem dL_law_316 : decode cL_law 316 = .ok (.if_icmp .eq 499, 3) := by decide +kernel
theorem dL_law_319 : decode cL_law 319 = .ok (.iconst 0, 1) := by decide +kernel
theorem dL_law_320 : decode cL_law 320 = .ok (.ireturn, 1) := by decide +kernel
theorem dL_law_321 : decode cL_law 321 = .ok (.aload_n 1, 1) := by decide +kernel
theorem dL_law_322 : decode cL_law 322 = .ok (.aload_n 0, 1) := by decide +kernel
theorem dL_law_323 : decode cL_law 323 = .ok (.iload_n 3, 1) := by decide +kernel
theorem dL_law_324 : decode cL_law 324 = .ok (.iconst 1, 1) := by decide +kernel
theorem dL_law_325 : decode cL_law 325 = .ok (.iadd, 1) := by decide +kernel
theorem dL_law_326 : decode cL_law 326 = .ok (.iaload, 1) := by decide +kernel
theorem dL_law_327 : decode cL_law 327 = .ok (.aload_n 0, 1) := by decide +kernel
theorem dL_law_328 : decode cL_law 328 = .ok (.iload_n 3, 1) := by decide +kernel
theorem dL_law_329 : decode cL_law 329 = .ok (.iconst 2, 1) := by decide +kernel
theorem dL_law_330 : decode cL_law 330 = .ok (.iadd, 1) := by decide +kernel
theorem dL_law_331 : decode cL_law 331 = .ok (.iaload, 1) := by decide +kernel
theorem dL_law_332 : decode cL_law 332 = .ok (.invokevirtual 37, 3) := by decide +kernel
theorem dL_law_335 : decode cL_law 335 = .ok (.aload_n 2, 1) := by decide +kernel
theorem dL_law_336 : decode cL_law 336 = .ok (.aload_n 0, 1) := by decide +kernel
theorem dL_law_337 : decode cL_law 337 = .ok (.iload_n 3, 1) := by decide +kernel
theorem dL_law_338 : decode cL_law 338 = .ok (.iconst 1, 1) := by decide +kernel
theorem dL_law_339 : decode cL_law 339 = .ok (.iadd, 1) := by decide +kernel
theorem dL_law_340 : decode cL_law 340 = .ok (.iaload, 1) := by decide +kernel
theorem dL_law_341 : decode cL_law 341 = .ok (.aload_n 0, 1) := by decide +kernel
theorem dL_law_342 : decode cL_law 342 = .ok (.iload_n 3, 1) := by decide +kernel
theorem dL_law_343 : decode cL_law 343 = .ok (.iconst 2, 1) := by decide +kernel
theorem dL_law_344 : decode cL_law 344 = .ok (.iadd, 1) := by decide +kernel
theorem dL_law_345 : decode cL_law 345 = .ok (.iaload, 1) := by decide +kernel
theorem dL_law_346 : decode cL_law 346 = .ok (.invokevirtual 40, 3) := by decide +kernel
theorem dL_law_349 : decode cL_law 349 = .ok (.if_icmp .eq 466, 3) := by decide +kernel
theorem dL_law_352 : decode cL_law 352 = .ok (.iconst 0, 1) := by decide +kernel
theorem dL_law_353 : decode cL_law 353 = .ok (.ireturn, 1) := by decide +kernel
theorem dL_law_354 : decode cL_law 354 = .ok (.aload_n 1, 1) := by decide +kernel
theorem dL_law_355 : decode cL_law 355 = .ok (.aload_n 0, 1) := by decide +kernel
theorem dL_law_356 : decode cL_law 356 = .ok (.iload_n 3, 1) := by decide +kernel
theorem dL_law_357 : decode cL_law 357 = .ok (.iconst 1, 1) := by decide +kernel
theorem dL_law_358 : decode cL_law 358 = .ok (.iadd, 1) := by decide +kernel
theorem dL_law_359 : decode cL_law 359 = .ok (.iaload, 1) := by decide +kernel
theorem dL_law_360 : decode cL_law 360 = .ok (.aload_n 0, 1) := by decide +kernel
theorem dL_law_361 : decode cL_law 361 = .ok (.iload_n 3, 1) := by decide +kernel
theorem dL_law_362 : decode cL_law 362 = .ok (.iconst 2, 1) := by decide +kernel
theorem dL_law_363 : decode cL_law 363 = .ok (.iadd, 1) := by decide +kernel
theorem dL_law_364 : decode cL_law 364 = .ok (.iaload, 1) := by decide +kernel
theorem dL_law_365 : decode cL_law 365 = .ok (.invokevirtual 41, 3) := by decide +kernel
theorem dL_law_368 : decode cL_law 368 = .ok (.aload_n 2, 1) := by decide +kernel
theorem dL_law_369 : decode cL_law 369 = .ok (.aload_n 0, 1) := by decide +kernel
theorem dL_law_370 : decode cL_law 370 = .ok (.iload_n 3, 1) := by decide +kernel
theorem dL_law_371 : decode cL_law 371 = .ok (.iconst 1, 1) := by decide +kernel
theorem dL_law_372 : decode cL_law 372 = .ok (.iadd, 1) := by decide +kernel
theorem dL_law_373 : decode cL_law 373 = .ok (.iaload, 1) := by decide +kernel
theorem dL_law_374 : decode cL_law 374 = .ok (.aload_n 0, 1) := by decide +kernel
theorem dL_law_375 : decode cL_law 375 = .ok (.iload_n 3, 1) := by decide +kernel
theorem dL_law_376 : decode cL_law 376 = .ok (.iconst 2, 1) := by decide +kernel
theorem dL_law_377 : decode cL_law 377 = .ok (.iadd, 1) := by decide +kernel
theorem dL_law_378 : decode cL_law 378 = .ok (.iaload, 1) := by decide +kernel
theorem dL_law_379 : decode cL_law 379 = .ok (.invokevirtual 44, 3) := by decide +kernel
theorem dL_law_382 : decode cL_law 382 = .ok (.if_icmp .eq 433, 3) := by decide +kernel
theorem dL_law_385 : decode cL_law 385 = .ok (.iconst 0, 1) := by decide +kernel
theorem dL_law_386 : decode cL_law 386 = .ok (.ireturn, 1) := by decide +kernel
theorem dL_law_387 : decode cL_law 387 = .ok (.aload_n 1, 1) := by decide +kernel
theorem dL_law_388 : decode cL_law 388 = .ok (.aload_n 0, 1) := by decide +kernel
theorem dL_law_389 : decode cL_law 389 = .ok (.iload_n 3, 1) := by decide +kernel
theorem dL_law_390 : decode cL_law 390 = .ok (.iconst 1, 1) := by decide +kernel
theorem dL_law_391 : decode cL_law 391 = .ok (.iadd, 1) := by decide +kernel
theorem dL_law_392 : decode cL_law 392 = .ok (.iaload, 1) := by decide +kernel
theorem dL_law_393 : decode cL_law 393 = .ok (.aload_n 0, 1) := by decide +kernel
theorem dL_law_394 : decode cL_law 394 = .ok (.iload_n 3, 1) := by decide +kernel
theorem dL_law_395 : decode cL_law 395 = .ok (.iconst 2, 1) := by decide +kernel
theorem dL_law_396 : decode cL_law 396 = .ok (.iadd, 1) := by decide +kernel
theorem dL_law_397 : decode cL_law 397 = .ok (.iaload, 1) := by decide +kernel
theorem dL_law_398 : decode cL_law 398 = .ok (.aload_n 0, 1) := by decide +kernel
theorem dL_law_399 : decode cL_law 399 = .ok (.iload_n 3, 1) := by decide +kernel
theorem dL_law_400 : decode cL_law 400 = .ok (.iconst 3, 1) := by decide +kernel
theorem dL_law_401 : decode cL_law 401 = .ok (.iadd, 1) := by decide +kernel
theorem dL_law_402 : decode cL_law 402 = .ok (.iaload, 1) := by decide +kernel
theorem dL_law_403 : decode cL_law 403 = .ok (.invokevirtual 45, 3) := by decide +kernel
theorem dL_law_406 : decode cL_law 406 = .ok (.aload_n 2, 1) := by decide +kernel
theorem dL_law_407 : decode cL_law 407 = .ok (.aload_n 0, 1) := by decide +kernel
theorem dL_law_408 : decode cL_law 408 = .ok (.iload_n 3, 1) := by decide +kernel
theorem dL_law_409 : decode cL_law 409 = .ok (.iconst 1, 1) := by decide +kernel
theorem dL_law_410 : decode cL_law 410 = .ok (.iadd, 1) := by decide +kernel
theorem dL_law_411 : decode cL_law 411 = .ok (.iaload, 1) := by decide +kernel
theorem dL_law_412 : decode cL_law 412 = .ok (.aload_n 0, 1) := by decide +kernel
theorem dL_law_413 : decode cL_law 413 = .ok (.iload_n 3, 1) := by decide +kernel
theorem dL_law_414 : decode cL_law 414 = .ok (.iconst 2, 1) := by decide +kernel
theorem dL_law_415 : decode cL_law 415 = .ok (.iadd, 1) := by decide +kernel
theorem dL_law_416 : decode cL_law 416 = .ok (.iaload, 1) := by decide +kernel
theorem dL_law_417 : decode cL_law 417 = .ok (.aload_n 0, 1) := by decide +kernel
theorem dL_law_418 : decode cL_law 418 = .ok (.iload_n 3, 1) := by decide +kernel
theorem dL_law_419 : decode cL_law 419 = .ok (.iconst 3, 1) := by decide +kernel
theorem dL_law_420 : decode cL_law 420 = .ok (.iadd, 1) := by decide +kernel
theorem dL_law_421 : decode cL_law 421 = .ok (.iaload, 1) := by decide +kernel
theorem dL_law_422 : decode cL_law 422 = .ok (.invokevirtual 48, 3) := by decide +kernel
theorem dL_law_425 : decode cL_law 425 = .ok (.if_icmp .eq 390, 3) := by decide +kernel
theorem dL_law_428 : decode cL_law 428 = .ok (.iconst 0, 1) := by decide +kernel
theorem dL_law_429 : decode cL_law 429 = .ok (.ireturn, 1) := by decide +kernel
theorem dL_law_430 : decode cL_law 430 = .ok (.aload_n 1, 1) := by decide +kernel
theorem dL_law_431 : decode cL_law 431 = .ok (.invokevirtual 49, 3) := by decide +kernel
theorem dL_law_434 : decode cL_law 434 = .ok (.aload_n 2, 1) := by decide +kernel
theorem dL_law_435 : decode cL_law 435 = .ok (.invokevirtual 53, 3) := by decide +kernel
theorem dL_law_438 : decode cL_law 438 = .ok (.if_icmp .eq 377, 3) := by decide +kernel
theorem dL_law_441 : decode cL_law 441 = .ok (.iconst 0, 1) := by decide +kernel
theorem dL_law_442 : decode cL_law 442 = .ok (.ireturn, 1) := by decide +kernel
theorem dL_law_443 : decode cL_law 443 = .ok (.aload_n 1, 1) := by decide +kernel
theorem dL_law_444 : decode cL_law 444 = .ok (.aload_n 0, 1) := by decide +kernel
theorem dL_law_445 : decode cL_law 445 = .ok (.iload_n 3, 1) := by decide +kernel
theorem dL_law_446 : decode cL_law 446 = .ok (.iconst 1, 1) := by decide +kernel
theorem dL_law_447 : decode cL_law 447 = .ok (.iadd, 1) := by decide +kernel
theorem dL_law_448 : decode cL_law 448 = .ok (.iaload, 1) := by decide +kernel
theorem dL_law_449 : decode cL_law 449 = .ok (.aload_n 0, 1) := by decide +kernel
theorem dL_law_450 : decode cL_law 450 = .ok (.iload_n 3, 1) := by decide +kernel
theorem dL_law_451 : decode cL_law 451 = .ok (.iconst 2, 1) := by decide +kernel
theorem dL_law_452 : decode cL_law 452 = .ok (.iadd, 1) := by decide +kernel
theorem dL_law_453 : decode cL_law 453 = .ok (.iaload, 1) := by decide +kernel
theorem dL_law_454 : decode cL_law 454 = .ok (.invokevirtual 54, 3) := by decide +kernel
theorem dL_law_457 : decode cL_law 457 = .ok (.aload_n 2, 1) := by decide +kernel
theorem dL_law_458 : decode cL_law 458 = .ok (.aload_n 0, 1) := by decide +kernel
theorem dL_law_459 : decode cL_law 459 = .ok (.iload_n 3, 1) := by decide +kernel
theorem dL_law_460 : decode cL_law 460 = .ok (.iconst 1, 1) := by decide +kernel
theorem dL_law_461 : decode cL_law 461 = .ok (.iadd, 1) := by decide +kernel
theorem dL_law_462 : decode cL_law 462 = .ok (.iaload, 1) := by decide +kernel
theorem dL_law_463 : decode cL_law 463 = .ok (.aload_n 0, 1) := by decide +kernel
theorem dL_law_464 : decode cL_law 464 = .ok (.iload_n 3, 1) := by decide +kernel
theorem dL_law_465 : decode cL_law 465 = .ok (.iconst 2, 1) := by decide +kernel
theorem dL_law_466 : decode cL_law 466 = .ok (.iadd, 1) := by decide +kernel
theorem dL_law_467 : decode cL_law 467 = .ok (.iaload, 1) := by decide +kernel
theorem dL_law_468 : decode cL_law 468 = .ok (.invokevirtual 57, 3) := by decide +kernel
theorem dL_law_471 : decode cL_law 471 = .ok (.if_icmp .eq 344, 3) := by decide +kernel
theorem dL_law_474 : decode cL_law 474 = .ok (.iconst 0, 1) := by decide +kernel
theorem dL_law_475 : decode cL_law 475 = .ok (.ireturn, 1) := by decide +kernel
theorem dL_law_476 : decode cL_law 476 = .ok (.aload_n 1, 1) := by decide +kernel
theorem dL_law_477 : decode cL_law 477 = .ok (.aload_n 0, 1) := by decide +kernel
theorem dL_law_478 : decode cL_law 478 = .ok (.iload_n 3, 1) := by decide +kernel
theorem dL_law_479 : decode cL_law 479 = .ok (.iconst 1, 1) := by decide +kernel
theorem dL_law_480 : decode cL_law 480 = .ok (.iadd, 1) := by decide +kernel
theorem dL_law_481 : decode cL_law 481 = .ok (.iaload, 1) := by decide +kernel
theorem dL_law_482 : decode cL_law 482 = .ok (.aload_n 0, 1) := by decide +kernel
theorem dL_law_483 : decode cL_law 483 = .ok (.iload_n 3, 1) := by decide +kernel
theorem dL_law_484 : decode cL_law 484 = .ok (.iconst 2, 1) := by decide +kernel
theorem dL_law_485 : decode cL_law 485 = .ok (.iadd, 1) := by decide +kernel
theorem dL_law_486 : decode cL_law 486 = .ok (.iaload, 1) := by decide +kernel
theorem dL_law_487 : decode cL_law 487 = .ok (.invokevirtual 58, 3) := by decide +kernel
theorem dL_law_490 : decode cL_law 490 = .ok (.aload_n 2, 1) := by decide +kernel
theorem dL_law_491 : decode cL_law 491 = .ok (.aload_n 0, 1) := by decide +kernel
theorem dL_law_492 : decode cL_law 492 = .ok (.iload_n 3, 1) := by decide +kernel
theorem dL_law_493 : decode cL_law 493 = .ok (.iconst 1, 1) := by decide +kernel
theorem dL_law_494 : decode cL_law 494 = .ok (.iadd, 1) := by decide +kernel
theorem dL_law_495 : decode cL_law 495 = .ok (.iaload, 1) := by decide +kernel
theorem dL_law_496 : decode cL_law 496 = .ok (.aload_n 0, 1) := by decide +kernel
theorem dL_law_497 : decode cL_law 497 = .ok (.iload_n 3, 1) := by decide +kernel
theorem dL_law_498 : decode cL_law 498 = .ok (.iconst 2, 1) := by decide +kernel
theorem dL_law_499 : decode cL_law 499 = .ok (.iadd, 1) := by decide +kernel
theorem dL_law_500 : decode cL_law 500 = .ok (.iaload, 1) := by decide +kernel
theorem dL_law_501 : decode cL_law 501 = .ok (.invokevirtual 61, 3) := by decide +kernel
theorem dL_law_504 : decode cL_law 504 = .ok (.if_icmp .eq 311, 3) := by decide +kernel
theorem dL_law_507 : decode cL_law 507 = .ok (.iconst 0, 1) := by decide +kernel
theorem dL_law_508 : decode cL_law 508 = .ok (.ireturn, 1) := by decide +kernel
theorem dL_law_509 : decode cL_law 509 = .ok (.aload_n 1, 1) := by decide +kernel
theorem dL_law_510 : decode cL_law 510 = .ok (.aload_n 0, 1) := by decide +kernel
theorem dL_law_511 : decode cL_law 511 = .ok (.iload_n 3, 1) := by decide +kernel
theorem dL_law_512 : decode cL_law 512 = .ok (.iconst 1, 1) := by decide +kernel
theorem dL_law_513 : decode cL_law 513 = .ok (.iadd, 1) := by decide +kernel
theorem dL_law_514 : decode cL_law 514 = .ok (.iaload, 1) := by decide +kernel
theorem dL_law_515 : decode cL_law 515 = .ok (.aload_n 0, 1) := by decide +kernel
theorem dL_law_516 : decode cL_law 516 = .ok (.iload_n 3, 1) := by decide +kernel
theorem dL_law_517 : decode cL_law 517 = .ok (.iconst 2, 1) := by decide +kernel
theorem dL_law_518 : decode cL_law 518 = .ok (.iadd, 1) := by decide +kernel
theorem dL_law_519 : decode cL_law 519 = .ok (.iaload, 1) := by decide +kernel
theorem dL_law_520 : decode cL_law 520 = .ok (.aload_n 0, 1) := by decide +kernel
theorem dL_law_521 : decode cL_law 521 = .ok (.iload_n 3, 1) := by decide +kernel
theorem dL_law_522 : decode cL_law 522 = .ok (.iconst 3, 1) := by decide +kernel
theorem dL_law_523 : decode cL_law 523 = .ok (.iadd, 1) := by decide +kernel
theorem dL_law_524 : decode cL_law 524 = .ok (.iaload, 1) := by decide +kernel
theorem dL_law_525 : decode cL_law 525 = .ok (.invokevirtual 62, 3) := by decide +kernel
theorem dL_law_528 : decode cL_law 528 = .ok (.aload_n 2, 1) := by decide +kernel
theorem dL_law_529 : decode cL_law 529 = .ok (.aload_n 0, 1) := by decide +kernel
theorem dL_law_530 : decode cL_law 530 = .ok (.iload_n 3, 1) := by decide +kernel
theorem dL_law_531 : decode cL_law 531 = .ok (.iconst 1, 1) := by decide +kernel
theorem dL_law_532 : decode cL_law 532 = .ok (.iadd, 1) := by decide +kernel
theorem dL_law_533 : decode cL_law 533 = .ok (.iaload, 1) := by decide +kernel
theorem dL_law_534 : decode cL_law 534 = .ok (.aload_n 0, 1) := by decide +kernel
theorem dL_law_535 : decode cL_law 535 = .ok (.iload_n 3, 1) := by decide +kernel
theorem dL_law_536 : decode cL_law 536 = .ok (.iconst 2, 1) := by decide +kernel
theorem dL_law_537 : decode cL_law 537 = .ok (.iadd, 1) := by decide +kernel
theorem dL_law_538 : decode cL_law 538 = .ok (.iaload, 1) := by decide +kernel
theorem dL_law_539 : decode cL_law 539 = .ok (.aload_n 0, 1) := by decide +kernel
theorem dL_law_540 : decode cL_law 540 = .ok (.iload_n 3, 1) := by decide +kernel
theorem dL_law_541 : decode cL_law 541 = .ok (.iconst 3, 1) := by decide +kernel
theorem dL_law_542 : decode cL_law 542 = .ok (.iadd, 1) := by decide +kernel
theorem dL_law_543 : decode cL_law 543 = .ok (.iaload, 1) := by decide +kernel
theorem dL_law_544 : decode cL_law 544 = .ok (.invokevirtual 65, 3) := by decide +kernel
theorem dL_law_547 : decode cL_law 547 = .ok (.if_icmp .eq 268, 3) := by decide +kernel
theorem dL_law_550 : decode cL_law 550 = .ok (.iconst 0, 1) := by decide +kernel
theorem dL_law_551 : decode cL_law 551 = .ok (.ireturn, 1) := by decide +kernel
theorem dL_law_552 : decode cL_law 552 = .ok (.aload_n 1, 1) := by decide +kernel
theorem dL_law_553 : decode cL_law 553 = .ok (.aload_n 0, 1) := by decide +kernel
theorem dL_law_554 : decode cL_law 554 = .ok (.iload_n 3, 1) := by decide +kernel
theorem dL_law_555 : decode cL_law 555 = .ok (.iconst 1, 1) := by decide +kernel
theorem dL_law_556 : decode cL_law 556 = .ok (.iadd, 1) := by decide +kernel
theorem dL_law_557 : decode cL_law 557 = .ok (.iaload, 1) := by decide +kernel
theorem dL_law_558 : decode cL_law 558 = .ok (.invokevirtual 66, 3) := by decide +kernel
theorem dL_law_561 : decode cL_law 561 = .ok (.aload_n 2, 1) := by decide +kernel
theorem dL_law_562 : decode cL_law 562 = .ok (.aload_n 0, 1) := by decide +kernel
theorem dL_law_563 : decode cL_law 563 = .ok (.iload_n 3, 1) := by decide +kernel
theorem dL_law_564 : decode cL_law 564 = .ok (.iconst 1, 1) := by decide +kernel
theorem dL_law_565 : decode cL_law 565 = .ok (.iadd, 1) := by decide +kernel
theorem dL_law_566 : decode cL_law 566 = .ok (.iaload, 1) := by decide +kernel
theorem dL_law_567 : decode cL_law 567 = .ok (.invokevirtual 69, 3) := by decide +kernel
theorem dL_law_570 : decode cL_law 570 = .ok (.if_icmp .eq 245, 3) := by decide +kernel
theorem dL_law_573 : decode cL_law 573 = .ok (.iconst 0, 1) := by decide +kernel
theorem dL_law_574 : decode cL_law 574 = .ok (.ireturn, 1) := by decide +kernel
theorem dL_law_575 : decode cL_law 575 = .ok (.aload_n 1, 1) := by decide +kernel
theorem dL_law_576 : decode cL_law 576 = .ok (.aload_n 0, 1) := by decide +kernel
theorem dL_law_577 : decode cL_law 577 = .ok (.iload_n 3, 1) := by decide +kernel
theorem dL_law_578 : decode cL_law 578 = .ok (.iconst 1, 1) := by decide +kernel
theorem dL_law_579 : decode cL_law 579 = .ok (.iadd, 1) := by decide +kernel
theorem dL_law_580 : decode cL_law 580 = .ok (.iaload, 1) := by decide +kernel
theorem dL_law_581 : decode cL_law 581 = .ok (.aload_n 0, 1) := by decide +kernel
theorem dL_law_582 : decode cL_law 582 = .ok (.iload_n 3, 1) := by decide +kernel
theorem dL_law_583 : decode cL_law 583 = .ok (.iconst 2, 1) := by decide +kernel
theorem dL_law_584 : decode cL_law 584 = .ok (.iadd, 1) := by decide +kernel
theorem dL_law_585 : decode cL_law 585 = .ok (.iaload, 1) := by decide +kernel
theorem dL_law_586 : decode cL_law 586 = .ok (.invokevirtual 70, 3) := by decide +kernel
theorem dL_law_589 : decode cL_law 589 = .ok (.aload_n 2, 1) := by decide +kernel
theorem dL_law_590 : decode cL_law 590 = .ok (.aload_n 0, 1) := by decide +kernel
theorem dL_law_591 : decode cL_law 591 = .ok (.iload_n 3, 1) := by decide +kernel
theorem dL_law_592 : decode cL_law 592 = .ok (.iconst 1, 1) := by decide +kernel
theorem dL_law_593 : decode cL_law 593 = .ok (.iadd, 1) := by decide +kernel
theorem dL_law_594 : decode cL_law 594 = .ok (.iaload, 1) := by decide +kernel
theorem dL_law_595 : decode cL_law 595 = .ok (.aload_n 0, 1) := by decide +kernel
theorem dL_law_596 : decode cL_law 596 = .ok (.iload_n 3, 1) := by decide +kernel
theorem dL_law_597 : decode cL_law 597 = .ok (.iconst 2, 1) := by decide +kernel
theorem dL_law_598 : decode cL_law 598 = .ok (.iadd, 1) := by decide +kernel
theorem dL_law_599 : decode cL_law 599 = .ok (.iaload, 1) := by decide +kernel
theorem dL_law_600 : decode cL_law 600 = .ok (.invokevirtual 73, 3) := by decide +kernel
theorem dL_law_603 : decode cL_law 603 = .ok (.if_icmp .eq 212, 3) := by decide +kernel
theorem dL_law_606 : decode cL_law 606 = .ok (.iconst 0, 1) := by decide +kernel
theorem dL_law_607 : decode cL_law 607 = .ok (.ireturn, 1) := by decide +kernel
theorem dL_law_608 : decode cL_law 608 = .ok (.aload_n 1, 1) := by decide +kernel
theorem dL_law_609 : decode cL_law 609 = .ok (.invokevirtual 74, 3) := by decide +kernel
theorem dL_law_612 : decode cL_law 612 = .ok (.aload_n 2, 1) := by decide +kernel
theorem dL_law_613 : decode cL_law 613 = .ok (.invokevirtual 77, 3) := by decide +kernel
theorem dL_law_616 : decode cL_law 616 = .ok (.if_icmp .eq 199, 3) := by decide +kernel
theorem dL_law_619 : decode cL_law 619 = .ok (.iconst 0, 1) := by decide +kernel
theorem dL_law_620 : decode cL_law 620 = .ok (.ireturn, 1) := by decide +kernel
theorem dL_law_621 : decode cL_law 621 = .ok (.aload_n 1, 1) := by decide +kernel
theorem dL_law_622 : decode cL_law 622 = .ok (.aload_n 0, 1) := by decide +kernel
theorem dL_law_623 : decode cL_law 623 = .ok (.iload_n 3, 1) := by decide +kernel
theorem dL_law_624 : decode cL_law 624 = .ok (.iconst 1, 1) := by decide +kernel
theorem dL_law_625 : decode cL_law 625 = .ok (.iadd, 1) := by decide +kernel
theorem dL_law_626 : decode cL_law 626 = .ok (.iaload, 1) := by decide +kernel
theorem dL_law_627 : decode cL_law 627 = .ok (.invokevirtual 78, 3) := by decide +kernel
theorem dL_law_630 : decode cL_law 630 = .ok (.aload_n 2, 1) := by decide +kernel
theorem dL_law_631 : decode cL_law 631 = .ok (.aload_n 0, 1) := by decide +kernel
theorem dL_law_632 : decode cL_law 632 = .ok (.iload_n 3, 1) := by decide +kernel
theorem dL_law_633 : decode cL_law 633 = .ok (.iconst 1, 1) := by decide +kernel
theorem dL_law_634 : decode cL_law 634 = .ok (.iadd, 1) := by decide +kernel
theorem dL_law_635 : decode cL_law 635 = .ok (.iaload, 1) := by decide +kernel
theorem dL_law_636 : decode cL_law 636 = .ok (.invokevirtual 81, 3) := by decide +kernel
theorem dL_law_639 : decode cL_law 639 = .ok (.if_icmp .eq 176, 3) := by decide +kernel
theorem dL_law_642 : decode cL_law 642 = .ok (.iconst 0, 1) := by decide +kernel
theorem dL_law_643 : decode cL_law 643 = .ok (.ireturn, 1) := by decide +kernel
theorem dL_law_644 : decode cL_law 644 = .ok (.aload_n 1, 1) := by decide +kernel
theorem dL_law_645 : decode cL_law 645 = .ok (.aload_n 0, 1) := by decide +kernel
theorem dL_law_646 : decode cL_law 646 = .ok (.iload_n 3, 1) := by decide +kernel
theorem dL_law_647 : decode cL_law 647 = .ok (.iconst 1, 1) := by decide +kernel
theorem dL_law_648 : decode cL_law 648 = .ok (.iadd, 1) := by decide +kernel
theorem dL_law_649 : decode cL_law 649 = .ok (.iaload, 1) := by decide +kernel
theorem dL_law_650 : decode cL_law 650 = .ok (.aload_n 0, 1) := by decide +kernel
theorem dL_law_651 : decode cL_law 651 = .ok (.iload_n 3, 1) := by decide +kernel
theorem dL_law_652 : decode cL_law 652 = .ok (.iconst 2, 1) := by decide +kernel
theorem dL_law_653 : decode cL_law 653 = .ok (.iadd, 1) := by decide +kernel
theorem dL_law_654 : decode cL_law 654 = .ok (.iaload, 1) := by decide +kernel
theorem dL_law_655 : decode cL_law 655 = .ok (.invokevirtual 82, 3) := by decide +kernel
theorem dL_law_658 : decode cL_law 658 = .ok (.aload_n 2, 1) := by decide +kernel
theorem dL_law_659 : decode cL_law 659 = .ok (.aload_n 0, 1) := by decide +kernel
theorem dL_law_660 : decode cL_law 660 = .ok (.iload_n 3, 1) := by decide +kernel
theorem dL_law_661 : decode cL_law 661 = .ok (.iconst 1, 1) := by decide +kernel
theorem dL_law_662 : decode cL_law 662 = .ok (.iadd, 1) := by decide +kernel
theorem dL_law_663 : decode cL_law 663 = .ok (.iaload, 1) := by decide +kernel
theorem dL_law_664 : decode cL_law 664 = .ok (.aload_n 0, 1) := by decide +kernel
theorem dL_law_665 : decode cL_law 665 = .ok (.iload_n 3, 1) := by decide +kernel
theorem dL_law_666 : decode cL_law 666 = .ok (.iconst 2, 1) := by decide +kernel
theorem dL_law_667 : decode cL_law 667 = .ok (.iadd, 1) := by decide +kernel
theorem dL_law_668 : decode cL_law 668 = .ok (.iaload, 1) := by decide +kernel
theorem dL_law_669 : decode cL_law 669 = .ok (.invokevirtual 85, 3) := by decide +kernel
theorem dL_law_672 : decode cL_law 672 = .ok (.if_icmp .eq 143, 3) := by decide +kernel
theorem dL_law_675 : decode cL_law 675 = .ok (.iconst 0, 1) := by decide +kernel
theorem dL_law_676 : decode cL_law 676 = .ok (.ireturn, 1) := by decide +kernel
theorem dL_law_677 : decode cL_law 677 = .ok (.aload_n 1, 1) := by decide +kernel
theorem dL_law_678 : decode cL_law 678 = .ok (.aload_n 0, 1) := by decide +kernel
theorem dL_law_679 : decode cL_law 679 = .ok (.iload_n 3, 1) := by decide +kernel
theorem dL_law_680 : decode cL_law 680 = .ok (.iconst 1, 1) := by decide +kernel
theorem dL_law_681 : decode cL_law 681 = .ok (.iadd, 1) := by decide +kernel
theorem dL_law_682 : decode cL_law 682 = .ok (.iaload, 1) := by decide +kernel
theorem dL_law_683 : decode cL_law 683 = .ok (.i2l, 1) := by decide +kernel
theorem dL_law_684 : decode cL_law 684 = .ok (.bipush 32, 2) := by decide +kernel
theorem dL_law_686 : decode cL_law 686 = .ok (.lshl, 1) := by decide +kernel
theorem dL_law_687 : decode cL_law 687 = .ok (.aload_n 0, 1) := by decide +kernel
theorem dL_law_688 : decode cL_law 688 = .ok (.iload_n 3, 1) := by decide +kernel
theorem dL_law_689 : decode cL_law 689 = .ok (.iconst 2, 1) := by decide +kernel
theorem dL_law_690 : decode cL_law 690 = .ok (.iadd, 1) := by decide +kernel
theorem dL_law_691 : decode cL_law 691 = .ok (.iaload, 1) := by decide +kernel
theorem dL_law_692 : decode cL_law 692 = .ok (.i2l, 1) := by decide +kernel
theorem dL_law_693 : decode cL_law 693 = .ok (.ldc2_w 86, 3) := by decide +kernel
theorem dL_law_696 : decode cL_law 696 = .ok (.land, 1) := by decide +kernel
theorem dL_law_697 : decode cL_law 697 = .ok (.lor, 1) := by decide +kernel
theorem dL_law_698 : decode cL_law 698 = .ok (.invokevirtual 88, 3) := by decide +kernel
theorem dL_law_701 : decode cL_law 701 = .ok (.aload_n 2, 1) := by decide +kernel
theorem dL_law_702 : decode cL_law 702 = .ok (.aload_n 0, 1) := by decide +kernel
theorem dL_law_703 : decode cL_law 703 = .ok (.iload_n 3, 1) := by decide +kernel
theorem dL_law_704 : decode cL_law 704 = .ok (.iconst 1, 1) := by decide +kernel
theorem dL_law_705 : decode cL_law 705 = .ok (.iadd, 1) := by decide +kernel
theorem dL_law_706 : decode cL_law 706 = .ok (.iaload, 1) := by decide +kernel
theorem dL_law_707 : decode cL_law 707 = .ok (.i2l, 1) := by decide +kernel
theorem dL_law_708 : decode cL_law 708 = .ok (.bipush 32, 2) := by decide +kernel
theorem dL_law_710 : decode cL_law 710 = .ok (.lshl, 1) := by decide +kernel
theorem dL_law_711 : decode cL_law 711 = .ok (.aload_n 0, 1) := by decide +kernel
theorem dL_law_712 : decode cL_law 712 = .ok (.iload_n 3, 1) := by decide +kernel
theorem dL_law_713 : decode cL_law 713 = .ok (.iconst 2, 1) := by decide +kernel
theorem dL_law_714 : decode cL_law 714 = .ok (.iadd, 1) := by decide +kernel
theorem dL_law_715 : decode cL_law 715 = .ok (.iaload, 1) := by decide +kernel
theorem dL_law_716 : decode cL_law 716 = .ok (.i2l, 1) := by decide +kernel
theorem dL_law_717 : decode cL_law 717 = .ok (.ldc2_w 86, 3) := by decide +kernel
theorem dL_law_720 : decode cL_law 720 = .ok (.land, 1) := by decide +kernel
theorem dL_law_721 : decode cL_law 721 = .ok (.lor, 1) := by decide +kernel
theorem dL_law_722 : decode cL_law 722 = .ok (.invokevirtual 92, 3) := by decide +kernel
theorem dL_law_725 : decode cL_law 725 = .ok (.if_icmp .eq 90, 3) := by decide +kernel
theorem dL_law_728 : decode cL_law 728 = .ok (.iconst 0, 1) := by decide +kernel
theorem dL_law_729 : decode cL_law 729 = .ok (.ireturn, 1) := by decide +kernel
theorem dL_law_730 : decode cL_law 730 = .ok (.aload_n 1, 1) := by decide +kernel
theorem dL_law_731 : decode cL_law 731 = .ok (.invokevirtual 93, 3) := by decide +kernel
theorem dL_law_734 : decode cL_law 734 = .ok (.aload_n 2, 1) := by decide +kernel
theorem dL_law_735 : decode cL_law 735 = .ok (.invokevirtual 96, 3) := by decide +kernel
theorem dL_law_738 : decode cL_law 738 = .ok (.if_icmp .eq 77, 3) := by decide +kernel
theorem dL_law_741 : decode cL_law 741 = .ok (.iconst 0, 1) := by decide +kernel
theorem dL_law_742 : decode cL_law 742 = .ok (.ireturn, 1) := by decide +kernel
theorem dL_law_743 : decode cL_law 743 = .ok (.aload_n 1, 1) := by decide +kernel
theorem dL_law_744 : decode cL_law 744 = .ok (.invokevirtual 97, 3) := by decide +kernel
theorem dL_law_747 : decode cL_law 747 = .ok (.aload_n 2, 1) := by decide +kernel
theorem dL_law_748 : decode cL_law 748 = .ok (.invokevirtual 100, 3) := by decide +kernel
theorem dL_law_751 : decode cL_law 751 = .ok (.if_icmp .eq 64, 3) := by decide +kernel
theorem dL_law_754 : decode cL_law 754 = .ok (.iconst 0, 1) := by decide +kernel
theorem dL_law_755 : decode cL_law 755 = .ok (.ireturn, 1) := by decide +kernel
theorem dL_law_756 : decode cL_law 756 = .ok (.aload_n 1, 1) := by decide +kernel
theorem dL_law_757 : decode cL_law 757 = .ok (.invokevirtual 101, 3) := by decide +kernel
theorem dL_law_760 : decode cL_law 760 = .ok (.aload_n 2, 1) := by decide +kernel
theorem dL_law_761 : decode cL_law 761 = .ok (.invokevirtual 104, 3) := by decide +kernel
theorem dL_law_764 : decode cL_law 764 = .ok (.if_icmp .eq 51, 3) := by decide +kernel
theorem dL_law_767 : decode cL_law 767 = .ok (.iconst 0, 1) := by decide +kernel
theorem dL_law_768 : decode cL_law 768 = .ok (.ireturn, 1) := by decide +kernel
theorem dL_law_769 : decode cL_law 769 = .ok (.aload_n 1, 1) := by decide +kernel
theorem dL_law_770 : decode cL_law 770 = .ok (.aload_n 0, 1) := by decide +kernel
theorem dL_law_771 : decode cL_law 771 = .ok (.iload_n 3, 1) := by decide +kernel
theorem dL_law_772 : decode cL_law 772 = .ok (.iconst 1, 1) := by decide +kernel
theorem dL_law_773 : decode cL_law 773 = .ok (.iadd, 1) := by decide +kernel
theorem dL_law_774 : decode cL_law 774 = .ok (.iaload, 1) := by decide +kernel
theorem dL_law_775 : decode cL_law 775 = .ok (.invokevirtual 105, 3) := by decide +kernel
theorem dL_law_778 : decode cL_law 778 = .ok (.aload_n 2, 1) := by decide +kernel
theorem dL_law_779 : decode cL_law 779 = .ok (.aload_n 0, 1) := by decide +kernel
theorem dL_law_780 : decode cL_law 780 = .ok (.iload_n 3, 1) := by decide +kernel
theorem dL_law_781 : decode cL_law 781 = .ok (.iconst 1, 1) := by decide +kernel
theorem dL_law_782 : decode cL_law 782 = .ok (.iadd, 1) := by decide +kernel
theorem dL_law_783 : decode cL_law 783 = .ok (.iaload, 1) := by decide +kernel
theorem dL_law_784 : decode cL_law 784 = .ok (.invokevirtual 108, 3) := by decide +kernel
theorem dL_law_787 : decode cL_law 787 = .ok (.if_icmp .eq 28, 3) := by decide +kernel
theorem dL_law_790 : decode cL_law 790 = .ok (.iconst 0, 1) := by decide +kernel
theorem dL_law_791 : decode cL_law 791 = .ok (.ireturn, 1) := by decide +kernel
theorem dL_law_792 : decode cL_law 792 = .ok (.aload_n 1, 1) := by decide +kernel
theorem dL_law_793 : decode cL_law 793 = .ok (.aload_n 0, 1) := by decide +kernel
theorem dL_law_794 : decode cL_law 794 = .ok (.iload_n 3, 1) := by decide +kernel
theorem dL_law_795 : decode cL_law 795 = .ok (.iconst 1, 1) := by decide +kernel
theorem dL_law_796 : decode cL_law 796 = .ok (.iadd, 1) := by decide +kernel
theorem dL_law_797 : decode cL_law 797 = .ok (.iaload, 1) := by decide +kernel
theorem dL_law_798 : decode cL_law 798 = .ok (.invokevirtual 109, 3) := by decide +kernel
theorem dL_law_801 : decode cL_law 801 = .ok (.aload_n 2, 1) := by decide +kernel
theorem dL_law_802 : decode cL_law 802 = .ok (.aload_n 0, 1) := by decide +kernel
theorem dL_law_803 : decode cL_law 803 = .ok (.iload_n 3, 1) := by decide +kernel
theorem dL_law_804 : decode cL_law 804 = .ok (.iconst 1, 1) := by decide +kernel
theorem dL_law_805 : decode cL_law 805 = .ok (.iadd, 1) := by decide +kernel
theorem dL_law_806 : decode cL_law 806 = .ok (.iaload, 1) := by decide +kernel
theorem dL_law_807 : decode cL_law 807 = .ok (.invokevirtual 112, 3) := by decide +kernel
theorem dL_law_810 : decode cL_law 810 = .ok (.if_icmp .eq 5, 3) := by decide +kernel
theorem dL_law_813 : decode cL_law 813 = .ok (.iconst 0, 1) := by decide +kernel
theorem dL_law_814 : decode cL_law 814 = .ok (.ireturn, 1) := by decide +kernel
theorem dL_law_815 : decode cL_law 815 = .ok (.iinc 3 4, 3) := by decide +kernel
theorem dL_law_818 : decode cL_law 818 = .ok (.goto (-800), 3) := by decide +kernel
theorem dL_law_821 : decode cL_law 821 = .ok (.iconst 1, 1) := by decide +kernel
theorem dL_law_822 : decode cL_law 822 = .ok (.ireturn, 1) := by decide +kernel
