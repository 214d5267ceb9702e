theorem dX6_take_143 : decode cX6_take 143 = .ok (.iconst 1, 1) := by decide +kernel
theorem dX6_take_144 : decode cX6_take 144 = .ok (.iaload, 1) := by decide +kernel
theorem dX6_take_145 : decode cX6_take 145 = .ok (.goto 9, 3) := by decide +kernel
theorem dX6_take_148 : decode cX6_take 148 = .ok (.aload_n 0, 1) := by decide +kernel
theorem dX6_take_149 : decode cX6_take 149 = .ok (.getfield 21, 3) := by decide +kernel
theorem dX6_take_152 : decode cX6_take 152 = .ok (.iconst 0, 1) := by decide +kernel
theorem dX6_take_153 : decode cX6_take 153 = .ok (.iaload, 1) := by decide +kernel
theorem dX6_take_154 : decode cX6_take 154 = .ok (.iastore, 1) := by decide +kernel
theorem dX6_take_155 : decode cX6_take 155 = .ok (.aload_n 3, 1) := by decide +kernel
theorem dX6_take_156 : decode cX6_take 156 = .ok (.getfield 109, 3) := by decide +kernel
theorem dX6_take_159 : decode cX6_take 159 = .ok (.iload_n 2, 1) := by decide +kernel
theorem dX6_take_160 : decode cX6_take 160 = .ok (.iload_n 1, 1) := by decide +kernel
theorem dX6_take_161 : decode cX6_take 161 = .ok (.bipush 7, 2) := by decide +kernel
theorem dX6_take_163 : decode cX6_take 163 = .ok (.if_icmp .ne 12, 3) := by decide +kernel
theorem dX6_take_166 : decode cX6_take 166 = .ok (.aload_n 0, 1) := by decide +kernel
theorem dX6_take_167 : decode cX6_take 167 = .ok (.getfield 21, 3) := by decide +kernel
theorem dX6_take_170 : decode cX6_take 170 = .ok (.iconst 0, 1) := by decide +kernel
theorem dX6_take_171 : decode cX6_take 171 = .ok (.iaload, 1) := by decide +kernel
theorem dX6_take_172 : decode cX6_take 172 = .ok (.goto 4, 3) := by decide +kernel
theorem dX6_take_175 : decode cX6_take 175 = .ok (.iconst (-1), 1) := by decide +kernel
theorem dX6_take_176 : decode cX6_take 176 = .ok (.iastore, 1) := by decide +kernel
theorem dX6_take_177 : decode cX6_take 177 = .ok (.goto 35, 3) := by decide +kernel
theorem dX6_take_180 : decode cX6_take 180 = .ok (.aload_n 3, 1) := by decide +kernel
theorem dX6_take_181 : decode cX6_take 181 = .ok (.getfield 106, 3) := by decide +kernel
theorem dX6_take_184 : decode cX6_take 184 = .ok (.iload_n 2, 1) := by decide +kernel
theorem dX6_take_185 : decode cX6_take 185 = .ok (.aload_n 0, 1) := by decide +kernel
theorem dX6_take_186 : decode cX6_take 186 = .ok (.getfield 21, 3) := by decide +kernel
theorem dX6_take_189 : decode cX6_take 189 = .ok (.iconst 0, 1) := by decide +kernel
theorem dX6_take_190 : decode cX6_take 190 = .ok (.iaload, 1) := by decide +kernel
theorem dX6_take_191 : decode cX6_take 191 = .ok (.iastore, 1) := by decide +kernel
theorem dX6_take_192 : decode cX6_take 192 = .ok (.aload_n 3, 1) := by decide +kernel
theorem dX6_take_193 : decode cX6_take 193 = .ok (.getfield 109, 3) := by decide +kernel
theorem dX6_take_196 : decode cX6_take 196 = .ok (.iload_n 2, 1) := by decide +kernel
theorem dX6_take_197 : decode cX6_take 197 = .ok (.iload_n 1, 1) := by decide +kernel
theorem dX6_take_198 : decode cX6_take 198 = .ok (.ifCond .ne 12, 3) := by decide +kernel
theorem dX6_take_201 : decode cX6_take 201 = .ok (.aload_n 0, 1) := by decide +kernel
theorem dX6_take_202 : decode cX6_take 202 = .ok (.getfield 21, 3) := by decide +kernel
theorem dX6_take_205 : decode cX6_take 205 = .ok (.iconst 1, 1) := by decide +kernel
theorem dX6_take_206 : decode cX6_take 206 = .ok (.iaload, 1) := by decide +kernel
theorem dX6_take_207 : decode cX6_take 207 = .ok (.goto 4, 3) := by decide +kernel
theorem dX6_take_210 : decode cX6_take 210 = .ok (.iconst 0, 1) := by decide +kernel
theorem dX6_take_211 : decode cX6_take 211 = .ok (.iastore, 1) := by decide +kernel
theorem dX6_take_212 : decode cX6_take 212 = .ok (.return_, 1) := by decide +kernel
set_option maxRecDepth 20000 in
theorem ggX6_finish_X6_note : GoodIn wsX6_finish wsX6_note := goodIn_r _ [18, 19, 20, 21, 22, 23, 24, 25, 26, 27, 28, 29, 30, 31] (by decide +kernel) (by decide +kernel)
set_option maxRecDepth 20000 in
theorem gX6_finish_X6_note : GoodIn wsX6_finish (wsV RX6 83 RX6 yX6_note wsX6_note) := goodIn_app (goodIn_of _ (by decide +kernel)) ggX6_finish_X6_note
theorem dX6_finish_0 : decode cX6_finish 0 = .ok (.aload_n 0, 1) := by decide +kernel
theorem dX6_finish_1 : decode cX6_finish 1 = .ok (.getfield 11, 3) := by decide +kernel
theorem dX6_finish_4 : decode cX6_finish 4 = .ok (.aload_n 0, 1) := by decide +kernel
theorem dX6_finish_5 : decode cX6_finish 5 = .ok (.getfield 30, 3) := by decide +kernel
theorem dX6_finish_8 : decode cX6_finish 8 = .ok (.aaload, 1) := by decide +kernel
theorem dX6_finish_9 : decode cX6_finish 9 = .ok (.astore_n 1, 1) := by decide +kernel
theorem dX6_finish_10 : decode cX6_finish 10 = .ok (.aload_n 1, 1) := by decide +kernel
theorem dX6_finish_11 : decode cX6_finish 11 = .ok (.aload_n 0, 1) := by decide +kernel
theorem dX6_finish_12 : decode cX6_finish 12 = .ok (.getfield 52, 3) := by decide +kernel
theorem dX6_finish_15 : decode cX6_finish 15 = .ok (.aload_n 1, 1) := by decide +kernel
theorem dX6_finish_16 : decode cX6_finish 16 = .ok (.getfield 106, 3) := by decide +kernel
theorem dX6_finish_19 : decode cX6_finish 19 = .ok (.arraylength, 1) := by decide +kernel
theorem dX6_finish_20 : decode cX6_finish 20 = .ok (.invokestatic 34, 3) := by decide +kernel
theorem dX6_finish_23 : decode cX6_finish 23 = .ok (.putfield 112, 3) := by decide +kernel
theorem dX6_finish_26 : decode cX6_finish 26 = .ok (.aload_n 0, 1) := by decide +kernel
theorem dX6_finish_27 : decode cX6_finish 27 = .ok (.getfield 52, 3) := by decide +kernel
theorem dX6_finish_30 : decode cX6_finish 30 = .ok (.iconst 4, 1) := by decide +kernel
theorem dX6_finish_31 : decode cX6_finish 31 = .ok (.if_icmp .ge 24, 3) := by decide +kernel
theorem dX6_finish_34 : decode cX6_finish 34 = .ok (.aload_n 0, 1) := by decide +kernel
theorem dX6_finish_35 : decode cX6_finish 35 = .ok (.getfield 55, 3) := by decide +kernel
theorem dX6_finish_38 : decode cX6_finish 38 = .ok (.aload_n 0, 1) := by decide +kernel
theorem dX6_finish_39 : decode cX6_finish 39 = .ok (.getfield 52, 3) := by decide +kernel
theorem dX6_finish_42 : decode cX6_finish 42 = .ok (.ishr, 1) := by decide +kernel
theorem dX6_finish_43 : decode cX6_finish 43 = .ok (.ifCond .eq 12, 3) := by decide +kernel
theorem dX6_finish_46 : decode cX6_finish 46 = .ok (.aload_n 0, 1) := by decide +kernel
theorem dX6_finish_47 : decode cX6_finish 47 = .ok (.iconst 4, 1) := by decide +kernel
theorem dX6_finish_48 : decode cX6_finish 48 = .ok (.aload_n 0, 1) := by decide +kernel
theorem dX6_finish_49 : decode cX6_finish 49 = .ok (.getfield 40, 3) := by decide +kernel
theorem dX6_finish_52 : decode cX6_finish 52 = .ok (.invokevirtual 83, 3) := by decide +kernel
theorem dX6_finish_55 : decode cX6_finish 55 = .ok (.iconst 0, 1) := by decide +kernel
theorem dX6_finish_56 : decode cX6_finish 56 = .ok (.istore_n 2, 1) := by decide +kernel
theorem dX6_finish_57 : decode cX6_finish 57 = .ok (.iload_n 2, 1) := by decide +kernel
theorem dX6_finish_58 : decode cX6_finish 58 = .ok (.aload_n 1, 1) := by decide +kernel
theorem dX6_finish_59 : decode cX6_finish 59 = .ok (.getfield 113, 3) := by decide +kernel
theorem dX6_finish_62 : decode cX6_finish 62 = .ok (.arraylength, 1) := by decide +kernel
theorem dX6_finish_63 : decode cX6_finish 63 = .ok (.if_icmp .ge 21, 3) := by decide +kernel
theorem dX6_finish_66 : decode cX6_finish 66 = .ok (.aload_n 1, 1) := by decide +kernel
theorem dX6_finish_67 : decode cX6_finish 67 = .ok (.getfield 113, 3) := by decide +kernel
theorem dX6_finish_70 : decode cX6_finish 70 = .ok (.iload_n 2, 1) := by decide +kernel
theorem dX6_finish_71 : decode cX6_finish 71 = .ok (.aload_n 0, 1) := by decide +kernel
theorem dX6_finish_72 : decode cX6_finish 72 = .ok (.getfield 17, 3) := by decide +kernel
theorem dX6_finish_75 : decode cX6_finish 75 = .ok (.iload_n 2, 1) := by decide +kernel
theorem dX6_finish_76 : decode cX6_finish 76 = .ok (.iaload, 1) := by decide +kernel
theorem dX6_finish_77 : decode cX6_finish 77 = .ok (.iastore, 1) := by decide +kernel
theorem dX6_finish_78 : decode cX6_finish 78 = .ok (.iinc 2 1, 3) := by decide +kernel
theorem dX6_finish_81 : decode cX6_finish 81 = .ok (.goto (-24), 3) := by decide +kernel
theorem dX6_finish_84 : decode cX6_finish 84 = .ok (.return_, 1) := by decide +kernel
theorem dX6_skipBlanks_0 : decode cX6_skipBlanks 0 = .ok (.aload_n 0, 1) := by decide +kernel
theorem dX6_skipBlanks_1 : decode cX6_skipBlanks 1 = .ok (.getfield 49, 3) := by decide +kernel
theorem dX6_skipBlanks_4 : decode cX6_skipBlanks 4 = .ok (.aload_n 0, 1) := by decide +kernel
theorem dX6_skipBlanks_5 : decode cX6_skipBlanks 5 = .ok (.getfield 40, 3) := by decide +kernel
theorem dX6_skipBlanks_8 : decode cX6_skipBlanks 8 = .ok (.if_icmp .ge 44, 3) := by decide +kernel
theorem dX6_skipBlanks_11 : decode cX6_skipBlanks 11 = .ok (.aload_n 0, 1) := by decide +kernel
theorem dX6_skipBlanks_12 : decode cX6_skipBlanks 12 = .ok (.getfield 27, 3) := by decide +kernel
theorem dX6_skipBlanks_15 : decode cX6_skipBlanks 15 = .ok (.aload_n 0, 1) := by decide +kernel
theorem dX6_skipBlanks_16 : decode cX6_skipBlanks 16 = .ok (.getfield 49, 3) := by decide +kernel
theorem dX6_skipBlanks_19 : decode cX6_skipBlanks 19 = .ok (.iaload, 1) := by decide +kernel
theorem dX6_skipBlanks_20 : decode cX6_skipBlanks 20 = .ok (.bipush 10, 2) := by decide +kernel
theorem dX6_skipBlanks_22 : decode cX6_skipBlanks 22 = .ok (.if_icmp .eq 17, 3) := by decide +kernel
theorem dX6_skipBlanks_25 : decode cX6_skipBlanks 25 = .ok (.aload_n 0, 1) := by decide +kernel
theorem dX6_skipBlanks_26 : decode cX6_skipBlanks 26 = .ok (.getfield 27, 3) := by decide +kernel
theorem dX6_skipBlanks_29 : decode cX6_skipBlanks 29 = .ok (.aload_n 0, 1) := by decide +kernel
theorem dX6_skipBlanks_30 : decode cX6_skipBlanks 30 = .ok (.getfield 49, 3) := by decide +kernel
theorem dX6_skipBlanks_33 : decode cX6_skipBlanks 33 = .ok (.iaload, 1) := by decide +kernel
theorem dX6_skipBlanks_34 : decode cX6_skipBlanks 34 = .ok (.bipush 32, 2) := by decide +kernel
theorem dX6_skipBlanks_36 : decode cX6_skipBlanks 36 = .ok (.if_icmp .ne 16, 3) := by decide +kernel
theorem dX6_skipBlanks_39 : decode cX6_skipBlanks 39 = .ok (.aload_n 0, 1) := by decide +kernel
theorem dX6_skipBlanks_40 : decode cX6_skipBlanks 40 = .ok (.dup, 1) := by decide +kernel
theorem dX6_skipBlanks_41 : decode cX6_skipBlanks 41 = .ok (.getfield 49, 3) := by decide +kernel
theorem dX6_skipBlanks_44 : decode cX6_skipBlanks 44 = .ok (.iconst 1, 1) := by decide +kernel
theorem dX6_skipBlanks_45 : decode cX6_skipBlanks 45 = .ok (.iadd, 1) := by decide +kernel
theorem dX6_skipBlanks_46 : decode cX6_skipBlanks 46 = .ok (.putfield 49, 3) := by decide +kernel
theorem dX6_skipBlanks_49 : decode cX6_skipBlanks 49 = .ok (.goto (-49), 3) := by decide +kernel
theorem dX6_skipBlanks_52 : decode cX6_skipBlanks 52 = .ok (.return_, 1) := by decide +kernel
theorem dX6_rowEnd_0 : decode cX6_rowEnd 0 = .ok (.aload_n 0, 1) := by decide +kernel
theorem dX6_rowEnd_1 : decode cX6_rowEnd 1 = .ok (.getfield 49, 3) := by decide +kernel
theorem dX6_rowEnd_4 : decode cX6_rowEnd 4 = .ok (.istore_n 3, 1) := by decide +kernel
theorem dX6_rowEnd_5 : decode cX6_rowEnd 5 = .ok (.iload_n 3, 1) := by decide +kernel
theorem dX6_rowEnd_6 : decode cX6_rowEnd 6 = .ok (.aload_n 0, 1) := by decide +kernel
theorem dX6_rowEnd_7 : decode cX6_rowEnd 7 = .ok (.getfield 40, 3) := by decide +kernel
theorem dX6_rowEnd_10 : decode cX6_rowEnd 10 = .ok (.if_icmp .ge 29, 3) := by decide +kernel
theorem dX6_rowEnd_13 : decode cX6_rowEnd 13 = .ok (.aload_n 0, 1) := by decide +kernel
theorem dX6_rowEnd_14 : decode cX6_rowEnd 14 = .ok (.getfield 27, 3) := by decide +kernel
theorem dX6_rowEnd_17 : decode cX6_rowEnd 17 = .ok (.iload_n 3, 1) := by decide +kernel
theorem dX6_rowEnd_18 : decode cX6_rowEnd 18 = .ok (.iaload, 1) := by decide +kernel
theorem dX6_rowEnd_19 : decode cX6_rowEnd 19 = .ok (.iload_n 1, 1) := by decide +kernel
theorem dX6_rowEnd_20 : decode cX6_rowEnd 20 = .ok (.if_icmp .lt 19, 3) := by decide +kernel
theorem dX6_rowEnd_23 : decode cX6_rowEnd 23 = .ok (.aload_n 0, 1) := by decide +kernel
theorem dX6_rowEnd_24 : decode cX6_rowEnd 24 = .ok (.getfield 27, 3) := by decide +kernel
theorem dX6_rowEnd_27 : decode cX6_rowEnd 27 = .ok (.iload_n 3, 1) := by decide +kernel
theorem dX6_rowEnd_28 : decode cX6_rowEnd 28 = .ok (.iaload, 1) := by decide +kernel
theorem dX6_rowEnd_29 : decode cX6_rowEnd 29 = .ok (.iload_n 2, 1) := by decide +kernel
theorem dX6_rowEnd_30 : decode cX6_rowEnd 30 = .ok (.if_icmp .gt 9, 3) := by decide +kernel
theorem dX6_rowEnd_33 : decode cX6_rowEnd 33 = .ok (.iinc 3 1, 3) := by decide +kernel
theorem dX6_rowEnd_36 : decode cX6_rowEnd 36 = .ok (.goto (-31), 3) := by decide +kernel
theorem dX6_rowEnd_39 : decode cX6_rowEnd 39 = .ok (.iload_n 3, 1) := by decide +kernel
theorem dX6_rowEnd_40 : decode cX6_rowEnd 40 = .ok (.ireturn, 1) := by decide +kernel
set_option maxRecDepth 20000 in
theorem ggX6_wordHere_X6_rowEnd : GoodIn wsX6_wordHere wsX6_rowEnd := goodIn_r _ [7, 8, 9, 10, 67, 68, 69, 70, 71, 72, 73, 74, 75, 76, 77] (by decide +kernel) (by decide +kernel)
set_option maxRecDepth 20000 in
theorem gX6_wordHere_X6_rowEnd : GoodIn wsX6_wordHere (wsV RX6 87 RX6 yX6_rowEnd wsX6_rowEnd) := goodIn_app (goodIn_of _ (by decide +kernel)) ggX6_wordHere_X6_rowEnd
set_option maxRecDepth 20000 in
theorem ggX6_wordHere_X6_spelling : GoodIn wsX6_wordHere wsX6_spelling := goodIn_r _ [13] (by decide +kernel) (by decide +kernel)
set_option maxRecDepth 20000 in
theorem gX6_wordHere_X6_spelling : GoodIn wsX6_wordHere (va_wsS RX6 119 yX6_spelling wsX6_spelling) := goodIn_app (goodIn_of _ (by decide +kernel)) ggX6_wordHere_X6_spelling
set_option maxRecDepth 20000 in
theorem ggX6_wordHere_X6_isHere : GoodIn wsX6_wordHere wsX6_isHere := goodIn_r _ [17, 8, 10, 18, 19, 20, 21, 22, 23, 24, 25, 26, 27, 28, 29, 30, 31, 32, 33, 34, 35, 36, 37, 38, 39, 40, 41, 42, 43, 44, 45, 46, 47, 48, 49, 50, 51, 52, 53, 54, 55, 56, 57, 58, 59, 60, 61, 62, 63, 64, 65, 66, 67, 68, 69, 70, 71, 72, 73, 74, 75, 76, 77] (by decide +kernel) (by decide +kernel)
set_option maxRecDepth 20000 in
theorem gX6_wordHere_X6_isHere : GoodIn wsX6_wordHere (wsV RX6 123 RX6 yX6_isHere wsX6_isHere) := goodIn_app (goodIn_of _ (by decide +kernel)) ggX6_wordHere_X6_isHere
theorem dX6_wordHere_0 : decode cX6_wordHere 0 = .ok (.aload_n 0, 1) := by decide +kernel
theorem dX6_wordHere_1 : decode cX6_wordHere 1 = .ok (.bipush 97, 2) := by decide +kernel
theorem dX6_wordHere_3 : decode cX6_wordHere 3 = .ok (.bipush 122, 2) := by decide +kernel
theorem dX6_wordHere_5 : decode cX6_wordHere 5 = .ok (.invokevirtual 87, 3) := by decide +kernel
theorem dX6_wordHere_8 : decode cX6_wordHere 8 = .ok (.istore_n 1, 1) := by decide +kernel
theorem dX6_wordHere_9 : decode cX6_wordHere 9 = .ok (.iconst 0, 1) := by decide +kernel
theorem dX6_wordHere_10 : decode cX6_wordHere 10 = .ok (.istore_n 2, 1) := by decide +kernel
theorem dX6_wordHere_11 : decode cX6_wordHere 11 = .ok (.iload_n 2, 1) := by decide +kernel
theorem dX6_wordHere_12 : decode cX6_wordHere 12 = .ok (.bipush 10, 2) := by decide +kernel
theorem dX6_wordHere_14 : decode cX6_wordHere 14 = .ok (.if_icmp .ge 35, 3) := by decide +kernel
theorem dX6_wordHere_17 : decode cX6_wordHere 17 = .ok (.getstatic 116, 3) := by decide +kernel
theorem dX6_wordHere_20 : decode cX6_wordHere 20 = .ok (.iload_n 2, 1) := by decide +kernel
theorem dX6_wordHere_21 : decode cX6_wordHere 21 = .ok (.iaload, 1) := by decide +kernel
theorem dX6_wordHere_22 : decode cX6_wordHere 22 = .ok (.aload_n 0, 1) := by decide +kernel
theorem dX6_wordHere_23 : decode cX6_wordHere 23 = .ok (.getfield 30, 3) := by decide +kernel
theorem dX6_wordHere_26 : decode cX6_wordHere 26 = .ok (.if_icmp .ne 17, 3) := by decide +kernel
theorem dX6_wordHere_29 : decode cX6_wordHere 29 = .ok (.aload_n 0, 1) := by decide +kernel
theorem dX6_wordHere_30 : decode cX6_wordHere 30 = .ok (.iload_n 2, 1) := by decide +kernel
theorem dX6_wordHere_31 : decode cX6_wordHere 31 = .ok (.invokestatic 119, 3) := by decide +kernel
theorem dX6_wordHere_34 : decode cX6_wordHere 34 = .ok (.iload_n 1, 1) := by decide +kernel
theorem dX6_wordHere_35 : decode cX6_wordHere 35 = .ok (.invokevirtual 123, 3) := by decide +kernel
theorem dX6_wordHere_38 : decode cX6_wordHere 38 = .ok (.ifCond .eq 5, 3) := by decide +kernel
theorem dX6_wordHere_41 : decode cX6_wordHere 41 = .ok (.iload_n 2, 1) := by decide +kernel
theorem dX6_wordHere_42 : decode cX6_wordHere 42 = .ok (.ireturn, 1) := by decide +kernel
theorem dX6_wordHere_43 : decode cX6_wordHere 43 = .ok (.iinc 2 1, 3) := by decide +kernel
theorem dX6_wordHere_46 : decode cX6_wordHere 46 = .ok (.goto (-35), 3) := by decide +kernel
theorem dX6_wordHere_49 : decode cX6_wordHere 49 = .ok (.iconst (-1), 1) := by decide +kernel
theorem dX6_wordHere_50 : decode cX6_wordHere 50 = .ok (.ireturn, 1) := by decide +kernel
set_option maxRecDepth 20000 in
theorem ggX6_isHere_J0_length_8abf5 : GoodIn wsX6_isHere wsJ0_length_8abf5 := goodIn_r _ [7, 8, 9, 10, 11, 6, 12, 13, 14] (by decide +kernel) (by decide +kernel)
set_option maxRecDepth 20000 in
theorem gX6_isHere_J0_length_8abf5 : GoodIn wsX6_isHere (wsV RX6 127 RJ0 yJ0_length_8abf5 wsJ0_length_8abf5) := goodIn_app (goodIn_of _ (by decide +kernel)) ggX6_isHere_J0_length_8abf5
set_option maxRecDepth 20000 in
theorem ggX6_isHere_J0_charAt_5068e : GoodIn wsX6_isHere wsJ0_charAt_5068e := goodIn_r _ [18, 8, 19, 20, 21, 6, 22, 13, 14, 23, 24, 25, 26, 27, 28, 29, 30, 31, 32, 33, 34, 35, 36, 37, 38, 39, 40, 41, 42, 43, 44, 45, 46, 47, 48, 49, 50, 51] (by decide +kernel) (by decide +kernel)
set_option maxRecDepth 20000 in
theorem gX6_isHere_J0_charAt_5068e : GoodIn wsX6_isHere (wsV RX6 131 RJ0 yJ0_charAt_5068e wsJ0_charAt_5068e) := goodIn_app (goodIn_of _ (by decide +kernel)) ggX6_isHere_J0_charAt_5068e
theorem dX6_isHere_0 : decode cX6_isHere 0 = .ok (.iload_n 2, 1) := by decide +kernel
theorem dX6_isHere_1 : decode cX6_isHere 1 = .ok (.aload_n 0, 1) := by decide +kernel
theorem dX6_isHere_2 : decode cX6_isHere 2 = .ok (.getfield 49, 3) := by decide +kernel
theorem dX6_isHere_5 : decode cX6_isHere 5 = .ok (.isub, 1) := by decide +kernel
theorem dX6_isHere_6 : decode cX6_isHere 6 = .ok (.aload_n 1, 1) := by decide +kernel
theorem dX6_isHere_7 : decode cX6_isHere 7 = .ok (.invokevirtual 127, 3) := by decide +kernel
theorem dX6_isHere_10 : decode cX6_isHere 10 = .ok (.if_icmp .eq 5, 3) := by decide +kernel
theorem dX6_isHere_13 : decode cX6_isHere 13 = .ok (.iconst 0, 1) := by decide +kernel
theorem dX6_isHere_14 : decode cX6_isHere 14 = .ok (.ireturn, 1) := by decide +kernel
theorem dX6_isHere_15 : decode cX6_isHere 15 = .ok (.iconst 0, 1) := by decide +kernel
theorem dX6_isHere_16 : decode cX6_isHere 16 = .ok (.istore_n 3, 1) := by decide +kernel
theorem dX6_isHere_17 : decode cX6_isHere 17 = .ok (.iload_n 3, 1) := by decide +kernel
theorem dX6_isHere_18 : decode cX6_isHere 18 = .ok (.aload_n 1, 1) := by decide +kernel
theorem dX6_isHere_19 : decode cX6_isHere 19 = .ok (.invokevirtual 127, 3) := by decide +kernel
theorem dX6_isHere_22 : decode cX6_isHere 22 = .ok (.if_icmp .ge 30, 3) := by decide +kernel
theorem dX6_isHere_25 : decode cX6_isHere 25 = .ok (.aload_n 0, 1) := by decide +kernel
theorem dX6_isHere_26 : decode cX6_isHere 26 = .ok (.getfield 27, 3) := by decide +kernel
theorem dX6_isHere_29 : decode cX6_isHere 29 = .ok (.aload_n 0, 1) := by decide +kernel
theorem dX6_isHere_30 : decode cX6_isHere 30 = .ok (.getfield 49, 3) := by decide +kernel
theorem dX6_isHere_33 : decode cX6_isHere 33 = .ok (.iload_n 3, 1) := by decide +kernel
theorem dX6_isHere_34 : decode cX6_isHere 34 = .ok (.iadd, 1) := by decide +kernel
theorem dX6_isHere_35 : decode cX6_isHere 35 = .ok (.iaload, 1) := by decide +kernel
theorem dX6_isHere_36 : decode cX6_isHere 36 = .ok (.aload_n 1, 1) := by decide +kernel
theorem dX6_isHere_37 : decode cX6_isHere 37 = .ok (.iload_n 3, 1) := by decide +kernel
theorem dX6_isHere_38 : decode cX6_isHere 38 = .ok (.invokevirtual 131, 3) := by decide +kernel
theorem dX6_isHere_41 : decode cX6_isHere 41 = .ok (.if_icmp .eq 5, 3) := by decide +kernel
theorem dX6_isHere_44 : decode cX6_isHere 44 = .ok (.iconst 0, 1) := by decide +kernel
theorem dX6_isHere_45 : decode cX6_isHere 45 = .ok (.ireturn, 1) := by decide +kernel
theorem dX6_isHere_46 : decode cX6_isHere 46 = .ok (.iinc 3 1, 3) := by decide +kernel
theorem dX6_isHere_49 : decode cX6_isHere 49 = .ok (.goto (-32), 3) := by decide +kernel
theorem dX6_isHere_52 : decode cX6_isHere 52 = .ok (.iconst 1, 1) := by decide +kernel
theorem dX6_isHere_53 : decode cX6_isHere 53 = .ok (.ireturn, 1) := by decide +kernel
theorem dX6_spelling_0 : decode cX6_spelling 0 = .ok (.iload_n 0, 1) := by decide +kernel
theorem dX6_spelling_1 : decode cX6_spelling 1 = .ok (.tableswitch 78 0 8 #[51, 54, 57, 60, 63, 66, 69, 72, 75], 51) := by decide +kernel
theorem dX6_spelling_52 : decode cX6_spelling 52 = .ok (.ldc 135, 2) := by decide +kernel
theorem dX6_spelling_54 : decode cX6_spelling 54 = .ok (.areturn, 1) := by decide +kernel
theorem dX6_spelling_55 : decode cX6_spelling 55 = .ok (.ldc 137, 2) := by decide +kernel
theorem dX6_spelling_57 : decode cX6_spelling 57 = .ok (.areturn, 1) := by decide +kernel
theorem dX6_spelling_58 : decode cX6_spelling 58 = .ok (.ldc 138, 2) := by decide +kernel
theorem dX6_spelling_60 : decode cX6_spelling 60 = .ok (.areturn, 1) := by decide +kernel
theorem dX6_spelling_61 : decode cX6_spelling 61 = .ok (.ldc 140, 2) := by decide +kernel
theorem dX6_spelling_63 : decode cX6_spelling 63 = .ok (.areturn, 1) := by decide +kernel
theorem dX6_spelling_64 : decode cX6_spelling 64 = .ok (.ldc 142, 2) := by decide +kernel
theorem dX6_spelling_66 : decode cX6_spelling 66 = .ok (.areturn, 1) := by decide +kernel
theorem dX6_spelling_67 : decode cX6_spelling 67 = .ok (.ldc 144, 2) := by decide +kernel
theorem dX6_spelling_69 : decode cX6_spelling 69 = .ok (.areturn, 1) := by decide +kernel
theorem dX6_spelling_70 : decode cX6_spelling 70 = .ok (.ldc 146, 2) := by decide +kernel
theorem dX6_spelling_72 : decode cX6_spelling 72 = .ok (.areturn, 1) := by decide +kernel
theorem dX6_spelling_73 : decode cX6_spelling 73 = .ok (.ldc 148, 2) := by decide +kernel
theorem dX6_spelling_75 : decode cX6_spelling 75 = .ok (.areturn, 1) := by decide +kernel
theorem dX6_spelling_76 : decode cX6_spelling 76 = .ok (.ldc 150, 2) := by decide +kernel
theorem dX6_spelling_78 : decode cX6_spelling 78 = .ok (.areturn, 1) := by decide +kernel
theorem dX6_spelling_79 : decode cX6_spelling 79 = .ok (.ldc 152, 2) := by decide +kernel
theorem dX6_spelling_81 : decode cX6_spelling 81 = .ok (.areturn, 1) := by decide +kernel
theorem dX7_init_0 : decode cX7_init 0 = .ok (.aload_n 0, 1) := by decide +kernel
theorem dX7_init_1 : decode cX7_init 1 = .ok (.invokespecial 3, 3) := by decide +kernel
theorem dX7_init_4 : decode cX7_init 4 = .ok (.aload_n 0, 1) := by decide +kernel
theorem dX7_init_5 : decode cX7_init 5 = .ok (.sipush 4096, 3) := by decide +kernel
theorem dX7_init_8 : decode cX7_init 8 = .ok (.newarray .int, 2) := by decide +kernel
theorem dX7_init_10 : decode cX7_init 10 = .ok (.putfield 9, 3) := by decide +kernel
theorem dX7_init_13 : decode cX7_init 13 = .ok (.aload_n 0, 1) := by decide +kernel
theorem dX7_init_14 : decode cX7_init 14 = .ok (.sipush 4096, 3) := by decide +kernel
theorem dX7_init_17 : decode cX7_init 17 = .ok (.newarray .int, 2) := by decide +kernel
theorem dX7_init_19 : decode cX7_init 19 = .ok (.putfield 15, 3) := by decide +kernel
theorem dX7_init_22 : decode cX7_init 22 = .ok (.return_, 1) := by decide +kernel
set_option maxRecDepth 20000 in
theorem ggX7_from_X7_workOut : GoodIn wsX7_from wsX7_workOut := goodIn_r _ [5, 6, 7, 8, 9] (by decide +kernel) (by decide +kernel)
set_option maxRecDepth 20000 in
theorem gX7_from_X7_workOut : GoodIn wsX7_from (va_wsS RX7 18 yX7_workOut wsX7_workOut) := goodIn_app (goodIn_of _ (by decide +kernel)) ggX7_from_X7_workOut
theorem dX7_from_0 : decode cX7_from 0 = .ok (.iload_n 1, 1) := by decide +kernel
theorem dX7_from_1 : decode cX7_from 1 = .ok (.sipush 4095, 3) := by decide +kernel
theorem dX7_from_4 : decode cX7_from 4 = .ok (.iand, 1) := by decide +kernel
theorem dX7_from_5 : decode cX7_from 5 = .ok (.istore_n 2, 1) := by decide +kernel
theorem dX7_from_6 : decode cX7_from 6 = .ok (.aload_n 0, 1) := by decide +kernel
theorem dX7_from_7 : decode cX7_from 7 = .ok (.getfield 15, 3) := by decide +kernel
theorem dX7_from_10 : decode cX7_from 10 = .ok (.iload_n 2, 1) := by decide +kernel
theorem dX7_from_11 : decode cX7_from 11 = .ok (.iaload, 1) := by decide +kernel
theorem dX7_from_12 : decode cX7_from 12 = .ok (.ifCond .ne 13, 3) := by decide +kernel
theorem dX7_from_15 : decode cX7_from 15 = .ok (.aload_n 0, 1) := by decide +kernel
theorem dX7_from_16 : decode cX7_from 16 = .ok (.getfield 15, 3) := by decide +kernel
theorem dX7_from_19 : decode cX7_from 19 = .ok (.iload_n 2, 1) := by decide +kernel
theorem dX7_from_20 : decode cX7_from 20 = .ok (.iload_n 2, 1) := by decide +kernel
theorem dX7_from_21 : decode cX7_from 21 = .ok (.invokestatic 18, 3) := by decide +kernel
theorem dX7_from_24 : decode cX7_from 24 = .ok (.iastore, 1) := by decide +kernel
theorem dX7_from_25 : decode cX7_from 25 = .ok (.aload_n 0, 1) := by decide +kernel
theorem dX7_from_26 : decode cX7_from 26 = .ok (.getfield 15, 3) := by decide +kernel
theorem dX7_from_29 : decode cX7_from 29 = .ok (.iload_n 2, 1) := by decide +kernel
theorem dX7_from_30 : decode cX7_from 30 = .ok (.iaload, 1) := by decide +kernel
theorem dX7_from_31 : decode cX7_from 31 = .ok (.ireturn, 1) := by decide +kernel
theorem dX7_workOut_0 : decode cX7_workOut 0 = .ok (.bipush 8, 2) := by decide +kernel
theorem dX7_workOut_2 : decode cX7_workOut 2 = .ok (.istore_n 1, 1) := by decide +kernel
theorem dX7_workOut_3 : decode cX7_workOut 3 = .ok (.iconst 0, 1) := by decide +kernel
theorem dX7_workOut_4 : decode cX7_workOut 4 = .ok (.istore_n 2, 1) := by decide +kernel
theorem dX7_workOut_5 : decode cX7_workOut 5 = .ok (.iload_n 2, 1) := by decide +kernel
theorem dX7_workOut_6 : decode cX7_workOut 6 = .ok (.bipush 12, 2) := by decide +kernel
theorem dX7_workOut_8 : decode cX7_workOut 8 = .ok (.if_icmp .ge 27, 3) := by decide +kernel
theorem dX7_workOut_11 : decode cX7_workOut 11 = .ok (.iload_n 0, 1) := by decide +kernel
theorem dX7_workOut_12 : decode cX7_workOut 12 = .ok (.iload_n 2, 1) := by decide +kernel
theorem dX7_workOut_13 : decode cX7_workOut 13 = .ok (.ishr, 1) := by decide +kernel
theorem dX7_workOut_14 : decode cX7_workOut 14 = .ok (.bipush 7, 2) := by decide +kernel
theorem dX7_workOut_16 : decode cX7_workOut 16 = .ok (.iand, 1) := by decide +kernel
theorem dX7_workOut_17 : decode cX7_workOut 17 = .ok (.istore_n 3, 1) := by decide +kernel
theorem dX7_workOut_18 : decode cX7_workOut 18 = .ok (.iload_n 3, 1) := by decide +kernel
theorem dX7_workOut_19 : decode cX7_workOut 19 = .ok (.ifCond .le 10, 3) := by decide +kernel
theorem dX7_workOut_22 : decode cX7_workOut 22 = .ok (.iload_n 3, 1) := by decide +kernel
theorem dX7_workOut_23 : decode cX7_workOut 23 = .ok (.iload_n 1, 1) := by decide +kernel
theorem dX7_workOut_24 : decode cX7_workOut 24 = .ok (.if_icmp .ge 5, 3) := by decide +kernel
theorem dX7_workOut_27 : decode cX7_workOut 27 = .ok (.iload_n 3, 1) := by decide +kernel
theorem dX7_workOut_28 : decode cX7_workOut 28 = .ok (.istore_n 1, 1) := by decide +kernel
theorem dX7_workOut_29 : decode cX7_workOut 29 = .ok (.iinc 2 3, 3) := by decide +kernel
theorem dX7_workOut_32 : decode cX7_workOut 32 = .ok (.goto (-27), 3) := by decide +kernel
theorem dX7_workOut_35 : decode cX7_workOut 35 = .ok (.iload_n 1, 1) := by decide +kernel
theorem dX7_workOut_36 : decode cX7_workOut 36 = .ok (.bipush 8, 2) := by decide +kernel
theorem dX7_workOut_38 : decode cX7_workOut 38 = .ok (.if_icmp .ne 5, 3) := by decide +kernel
theorem dX7_workOut_41 : decode cX7_workOut 41 = .ok (.iconst 0, 1) := by decide +kernel
theorem dX7_workOut_42 : decode cX7_workOut 42 = .ok (.ireturn, 1) := by decide +kernel
theorem dX7_workOut_43 : decode cX7_workOut 43 = .ok (.iconst 0, 1) := by decide +kernel
theorem dX7_workOut_44 : decode cX7_workOut 44 = .ok (.istore_n 2, 1) := by decide +kernel
theorem dX7_workOut_45 : decode cX7_workOut 45 = .ok (.iconst 0, 1) := by decide +kernel
theorem dX7_workOut_46 : decode cX7_workOut 46 = .ok (.istore_n 3, 1) := by decide +kernel
theorem dX7_workOut_47 : decode cX7_workOut 47 = .ok (.iload_n 3, 1) := by decide +kernel
theorem dX7_workOut_48 : decode cX7_workOut 48 = .ok (.bipush 12, 2) := by decide +kernel
theorem dX7_workOut_50 : decode cX7_workOut 50 = .ok (.if_icmp .ge 26, 3) := by decide +kernel
theorem dX7_workOut_53 : decode cX7_workOut 53 = .ok (.iload_n 2, 1) := by decide +kernel
theorem dX7_workOut_54 : decode cX7_workOut 54 = .ok (.iconst 0, 1) := by decide +kernel
theorem dX7_workOut_55 : decode cX7_workOut 55 = .ok (.iload_n 0, 1) := by decide +kernel
theorem dX7_workOut_56 : decode cX7_workOut 56 = .ok (.iload_n 3, 1) := by decide +kernel
theorem dX7_workOut_57 : decode cX7_workOut 57 = .ok (.ishr, 1) := by decide +kernel
theorem dX7_workOut_58 : decode cX7_workOut 58 = .ok (.bipush 7, 2) := by decide +kernel
theorem dX7_workOut_60 : decode cX7_workOut 60 = .ok (.iand, 1) := by decide +kernel
theorem dX7_workOut_61 : decode cX7_workOut 61 = .ok (.iload_n 1, 1) := by decide +kernel
theorem dX7_workOut_62 : decode cX7_workOut 62 = .ok (.isub, 1) := by decide +kernel
theorem dX7_workOut_63 : decode cX7_workOut 63 = .ok (.invokestatic 22, 3) := by decide +kernel
theorem dX7_workOut_66 : decode cX7_workOut 66 = .ok (.iload_n 3, 1) := by decide +kernel
theorem dX7_workOut_67 : decode cX7_workOut 67 = .ok (.ishl, 1) := by decide +kernel
theorem dX7_workOut_68 : decode cX7_workOut 68 = .ok (.ior, 1) := by decide +kernel
theorem dX7_workOut_69 : decode cX7_workOut 69 = .ok (.istore_n 2, 1) := by decide +kernel
theorem dX7_workOut_70 : decode cX7_workOut 70 = .ok (.iinc 3 3, 3) := by decide +kernel
theorem dX7_workOut_73 : decode cX7_workOut 73 = .ok (.goto (-26), 3) := by decide +kernel
theorem dX7_workOut_76 : decode cX7_workOut 76 = .ok (.iload_n 1, 1) := by decide +kernel
theorem dX7_workOut_77 : decode cX7_workOut 77 = .ok (.bipush 12, 2) := by decide +kernel
theorem dX7_workOut_79 : decode cX7_workOut 79 = .ok (.ishl, 1) := by decide +kernel
theorem dX7_workOut_80 : decode cX7_workOut 80 = .ok (.iload_n 2, 1) := by decide +kernel
theorem dX7_workOut_81 : decode cX7_workOut 81 = .ok (.ior, 1) := by decide +kernel
theorem dX7_workOut_82 : decode cX7_workOut 82 = .ok (.ireturn, 1) := by decide +kernel
theorem dX8_init_0 : decode cX8_init 0 = .ok (.aload_n 0, 1) := by decide +kernel
theorem dX8_init_1 : decode cX8_init 1 = .ok (.invokespecial 3, 3) := by decide +kernel
theorem dX8_init_4 : decode cX8_init 4 = .ok (.getstatic 9, 3) := by decide +kernel
theorem dX8_init_7 : decode cX8_init 7 = .ok (.iload_n 1, 1) := by decide +kernel
theorem dX8_init_8 : decode cX8_init 8 = .ok (.iconst 3, 1) := by decide +kernel
theorem dX8_init_9 : decode cX8_init 9 = .ok (.iand, 1) := by decide +kernel
theorem dX8_init_10 : decode cX8_init 10 = .ok (.iaload, 1) := by decide +kernel
theorem dX8_init_11 : decode cX8_init 11 = .ok (.istore_n 2, 1) := by decide +kernel
theorem dX8_init_12 : decode cX8_init 12 = .ok (.aload_n 0, 1) := by decide +kernel
theorem dX8_init_13 : decode cX8_init 13 = .ok (.iload_n 2, 1) := by decide +kernel
theorem dX8_init_14 : decode cX8_init 14 = .ok (.newarray .int, 2) := by decide +kernel
theorem dX8_init_16 : decode cX8_init 16 = .ok (.putfield 13, 3) := by decide +kernel
theorem dX8_init_19 : decode cX8_init 19 = .ok (.aload_n 0, 1) := by decide +kernel
theorem dX8_init_20 : decode cX8_init 20 = .ok (.iload_n 2, 1) := by decide +kernel
theorem dX8_init_21 : decode cX8_init 21 = .ok (.newarray .int, 2) := by decide +kernel
theorem dX8_init_23 : decode cX8_init 23 = .ok (.putfield 18, 3) := by decide +kernel
theorem dX8_init_26 : decode cX8_init 26 = .ok (.aload_n 0, 1) := by decide +kernel
theorem dX8_init_27 : decode cX8_init 27 = .ok (.iload_n 1, 1) := by decide +kernel
theorem dX8_init_28 : decode cX8_init 28 = .ok (.ifCond .ne 7, 3) := by decide +kernel
theorem dX8_init_31 : decode cX8_init 31 = .ok (.iload_n 2, 1) := by decide +kernel
theorem dX8_init_32 : decode cX8_init 32 = .ok (.goto 4, 3) := by decide +kernel
theorem dX8_init_35 : decode cX8_init 35 = .ok (.iconst 0, 1) := by decide +kernel
theorem dX8_init_36 : decode cX8_init 36 = .ok (.newarray .int, 2) := by decide +kernel
theorem dX8_init_38 : decode cX8_init 38 = .ok (.putfield 21, 3) := by decide +kernel
theorem dX8_init_41 : decode cX8_init 41 = .ok (.return_, 1) := by decide +kernel
theorem dX8_become_0 : decode cX8_become 0 = .ok (.aload_n 0, 1) := by decide +kernel
theorem dX8_become_1 : decode cX8_become 1 = .ok (.aload_n 1, 1) := by decide +kernel
theorem dX8_become_2 : decode cX8_become 2 = .ok (.getfield 24, 3) := by decide +kernel
theorem dX8_become_5 : decode cX8_become 5 = .ok (.putfield 24, 3) := by decide +kernel
theorem dX8_become_8 : decode cX8_become 8 = .ok (.aload_n 1, 1) := by decide +kernel
theorem dX8_become_9 : decode cX8_become 9 = .ok (.getfield 13, 3) := by decide +kernel
theorem dX8_become_12 : decode cX8_become 12 = .ok (.iconst 0, 1) := by decide +kernel
theorem dX8_become_13 : decode cX8_become 13 = .ok (.aload_n 0, 1) := by decide +kernel
theorem dX8_become_14 : decode cX8_become 14 = .ok (.getfield 13, 3) := by decide +kernel
theorem dX8_become_17 : decode cX8_become 17 = .ok (.iconst 0, 1) := by decide +kernel
theorem dX8_become_18 : decode cX8_become 18 = .ok (.aload_n 0, 1) := by decide +kernel
theorem dX8_become_19 : decode cX8_become 19 = .ok (.getfield 13, 3) := by decide +kernel
theorem dX8_become_22 : decode cX8_become 22 = .ok (.arraylength, 1) := by decide +kernel
theorem dX8_become_23 : decode cX8_become 23 = .ok (.aload_n 1, 1) := by decide +kernel
theorem dX8_become_24 : decode cX8_become 24 = .ok (.getfield 13, 3) := by decide +kernel
theorem dX8_become_27 : decode cX8_become 27 = .ok (.arraylength, 1) := by decide +kernel
theorem dX8_become_28 : decode cX8_become 28 = .ok (.invokestatic 28, 3) := by decide +kernel
theorem dX8_become_31 : decode cX8_become 31 = .ok (.invokestatic 34, 3) := by decide +kernel
theorem dX8_become_34 : decode cX8_become 34 = .ok (.aload_n 1, 1) := by decide +kernel
theorem dX8_become_35 : decode cX8_become 35 = .ok (.getfield 18, 3) := by decide +kernel
theorem dX8_become_38 : decode cX8_become 38 = .ok (.iconst 0, 1) := by decide +kernel
theorem dX8_become_39 : decode cX8_become 39 = .ok (.aload_n 0, 1) := by decide +kernel
theorem dX8_become_40 : decode cX8_become 40 = .ok (.getfield 18, 3) := by decide +kernel
theorem dX8_become_43 : decode cX8_become 43 = .ok (.iconst 0, 1) := by decide +kernel
theorem dX8_become_44 : decode cX8_become 44 = .ok (.aload_n 0, 1) := by decide +kernel
theorem dX8_become_45 : decode cX8_become 45 = .ok (.getfield 18, 3) := by decide +kernel
theorem dX8_become_48 : decode cX8_become 48 = .ok (.arraylength, 1) := by decide +kernel
theorem dX8_become_49 : decode cX8_become 49 = .ok (.aload_n 1, 1) := by decide +kernel
theorem dX8_become_50 : decode cX8_become 50 = .ok (.getfield 18, 3) := by decide +kernel
theorem dX8_become_53 : decode cX8_become 53 = .ok (.arraylength, 1) := by decide +kernel
theorem dX8_become_54 : decode cX8_become 54 = .ok (.invokestatic 28, 3) := by decide +kernel
theorem dX8_become_57 : decode cX8_become 57 = .ok (.invokestatic 34, 3) := by decide +kernel
theorem dX8_become_60 : decode cX8_become 60 = .ok (.aload_n 1, 1) := by decide +kernel
theorem dX8_become_61 : decode cX8_become 61 = .ok (.getfield 21, 3) := by decide +kernel
theorem dX8_become_64 : decode cX8_become 64 = .ok (.iconst 0, 1) := by decide +kernel
theorem dX8_become_65 : decode cX8_become 65 = .ok (.aload_n 0, 1) := by decide +kernel
theorem dX8_become_66 : decode cX8_become 66 = .ok (.getfield 21, 3) := by decide +kernel
theorem dX8_become_69 : decode cX8_become 69 = .ok (.iconst 0, 1) := by decide +kernel
theorem dX8_become_70 : decode cX8_become 70 = .ok (.aload_n 0, 1) := by decide +kernel
theorem dX8_become_71 : decode cX8_become 71 = .ok (.getfield 21, 3) := by decide +kernel
theorem dX8_become_74 : decode cX8_become 74 = .ok (.arraylength, 1) := by decide +kernel
theorem dX8_become_75 : decode cX8_become 75 = .ok (.aload_n 1, 1) := by decide +kernel
theorem dX8_become_76 : decode cX8_become 76 = .ok (.getfield 21, 3) := by decide +kernel
theorem dX8_become_79 : decode cX8_become 79 = .ok (.arraylength, 1) := by decide +kernel
theorem dX8_become_80 : decode cX8_become 80 = .ok (.invokestatic 28, 3) := by decide +kernel
theorem dX8_become_83 : decode cX8_become 83 = .ok (.invokestatic 34, 3) := by decide +kernel
theorem dX8_become_86 : decode cX8_become 86 = .ok (.return_, 1) := by decide +kernel
set_option maxRecDepth 20000 in
theorem ggX9_init_X8_init : GoodIn wsX9_init wsX8_init := goodIn_r _ [14, 15, 2, 3, 4, 16, 17, 18, 25, 26, 27, 28] (by decide +kernel) (by decide +kernel)
set_option maxRecDepth 20000 in
theorem gX9_init_X8_init : GoodIn wsX9_init (wsX8_init) := ggX9_init_X8_init
theorem dX9_init_0 : decode cX9_init 0 = .ok (.aload_n 0, 1) := by decide +kernel
theorem dX9_init_1 : decode cX9_init 1 = .ok (.invokespecial 3, 3) := by decide +kernel
theorem dX9_init_4 : decode cX9_init 4 = .ok (.aload_n 0, 1) := by decide +kernel
theorem dX9_init_5 : decode cX9_init 5 = .ok (.sipush 600, 3) := by decide +kernel
theorem dX9_init_8 : decode cX9_init 8 = .ok (.newarray .int, 2) := by decide +kernel
theorem dX9_init_10 : decode cX9_init 10 = .ok (.putfield 9, 3) := by decide +kernel
theorem dX9_init_13 : decode cX9_init 13 = .ok (.aload_n 0, 1) := by decide +kernel
theorem dX9_init_14 : decode cX9_init 14 = .ok (.iconst (-1), 1) := by decide +kernel
theorem dX9_init_15 : decode cX9_init 15 = .ok (.putfield 15, 3) := by decide +kernel
theorem dX9_init_18 : decode cX9_init 18 = .ok (.aload_n 0, 1) := by decide +kernel
theorem dX9_init_19 : decode cX9_init 19 = .ok (.iconst 4, 1) := by decide +kernel
theorem dX9_init_20 : decode cX9_init 20 = .ok (.newarray .int, 2) := by decide +kernel
theorem dX9_init_22 : decode cX9_init 22 = .ok (.putfield 19, 3) := by decide +kernel
theorem dX9_init_25 : decode cX9_init 25 = .ok (.aload_n 0, 1) := by decide +kernel
theorem dX9_init_26 : decode cX9_init 26 = .ok (.bipush 8, 2) := by decide +kernel
theorem dX9_init_28 : decode cX9_init 28 = .ok (.anewarray 22, 3) := by decide +kernel
theorem dX9_init_31 : decode cX9_init 31 = .ok (.putfield 24, 3) := by decide +kernel
theorem dX9_init_34 : decode cX9_init 34 = .ok (.iconst 0, 1) := by decide +kernel
theorem dX9_init_35 : decode cX9_init 35 = .ok (.istore_n 1, 1) := by decide +kernel
theorem dX9_init_36 : decode cX9_init 36 = .ok (.iload_n 1, 1) := by decide +kernel
theorem dX9_init_37 : decode cX9_init 37 = .ok (.aload_n 0, 1) := by decide +kernel
theorem dX9_init_38 : decode cX9_init 38 = .ok (.getfield 24, 3) := by decide +kernel
theorem dX9_init_41 : decode cX9_init 41 = .ok (.arraylength, 1) := by decide +kernel
theorem dX9_init_42 : decode cX9_init 42 = .ok (.if_icmp .ge 25, 3) := by decide +kernel
theorem dX9_init_45 : decode cX9_init 45 = .ok (.aload_n 0, 1) := by decide +kernel
theorem dX9_init_46 : decode cX9_init 46 = .ok (.getfield 24, 3) := by decide +kernel
theorem dX9_init_49 : decode cX9_init 49 = .ok (.iload_n 1, 1) := by decide +kernel
theorem dX9_init_50 : decode cX9_init 50 = .ok (.new 22, 3) := by decide +kernel
theorem dX9_init_53 : decode cX9_init 53 = .ok (.dup, 1) := by decide +kernel
theorem dX9_init_54 : decode cX9_init 54 = .ok (.iload_n 1, 1) := by decide +kernel
theorem dX9_init_55 : decode cX9_init 55 = .ok (.iconst 2, 1) := by decide +kernel
theorem dX9_init_56 : decode cX9_init 56 = .ok (.idiv, 1) := by decide +kernel
theorem dX9_init_57 : decode cX9_init 57 = .ok (.invokespecial 28, 3) := by decide +kernel
theorem dX9_init_60 : decode cX9_init 60 = .ok (.aastore, 1) := by decide +kernel
theorem dX9_init_61 : decode cX9_init 61 = .ok (.iinc 1 1, 3) := by decide +kernel
theorem dX9_init_64 : decode cX9_init 64 = .ok (.goto (-28), 3) := by decide +kernel
theorem dX9_init_67 : decode cX9_init 67 = .ok (.return_, 1) := by decide +kernel
theorem dX9_push_0 : decode cX9_push 0 = .ok (.bipush 24, 2) := by decide +kernel
theorem dX9_push_2 : decode cX9_push 2 = .ok (.istore_n 2, 1) := by decide +kernel
theorem dX9_push_3 : decode cX9_push 3 = .ok (.iload_n 2, 1) := by decide +kernel
theorem dX9_push_4 : decode cX9_push 4 = .ok (.ifCond .lt 45, 3) := by decide +kernel
theorem dX9_push_7 : decode cX9_push 7 = .ok (.aload_n 0, 1) := by decide +kernel
theorem dX9_push_8 : decode cX9_push 8 = .ok (.getfield 31, 3) := by decide +kernel
theorem dX9_push_11 : decode cX9_push 11 = .ok (.sipush 600, 3) := by decide +kernel
theorem dX9_push_14 : decode cX9_push 14 = .ok (.if_icmp .ge 29, 3) := by decide +kernel
theorem dX9_push_17 : decode cX9_push 17 = .ok (.aload_n 0, 1) := by decide +kernel
theorem dX9_push_18 : decode cX9_push 18 = .ok (.getfield 9, 3) := by decide +kernel
theorem dX9_push_21 : decode cX9_push 21 = .ok (.aload_n 0, 1) := by decide +kernel
theorem dX9_push_22 : decode cX9_push 22 = .ok (.getfield 31, 3) := by decide +kernel
theorem dX9_push_25 : decode cX9_push 25 = .ok (.iload_n 1, 1) := by decide +kernel
theorem dX9_push_26 : decode cX9_push 26 = .ok (.iload_n 2, 1) := by decide +kernel
theorem dX9_push_27 : decode cX9_push 27 = .ok (.iushr, 1) := by decide +kernel
theorem dX9_push_28 : decode cX9_push 28 = .ok (.sipush 255, 3) := by decide +kernel
theorem dX9_push_31 : decode cX9_push 31 = .ok (.iand, 1) := by decide +kernel
theorem dX9_push_32 : decode cX9_push 32 = .ok (.iastore, 1) := by decide +kernel
theorem dX9_push_33 : decode cX9_push 33 = .ok (.aload_n 0, 1) := by decide +kernel
theorem dX9_push_34 : decode cX9_push 34 = .ok (.dup, 1) := by decide +kernel
theorem dX9_push_35 : decode cX9_push 35 = .ok (.getfield 31, 3) := by decide +kernel
theorem dX9_push_38 : decode cX9_push 38 = .ok (.iconst 1, 1) := by decide +kernel
theorem dX9_push_39 : decode cX9_push 39 = .ok (.iadd, 1) := by decide +kernel
theorem dX9_push_40 : decode cX9_push 40 = .ok (.putfield 31, 3) := by decide +kernel
theorem dX9_push_43 : decode cX9_push 43 = .ok (.iinc 2 (-8), 3) := by decide +kernel
theorem dX9_push_46 : decode cX9_push 46 = .ok (.goto (-43), 3) := by decide +kernel
theorem dX9_push_49 : decode cX9_push 49 = .ok (.return_, 1) := by decide +kernel
theorem dX9_find_0 : decode cX9_find 0 = .ok (.iload_n 2, 1) := by decide +kernel
theorem dX9_find_1 : decode cX9_find 1 = .ok (.ifCond .lt 30, 3) := by decide +kernel
theorem dX9_find_4 : decode cX9_find 4 = .ok (.iload_n 2, 1) := by decide +kernel
theorem dX9_find_5 : decode cX9_find 5 = .ok (.aload_n 0, 1) := by decide +kernel
theorem dX9_find_6 : decode cX9_find 6 = .ok (.getfield 19, 3) := by decide +kernel
theorem dX9_find_9 : decode cX9_find 9 = .ok (.iload_n 1, 1) := by decide +kernel
theorem dX9_find_10 : decode cX9_find 10 = .ok (.iconst 3, 1) := by decide +kernel
theorem dX9_find_11 : decode cX9_find 11 = .ok (.iand, 1) := by decide +kernel
theorem dX9_find_12 : decode cX9_find 12 = .ok (.iaload, 1) := by decide +kernel
theorem dX9_find_13 : decode cX9_find 13 = .ok (.if_icmp .ge 18, 3) := by decide +kernel
theorem dX9_find_16 : decode cX9_find 16 = .ok (.aload_n 0, 1) := by decide +kernel
theorem dX9_find_17 : decode cX9_find 17 = .ok (.getfield 24, 3) := by decide +kernel
theorem dX9_find_20 : decode cX9_find 20 = .ok (.iload_n 1, 1) := by decide +kernel
theorem dX9_find_21 : decode cX9_find 21 = .ok (.iconst 3, 1) := by decide +kernel
theorem dX9_find_22 : decode cX9_find 22 = .ok (.iand, 1) := by decide +kernel
theorem dX9_find_23 : decode cX9_find 23 = .ok (.iconst 2, 1) := by decide +kernel
theorem dX9_find_24 : decode cX9_find 24 = .ok (.imul, 1) := by decide +kernel
theorem dX9_find_25 : decode cX9_find 25 = .ok (.iload_n 2, 1) := by decide +kernel
theorem dX9_find_26 : decode cX9_find 26 = .ok (.iadd, 1) := by decide +kernel
theorem dX9_find_27 : decode cX9_find 27 = .ok (.aaload, 1) := by decide +kernel
theorem dX9_find_28 : decode cX9_find 28 = .ok (.goto 4, 3) := by decide +kernel
theorem dX9_find_31 : decode cX9_find 31 = .ok (.aconst_null, 1) := by decide +kernel
theorem dX9_find_32 : decode cX9_find 32 = .ok (.areturn, 1) := by decide +kernel
theorem dX9_numberFor_0 : decode cX9_numberFor 0 = .ok (.iload_n 1, 1) := by decide +kernel
theorem dX9_numberFor_1 : decode cX9_numberFor 1 = .ok (.ifCond .lt 8, 3) := by decide +kernel
theorem dX9_numberFor_4 : decode cX9_numberFor 4 = .ok (.iload_n 1, 1) := by decide +kernel
theorem dX9_numberFor_5 : decode cX9_numberFor 5 = .ok (.iconst 4, 1) := by decide +kernel
theorem dX9_numberFor_6 : decode cX9_numberFor 6 = .ok (.if_icmp .lt 5, 3) := by decide +kernel
theorem dX9_numberFor_9 : decode cX9_numberFor 9 = .ok (.iconst (-1), 1) := by decide +kernel
theorem dX9_numberFor_10 : decode cX9_numberFor 10 = .ok (.ireturn, 1) := by decide +kernel
theorem dX9_numberFor_11 : decode cX9_numberFor 11 = .ok (.iload_n 2, 1) := by decide +kernel
theorem dX9_numberFor_12 : decode cX9_numberFor 12 = .ok (.iconst (-1), 1) := by decide +kernel
theorem dX9_numberFor_13 : decode cX9_numberFor 13 = .ok (.if_icmp .ne 24, 3) := by decide +kernel
theorem dX9_numberFor_16 : decode cX9_numberFor 16 = .ok (.aload_n 0, 1) := by decide +kernel
theorem dX9_numberFor_17 : decode cX9_numberFor 17 = .ok (.getfield 19, 3) := by decide +kernel
theorem dX9_numberFor_20 : decode cX9_numberFor 20 = .ok (.iload_n 1, 1) := by decide +kernel
theorem dX9_numberFor_21 : decode cX9_numberFor 21 = .ok (.iaload, 1) := by decide +kernel
theorem dX9_numberFor_22 : decode cX9_numberFor 22 = .ok (.iconst 2, 1) := by decide +kernel
theorem dX9_numberFor_23 : decode cX9_numberFor 23 = .ok (.if_icmp .ge 12, 3) := by decide +kernel
theorem dX9_numberFor_26 : decode cX9_numberFor 26 = .ok (.aload_n 0, 1) := by decide +kernel
theorem dX9_numberFor_27 : decode cX9_numberFor 27 = .ok (.getfield 19, 3) := by decide +kernel
theorem dX9_numberFor_30 : decode cX9_numberFor 30 = .ok (.iload_n 1, 1) := by decide +kernel
theorem dX9_numberFor_31 : decode cX9_numberFor 31 = .ok (.iaload, 1) := by decide +kernel
theorem dX9_numberFor_32 : decode cX9_numberFor 32 = .ok (.goto 4, 3) := by decide +kernel
theorem dX9_numberFor_35 : decode cX9_numberFor 35 = .ok (.iconst (-1), 1) := by decide +kernel
theorem dX9_numberFor_36 : decode cX9_numberFor 36 = .ok (.ireturn, 1) := by decide +kernel
theorem dX9_numberFor_37 : decode cX9_numberFor 37 = .ok (.iload_n 2, 1) := by decide +kernel
theorem dX9_numberFor_38 : decode cX9_numberFor 38 = .ok (.ifCond .lt 17, 3) := by decide +kernel
theorem dX9_numberFor_41 : decode cX9_numberFor 41 = .ok (.iload_n 2, 1) := by decide +kernel
theorem dX9_numberFor_42 : decode cX9_numberFor 42 = .ok (.aload_n 0, 1) := by decide +kernel
theorem dX9_numberFor_43 : decode cX9_numberFor 43 = .ok (.getfield 19, 3) := by decide +kernel
theorem dX9_numberFor_46 : decode cX9_numberFor 46 = .ok (.iload_n 1, 1) := by decide +kernel
theorem dX9_numberFor_47 : decode cX9_numberFor 47 = .ok (.iaload, 1) := by decide +kernel
theorem dX9_numberFor_48 : decode cX9_numberFor 48 = .ok (.if_icmp .ge 7, 3) := by decide +kernel
theorem dX9_numberFor_51 : decode cX9_numberFor 51 = .ok (.iload_n 2, 1) := by decide +kernel
theorem dX9_numberFor_52 : decode cX9_numberFor 52 = .ok (.goto 4, 3) := by decide +kernel
theorem dX9_numberFor_55 : decode cX9_numberFor 55 = .ok (.iconst (-1), 1) := by decide +kernel
theorem dX9_numberFor_56 : decode cX9_numberFor 56 = .ok (.ireturn, 1) := by decide +kernel
set_option maxRecDepth 20000 in
theorem ggX9_keep_X8_become : GoodIn wsX9_keep wsX8_become := goodIn_r _ [11, 12, 13, 14, 15, 5, 16, 17, 18, 19, 20, 21, 22, 29, 30, 31, 32] (by decide +kernel) (by decide +kernel)
set_option maxRecDepth 20000 in
theorem gX9_keep_X8_become : GoodIn wsX9_keep (wsV RX9 34 RX8 yX8_become wsX8_become) := goodIn_app (goodIn_of _ (by decide +kernel)) ggX9_keep_X8_become
theorem dX9_keep_0 : decode cX9_keep 0 = .ok (.iload_n 1, 1) := by decide +kernel
theorem dX9_keep_1 : decode cX9_keep 1 = .ok (.ifCond .lt 17, 3) := by decide +kernel
theorem dX9_keep_4 : decode cX9_keep 4 = .ok (.iload_n 1, 1) := by decide +kernel
theorem dX9_keep_5 : decode cX9_keep 5 = .ok (.iconst 4, 1) := by decide +kernel
theorem dX9_keep_6 : decode cX9_keep 6 = .ok (.if_icmp .ge 12, 3) := by decide +kernel
theorem dX9_keep_9 : decode cX9_keep 9 = .ok (.iload_n 2, 1) := by decide +kernel
theorem dX9_keep_10 : decode cX9_keep 10 = .ok (.ifCond .lt 8, 3) := by decide +kernel
theorem dX9_keep_13 : decode cX9_keep 13 = .ok (.iload_n 2, 1) := by decide +kernel
theorem dX9_keep_14 : decode cX9_keep 14 = .ok (.iconst 2, 1) := by decide +kernel
theorem dX9_keep_15 : decode cX9_keep 15 = .ok (.if_icmp .lt 4, 3) := by decide +kernel
theorem dX9_keep_18 : decode cX9_keep 18 = .ok (.return_, 1) := by decide +kernel
theorem dX9_keep_19 : decode cX9_keep 19 = .ok (.aload_n 0, 1) := by decide +kernel
theorem dX9_keep_20 : decode cX9_keep 20 = .ok (.getfield 24, 3) := by decide +kernel
theorem dX9_keep_23 : decode cX9_keep 23 = .ok (.iload_n 1, 1) := by decide +kernel
theorem dX9_keep_24 : decode cX9_keep 24 = .ok (.iconst 2, 1) := by decide +kernel
theorem dX9_keep_25 : decode cX9_keep 25 = .ok (.imul, 1) := by decide +kernel
theorem dX9_keep_26 : decode cX9_keep 26 = .ok (.iload_n 2, 1) := by decide +kernel
theorem dX9_keep_27 : decode cX9_keep 27 = .ok (.iadd, 1) := by decide +kernel
theorem dX9_keep_28 : decode cX9_keep 28 = .ok (.aaload, 1) := by decide +kernel
theorem dX9_keep_29 : decode cX9_keep 29 = .ok (.aload_n 3, 1) := by decide +kernel
theorem dX9_keep_30 : decode cX9_keep 30 = .ok (.invokevirtual 34, 3) := by decide +kernel
theorem dX9_keep_33 : decode cX9_keep 33 = .ok (.aload_n 0, 1) := by decide +kernel
theorem dX9_keep_34 : decode cX9_keep 34 = .ok (.getfield 19, 3) := by decide +kernel
theorem dX9_keep_37 : decode cX9_keep 37 = .ok (.iload_n 1, 1) := by decide +kernel
theorem dX9_keep_38 : decode cX9_keep 38 = .ok (.aload_n 0, 1) := by decide +kernel
theorem dX9_keep_39 : decode cX9_keep 39 = .ok (.getfield 19, 3) := by decide +kernel
theorem dX9_keep_42 : decode cX9_keep 42 = .ok (.iload_n 1, 1) := by decide +kernel
theorem dX9_keep_43 : decode cX9_keep 43 = .ok (.iaload, 1) := by decide +kernel
theorem dX9_keep_44 : decode cX9_keep 44 = .ok (.iload_n 2, 1) := by decide +kernel
theorem dX9_keep_45 : decode cX9_keep 45 = .ok (.iconst 1, 1) := by decide +kernel
theorem dX9_keep_46 : decode cX9_keep 46 = .ok (.iadd, 1) := by decide +kernel
theorem dX9_keep_47 : decode cX9_keep 47 = .ok (.invokestatic 38, 3) := by decide +kernel
theorem dX9_keep_50 : decode cX9_keep 50 = .ok (.iastore, 1) := by decide +kernel
theorem dX9_keep_51 : decode cX9_keep 51 = .ok (.return_, 1) := by decide +kernel
set_option maxRecDepth 20000 in
theorem ggX9_become_X8_become : GoodIn wsX9_become wsX8_become := goodIn_r _ [15, 16, 17, 18, 19, 20, 21, 22, 3, 4, 5, 23, 24, 31, 32, 33, 34] (by decide +kernel) (by decide +kernel)
set_option maxRecDepth 20000 in
theorem gX9_become_X8_become : GoodIn wsX9_become (wsV RX9 34 RX8 yX8_become wsX8_become) := goodIn_app (goodIn_of _ (by decide +kernel)) ggX9_become_X8_become
theorem dX9_become_0 : decode cX9_become 0 = .ok (.aload_n 1, 1) := by decide +kernel
theorem dX9_become_1 : decode cX9_become 1 = .ok (.getfield 9, 3) := by decide +kernel
theorem dX9_become_4 : decode cX9_become 4 = .ok (.iconst 0, 1) := by decide +kernel
theorem dX9_become_5 : decode cX9_become 5 = .ok (.aload_n 0, 1) := by decide +kernel
theorem dX9_become_6 : decode cX9_become 6 = .ok (.getfield 9, 3) := by decide +kernel
theorem dX9_become_9 : decode cX9_become 9 = .ok (.iconst 0, 1) := by decide +kernel
theorem dX9_become_10 : decode cX9_become 10 = .ok (.sipush 600, 3) := by decide +kernel
theorem dX9_become_13 : decode cX9_become 13 = .ok (.invokestatic 44, 3) := by decide +kernel
theorem dX9_become_16 : decode cX9_become 16 = .ok (.aload_n 0, 1) := by decide +kernel
theorem dX9_become_17 : decode cX9_become 17 = .ok (.aload_n 1, 1) := by decide +kernel
theorem dX9_become_18 : decode cX9_become 18 = .ok (.getfield 31, 3) := by decide +kernel
theorem dX9_become_21 : decode cX9_become 21 = .ok (.putfield 31, 3) := by decide +kernel
theorem dX9_become_24 : decode cX9_become 24 = .ok (.aload_n 0, 1) := by decide +kernel
theorem dX9_become_25 : decode cX9_become 25 = .ok (.aload_n 1, 1) := by decide +kernel
theorem dX9_become_26 : decode cX9_become 26 = .ok (.getfield 50, 3) := by decide +kernel
theorem dX9_become_29 : decode cX9_become 29 = .ok (.putfield 50, 3) := by decide +kernel
theorem dX9_become_32 : decode cX9_become 32 = .ok (.aload_n 0, 1) := by decide +kernel
theorem dX9_become_33 : decode cX9_become 33 = .ok (.aload_n 1, 1) := by decide +kernel
theorem dX9_become_34 : decode cX9_become 34 = .ok (.getfield 15, 3) := by decide +kernel
theorem dX9_become_37 : decode cX9_become 37 = .ok (.putfield 15, 3) := by decide +kernel
theorem dX9_become_40 : decode cX9_become 40 = .ok (.aload_n 1, 1) := by decide +kernel
theorem dX9_become_41 : decode cX9_become 41 = .ok (.getfield 19, 3) := by decide +kernel
theorem dX9_become_44 : decode cX9_become 44 = .ok (.iconst 0, 1) := by decide +kernel
theorem dX9_become_45 : decode cX9_become 45 = .ok (.aload_n 0, 1) := by decide +kernel
theorem dX9_become_46 : decode cX9_become 46 = .ok (.getfield 19, 3) := by decide +kernel
theorem dX9_become_49 : decode cX9_become 49 = .ok (.iconst 0, 1) := by decide +kernel
theorem dX9_become_50 : decode cX9_become 50 = .ok (.iconst 4, 1) := by decide +kernel
theorem dX9_become_51 : decode cX9_become 51 = .ok (.invokestatic 44, 3) := by decide +kernel
theorem dX9_become_54 : decode cX9_become 54 = .ok (.iconst 0, 1) := by decide +kernel
theorem dX9_become_55 : decode cX9_become 55 = .ok (.istore_n 2, 1) := by decide +kernel
theorem dX9_become_56 : decode cX9_become 56 = .ok (.iload_n 2, 1) := by decide +kernel
theorem dX9_become_57 : decode cX9_become 57 = .ok (.aload_n 0, 1) := by decide +kernel
theorem dX9_become_58 : decode cX9_become 58 = .ok (.getfield 24, 3) := by decide +kernel
theorem dX9_become_61 : decode cX9_become 61 = .ok (.arraylength, 1) := by decide +kernel
theorem dX9_become_62 : decode cX9_become 62 = .ok (.if_icmp .ge 24, 3) := by decide +kernel
theorem dX9_become_65 : decode cX9_become 65 = .ok (.aload_n 0, 1) := by decide +kernel
theorem dX9_become_66 : decode cX9_become 66 = .ok (.getfield 24, 3) := by decide +kernel
theorem dX9_become_69 : decode cX9_become 69 = .ok (.iload_n 2, 1) := by decide +kernel
theorem dX9_become_70 : decode cX9_become 70 = .ok (.aaload, 1) := by decide +kernel
theorem dX9_become_71 : decode cX9_become 71 = .ok (.aload_n 1, 1) := by decide +kernel
theorem dX9_become_72 : decode cX9_become 72 = .ok (.getfield 24, 3) := by decide +kernel
theorem dX9_become_75 : decode cX9_become 75 = .ok (.iload_n 2, 1) := by decide +kernel
theorem dX9_become_76 : decode cX9_become 76 = .ok (.aaload, 1) := by decide +kernel
theorem dX9_become_77 : decode cX9_become 77 = .ok (.invokevirtual 34, 3) := by decide +kernel
theorem dX9_become_80 : decode cX9_become 80 = .ok (.iinc 2 1, 3) := by decide +kernel
theorem dX9_become_83 : decode cX9_become 83 = .ok (.goto (-27), 3) := by decide +kernel
theorem dX9_become_86 : decode cX9_become 86 = .ok (.return_, 1) := by decide +kernel
theorem dX10_init_0 : decode cX10_init 0 = .ok (.aload_n 0, 1) := by decide +kernel
theorem dX10_init_1 : decode cX10_init 1 = .ok (.invokespecial 3, 3) := by decide +kernel
theorem dX10_init_4 : decode cX10_init 4 = .ok (.aload_n 0, 1) := by decide +kernel
theorem dX10_init_5 : decode cX10_init 5 = .ok (.bipush 31, 2) := by decide +kernel
theorem dX10_init_7 : decode cX10_init 7 = .ok (.newarray .int, 2) := by decide +kernel
theorem dX10_init_9 : decode cX10_init 9 = .ok (.putfield 9, 3) := by decide +kernel
theorem dX10_init_12 : decode cX10_init 12 = .ok (.aload_n 0, 1) := by decide +kernel
theorem dX10_init_13 : decode cX10_init 13 = .ok (.aload_n 1, 1) := by decide +kernel
theorem dX10_init_14 : decode cX10_init 14 = .ok (.putfield 15, 3) := by decide +kernel
theorem dX10_init_17 : decode cX10_init 17 = .ok (.aload_n 0, 1) := by decide +kernel
theorem dX10_init_18 : decode cX10_init 18 = .ok (.getstatic 19, 3) := by decide +kernel
theorem dX10_init_21 : decode cX10_init 21 = .ok (.iconst 0, 1) := by decide +kernel
theorem dX10_init_22 : decode cX10_init 22 = .ok (.iconst 4, 1) := by decide +kernel
theorem dX10_init_23 : decode cX10_init 23 = .ok (.iload_n 2, 1) := by decide +kernel
theorem dX10_init_24 : decode cX10_init 24 = .ok (.invokestatic 22, 3) := by decide +kernel
theorem dX10_init_27 : decode cX10_init 27 = .ok (.invokestatic 28, 3) := by decide +kernel
theorem dX10_init_30 : decode cX10_init 30 = .ok (.iaload, 1) := by decide +kernel
theorem dX10_init_31 : decode cX10_init 31 = .ok (.newarray .int, 2) := by decide +kernel
theorem dX10_init_33 : decode cX10_init 33 = .ok (.putfield 31, 3) := by decide +kernel
theorem dX10_init_36 : decode cX10_init 36 = .ok (.aload_n 0, 1) := by decide +kernel
theorem dX10_init_37 : decode cX10_init 37 = .ok (.aload_n 0, 1) := by decide +kernel
theorem dX10_init_38 : decode cX10_init 38 = .ok (.getfield 31, 3) := by decide +kernel
theorem dX10_init_41 : decode cX10_init 41 = .ok (.arraylength, 1) := by decide +kernel
theorem dX10_init_42 : decode cX10_init 42 = .ok (.newarray .int, 2) := by decide +kernel
theorem dX10_init_44 : decode cX10_init 44 = .ok (.putfield 34, 3) := by decide +kernel
theorem dX10_init_47 : decode cX10_init 47 = .ok (.aload_n 0, 1) := by decide +kernel
theorem dX10_init_48 : decode cX10_init 48 = .ok (.aload_n 0, 1) := by decide +kernel
theorem dX10_init_49 : decode cX10_init 49 = .ok (.getfield 31, 3) := by decide +kernel
theorem dX10_init_52 : decode cX10_init 52 = .ok (.arraylength, 1) := by decide +kernel
theorem dX10_init_53 : decode cX10_init 53 = .ok (.bipush 16, 2) := by decide +kernel
theorem dX10_init_55 : decode cX10_init 55 = .ok (.imul, 1) := by decide +kernel
theorem dX10_init_56 : decode cX10_init 56 = .ok (.newarray .int, 2) := by decide +kernel
theorem dX10_init_58 : decode cX10_init 58 = .ok (.putfield 37, 3) := by decide +kernel
theorem dX10_init_61 : decode cX10_init 61 = .ok (.aload_n 0, 1) := by decide +kernel
theorem dX10_init_62 : decode cX10_init 62 = .ok (.aload_n 0, 1) := by decide +kernel
theorem dX10_init_63 : decode cX10_init 63 = .ok (.getfield 31, 3) := by decide +kernel
theorem dX10_init_66 : decode cX10_init 66 = .ok (.arraylength, 1) := by decide +kernel
theorem dX10_init_67 : decode cX10_init 67 = .ok (.newarray .int, 2) := by decide +kernel
theorem dX10_init_69 : decode cX10_init 69 = .ok (.putfield 40, 3) := by decide +kernel
theorem dX10_init_72 : decode cX10_init 72 = .ok (.aload_n 0, 1) := by decide +kernel
theorem dX10_init_73 : decode cX10_init 73 = .ok (.aload_n 0, 1) := by decide +kernel
theorem dX10_init_74 : decode cX10_init 74 = .ok (.getfield 31, 3) := by decide +kernel
theorem dX10_init_77 : decode cX10_init 77 = .ok (.arraylength, 1) := by decide +kernel
theorem dX10_init_78 : decode cX10_init 78 = .ok (.newarray .int, 2) := by decide +kernel
theorem dX10_init_80 : decode cX10_init 80 = .ok (.putfield 43, 3) := by decide +kernel
theorem dX10_init_83 : decode cX10_init 83 = .ok (.return_, 1) := by decide +kernel
set_option maxRecDepth 20000 in
theorem ggX10_explore_X10_add : GoodIn wsX10_explore wsX10_add := goodIn_r _ [15, 8, 10, 1, 7, 16, 17, 4, 18, 56, 57, 58, 59, 60, 61, 62, 63, 64, 65, 66] (by decide +kernel) (by decide +kernel)
set_option maxRecDepth 20000 in
theorem gX10_explore_X10_add : GoodIn wsX10_explore (wsV RX10 53 RX10 yX10_add wsX10_add) := goodIn_app (goodIn_of _ (by decide +kernel)) ggX10_explore_X10_add
set_option maxRecDepth 20000 in
theorem ggX10_explore_X11_turned : GoodIn wsX10_explore wsX11_turned := goodIn_r _ [21, 22] (by decide +kernel) (by decide +kernel)
set_option maxRecDepth 20000 in
theorem gX10_explore_X11_turned_n57 : GoodIn wsX10_explore (wsX11_turned) := ggX10_explore_X11_turned
set_option maxRecDepth 20000 in
theorem ggX10_explore_X7_from : GoodIn wsX10_explore wsX7_from := goodIn_r _ [27, 28, 29, 30, 26, 31, 32, 17, 4, 18, 65, 66] (by decide +kernel) (by decide +kernel)
set_option maxRecDepth 20000 in
theorem gX10_explore_X7_from : GoodIn wsX10_explore (wsV RX10 61 RX7 yX7_from wsX7_from) := goodIn_app (goodIn_of _ (by decide +kernel)) ggX10_explore_X7_from
set_option maxRecDepth 20000 in
theorem ggX10_explore_X10_findMinutes : GoodIn wsX10_explore wsX10_findMinutes := goodIn_r _ [36, 37, 38, 1, 39, 40, 41, 42, 43, 44, 45, 46, 47, 48, 49, 50, 51, 52, 53, 14, 54, 6, 9, 55, 56, 57, 58, 59, 60, 61, 62, 63, 64] (by decide +kernel) (by decide +kernel)
set_option maxRecDepth 20000 in
theorem gX10_explore_X10_findMinutes : GoodIn wsX10_explore (wsV RX10 69 RX10 yX10_findMinutes wsX10_findMinutes) := goodIn_app (goodIn_of _ (by decide +kernel)) ggX10_explore_X10_findMinutes
theorem dX10_explore_0 : decode cX10_explore 0 = .ok (.aload_n 0, 1) := by decide +kernel
theorem dX10_explore_1 : decode cX10_explore 1 = .ok (.iconst 0, 1) := by decide +kernel
theorem dX10_explore_2 : decode cX10_explore 2 = .ok (.putfield 46, 3) := by decide +kernel
theorem dX10_explore_5 : decode cX10_explore 5 = .ok (.aload_n 0, 1) := by decide +kernel
theorem dX10_explore_6 : decode cX10_explore 6 = .ok (.bipush 16, 2) := by decide +kernel
theorem dX10_explore_8 : decode cX10_explore 8 = .ok (.iload_n 3, 1) := by decide +kernel
theorem dX10_explore_9 : decode cX10_explore 9 = .ok (.iconst 1, 1) := by decide +kernel
theorem dX10_explore_10 : decode cX10_explore 10 = .ok (.iadd, 1) := by decide +kernel
theorem dX10_explore_11 : decode cX10_explore 11 = .ok (.invokestatic 22, 3) := by decide +kernel
theorem dX10_explore_14 : decode cX10_explore 14 = .ok (.putfield 50, 3) := by decide +kernel
theorem dX10_explore_17 : decode cX10_explore 17 = .ok (.aload_n 0, 1) := by decide +kernel
theorem dX10_explore_18 : decode cX10_explore 18 = .ok (.iload_n 2, 1) := by decide +kernel
theorem dX10_explore_19 : decode cX10_explore 19 = .ok (.invokevirtual 53, 3) := by decide +kernel
theorem dX10_explore_22 : decode cX10_explore 22 = .ok (.pop, 1) := by decide +kernel
theorem dX10_explore_23 : decode cX10_explore 23 = .ok (.iconst 0, 1) := by decide +kernel
theorem dX10_explore_24 : decode cX10_explore 24 = .ok (.istore 4, 2) := by decide +kernel
theorem dX10_explore_26 : decode cX10_explore 26 = .ok (.iload 4, 2) := by decide +kernel
theorem dX10_explore_28 : decode cX10_explore 28 = .ok (.aload_n 0, 1) := by decide +kernel
theorem dX10_explore_29 : decode cX10_explore 29 = .ok (.getfield 46, 3) := by decide +kernel
theorem dX10_explore_32 : decode cX10_explore 32 = .ok (.if_icmp .ge 117, 3) := by decide +kernel
theorem dX10_explore_35 : decode cX10_explore 35 = .ok (.iload 4, 2) := by decide +kernel
theorem dX10_explore_37 : decode cX10_explore 37 = .ok (.aload_n 0, 1) := by decide +kernel
theorem dX10_explore_38 : decode cX10_explore 38 = .ok (.getfield 31, 3) := by decide +kernel
theorem dX10_explore_41 : decode cX10_explore 41 = .ok (.arraylength, 1) := by decide +kernel
theorem dX10_explore_42 : decode cX10_explore 42 = .ok (.if_icmp .ge 107, 3) := by decide +kernel
theorem dX10_explore_45 : decode cX10_explore 45 = .ok (.iconst 0, 1) := by decide +kernel
theorem dX10_explore_46 : decode cX10_explore 46 = .ok (.istore 5, 2) := by decide +kernel
theorem dX10_explore_48 : decode cX10_explore 48 = .ok (.iload 5, 2) := by decide +kernel
theorem dX10_explore_50 : decode cX10_explore 50 = .ok (.aload_n 0, 1) := by decide +kernel
theorem dX10_explore_51 : decode cX10_explore 51 = .ok (.getfield 50, 3) := by decide +kernel
theorem dX10_explore_54 : decode cX10_explore 54 = .ok (.if_icmp .ge 89, 3) := by decide +kernel
theorem dX10_explore_57 : decode cX10_explore 57 = .ok (.iload 5, 2) := by decide +kernel
theorem dX10_explore_59 : decode cX10_explore 59 = .ok (.iload_n 3, 1) := by decide +kernel
theorem dX10_explore_60 : decode cX10_explore 60 = .ok (.iconst (-1), 1) := by decide +kernel
theorem dX10_explore_61 : decode cX10_explore 61 = .ok (.ixor, 1) := by decide +kernel
theorem dX10_explore_62 : decode cX10_explore 62 = .ok (.iand, 1) := by decide +kernel
theorem dX10_explore_63 : decode cX10_explore 63 = .ok (.ifCond .ne 26, 3) := by decide +kernel
theorem dX10_explore_66 : decode cX10_explore 66 = .ok (.aload_n 0, 1) := by decide +kernel
theorem dX10_explore_67 : decode cX10_explore 67 = .ok (.getfield 15, 3) := by decide +kernel
theorem dX10_explore_70 : decode cX10_explore 70 = .ok (.iload_n 1, 1) := by decide +kernel
theorem dX10_explore_71 : decode cX10_explore 71 = .ok (.aload_n 0, 1) := by decide +kernel
theorem dX10_explore_72 : decode cX10_explore 72 = .ok (.getfield 31, 3) := by decide +kernel
theorem dX10_explore_75 : decode cX10_explore 75 = .ok (.iload 4, 2) := by decide +kernel
theorem dX10_explore_77 : decode cX10_explore 77 = .ok (.iaload, 1) := by decide +kernel
theorem dX10_explore_78 : decode cX10_explore 78 = .ok (.iload 5, 2) := by decide +kernel
theorem dX10_explore_80 : decode cX10_explore 80 = .ok (.invokestatic 57, 3) := by decide +kernel
theorem dX10_explore_83 : decode cX10_explore 83 = .ok (.invokevirtual 61, 3) := by decide +kernel
theorem dX10_explore_86 : decode cX10_explore 86 = .ok (.goto 4, 3) := by decide +kernel
theorem dX10_explore_89 : decode cX10_explore 89 = .ok (.iconst 0, 1) := by decide +kernel
theorem dX10_explore_90 : decode cX10_explore 90 = .ok (.istore 6, 2) := by decide +kernel
theorem dX10_explore_92 : decode cX10_explore 92 = .ok (.iload 6, 2) := by decide +kernel
theorem dX10_explore_94 : decode cX10_explore 94 = .ok (.ifCond .ne 7, 3) := by decide +kernel
theorem dX10_explore_97 : decode cX10_explore 97 = .ok (.iconst 0, 1) := by decide +kernel
theorem dX10_explore_98 : decode cX10_explore 98 = .ok (.goto 13, 3) := by decide +kernel
theorem dX10_explore_101 : decode cX10_explore 101 = .ok (.aload_n 0, 1) := by decide +kernel
theorem dX10_explore_102 : decode cX10_explore 102 = .ok (.iload 6, 2) := by decide +kernel
theorem dX10_explore_104 : decode cX10_explore 104 = .ok (.sipush 4095, 3) := by decide +kernel
theorem dX10_explore_107 : decode cX10_explore 107 = .ok (.iand, 1) := by decide +kernel
theorem dX10_explore_108 : decode cX10_explore 108 = .ok (.invokevirtual 53, 3) := by decide +kernel
theorem dX10_explore_111 : decode cX10_explore 111 = .ok (.istore 7, 2) := by decide +kernel
theorem dX10_explore_113 : decode cX10_explore 113 = .ok (.aload_n 0, 1) := by decide +kernel
theorem dX10_explore_114 : decode cX10_explore 114 = .ok (.getfield 37, 3) := by decide +kernel
theorem dX10_explore_117 : decode cX10_explore 117 = .ok (.iload 4, 2) := by decide +kernel
theorem dX10_explore_119 : decode cX10_explore 119 = .ok (.bipush 16, 2) := by decide +kernel
theorem dX10_explore_121 : decode cX10_explore 121 = .ok (.imul, 1) := by decide +kernel
theorem dX10_explore_122 : decode cX10_explore 122 = .ok (.iload 5, 2) := by decide +kernel
theorem dX10_explore_124 : decode cX10_explore 124 = .ok (.iadd, 1) := by decide +kernel
theorem dX10_explore_125 : decode cX10_explore 125 = .ok (.iload 6, 2) := by decide +kernel
theorem dX10_explore_127 : decode cX10_explore 127 = .ok (.bipush 12, 2) := by decide +kernel
theorem dX10_explore_129 : decode cX10_explore 129 = .ok (.ishr, 1) := by decide +kernel
theorem dX10_explore_130 : decode cX10_explore 130 = .ok (.bipush 12, 2) := by decide +kernel
theorem dX10_explore_132 : decode cX10_explore 132 = .ok (.ishl, 1) := by decide +kernel
theorem dX10_explore_133 : decode cX10_explore 133 = .ok (.iload 7, 2) := by decide +kernel
theorem dX10_explore_135 : decode cX10_explore 135 = .ok (.ior, 1) := by decide +kernel
theorem dX10_explore_136 : decode cX10_explore 136 = .ok (.iastore, 1) := by decide +kernel
theorem dX10_explore_137 : decode cX10_explore 137 = .ok (.iinc 5 1, 3) := by decide +kernel
theorem dX10_explore_140 : decode cX10_explore 140 = .ok (.goto (-92), 3) := by decide +kernel
theorem dX10_explore_143 : decode cX10_explore 143 = .ok (.iinc 4 1, 3) := by decide +kernel
theorem dX10_explore_146 : decode cX10_explore 146 = .ok (.goto (-120), 3) := by decide +kernel
theorem dX10_explore_149 : decode cX10_explore 149 = .ok (.iconst 0, 1) := by decide +kernel
theorem dX10_explore_150 : decode cX10_explore 150 = .ok (.istore 4, 2) := by decide +kernel
theorem dX10_explore_152 : decode cX10_explore 152 = .ok (.iload 4, 2) := by decide +kernel
theorem dX10_explore_154 : decode cX10_explore 154 = .ok (.aload_n 0, 1) := by decide +kernel
theorem dX10_explore_155 : decode cX10_explore 155 = .ok (.getfield 46, 3) := by decide +kernel
theorem dX10_explore_158 : decode cX10_explore 158 = .ok (.if_icmp .ge 29, 3) := by decide +kernel
theorem dX10_explore_161 : decode cX10_explore 161 = .ok (.aload_n 0, 1) := by decide +kernel
theorem dX10_explore_162 : decode cX10_explore 162 = .ok (.getfield 15, 3) := by decide +kernel
theorem dX10_explore_165 : decode cX10_explore 165 = .ok (.getfield 66, 3) := by decide +kernel
theorem dX10_explore_168 : decode cX10_explore 168 = .ok (.aload_n 0, 1) := by decide +kernel
theorem dX10_explore_169 : decode cX10_explore 169 = .ok (.getfield 31, 3) := by decide +kernel
theorem dX10_explore_172 : decode cX10_explore 172 = .ok (.iload 4, 2) := by decide +kernel
theorem dX10_explore_174 : decode cX10_explore 174 = .ok (.iaload, 1) := by decide +kernel
theorem dX10_explore_175 : decode cX10_explore 175 = .ok (.sipush 4095, 3) := by decide +kernel
theorem dX10_explore_178 : decode cX10_explore 178 = .ok (.iand, 1) := by decide +kernel
theorem dX10_explore_179 : decode cX10_explore 179 = .ok (.iconst 0, 1) := by decide +kernel
theorem dX10_explore_180 : decode cX10_explore 180 = .ok (.iastore, 1) := by decide +kernel
theorem dX10_explore_181 : decode cX10_explore 181 = .ok (.iinc 4 1, 3) := by decide +kernel
theorem dX10_explore_184 : decode cX10_explore 184 = .ok (.goto (-32), 3) := by decide +kernel
theorem dX10_explore_187 : decode cX10_explore 187 = .ok (.aload_n 0, 1) := by decide +kernel
theorem dX10_explore_188 : decode cX10_explore 188 = .ok (.invokevirtual 69, 3) := by decide +kernel
theorem dX10_explore_191 : decode cX10_explore 191 = .ok (.return_, 1) := by decide +kernel
theorem dX10_add_0 : decode cX10_add 0 = .ok (.iload_n 1, 1) := by decide +kernel
theorem dX10_add_1 : decode cX10_add 1 = .ok (.sipush 4095, 3) := by decide +kernel
theorem dX10_add_4 : decode cX10_add 4 = .ok (.iand, 1) := by decide +kernel
theorem dX10_add_5 : decode cX10_add 5 = .ok (.istore_n 2, 1) := by decide +kernel
theorem dX10_add_6 : decode cX10_add 6 = .ok (.aload_n 0, 1) := by decide +kernel
theorem dX10_add_7 : decode cX10_add 7 = .ok (.getfield 15, 3) := by decide +kernel
theorem dX10_add_10 : decode cX10_add 10 = .ok (.getfield 66, 3) := by decide +kernel
theorem dX10_add_13 : decode cX10_add 13 = .ok (.iload_n 2, 1) := by decide +kernel
theorem dX10_add_14 : decode cX10_add 14 = .ok (.iaload, 1) := by decide +kernel
theorem dX10_add_15 : decode cX10_add 15 = .ok (.ifCond .ne 48, 3) := by decide +kernel
theorem dX10_add_18 : decode cX10_add 18 = .ok (.aload_n 0, 1) := by decide +kernel
theorem dX10_add_19 : decode cX10_add 19 = .ok (.getfield 46, 3) := by decide +kernel
theorem dX10_add_22 : decode cX10_add 22 = .ok (.aload_n 0, 1) := by decide +kernel
theorem dX10_add_23 : decode cX10_add 23 = .ok (.getfield 31, 3) := by decide +kernel
theorem dX10_add_26 : decode cX10_add 26 = .ok (.arraylength, 1) := by decide +kernel
theorem dX10_add_27 : decode cX10_add 27 = .ok (.if_icmp .ge 36, 3) := by decide +kernel
theorem dX10_add_30 : decode cX10_add 30 = .ok (.aload_n 0, 1) := by decide +kernel
theorem dX10_add_31 : decode cX10_add 31 = .ok (.getfield 31, 3) := by decide +kernel
theorem dX10_add_34 : decode cX10_add 34 = .ok (.aload_n 0, 1) := by decide +kernel
theorem dX10_add_35 : decode cX10_add 35 = .ok (.getfield 46, 3) := by decide +kernel
theorem dX10_add_38 : decode cX10_add 38 = .ok (.iload_n 2, 1) := by decide +kernel
theorem dX10_add_39 : decode cX10_add 39 = .ok (.iastore, 1) := by decide +kernel
theorem dX10_add_40 : decode cX10_add 40 = .ok (.aload_n 0, 1) := by decide +kernel
theorem dX10_add_41 : decode cX10_add 41 = .ok (.dup, 1) := by decide +kernel
theorem dX10_add_42 : decode cX10_add 42 = .ok (.getfield 46, 3) := by decide +kernel
theorem dX10_add_45 : decode cX10_add 45 = .ok (.iconst 1, 1) := by decide +kernel
theorem dX10_add_46 : decode cX10_add 46 = .ok (.iadd, 1) := by decide +kernel
theorem dX10_add_47 : decode cX10_add 47 = .ok (.putfield 46, 3) := by decide +kernel
theorem dX10_add_50 : decode cX10_add 50 = .ok (.aload_n 0, 1) := by decide +kernel
theorem dX10_add_51 : decode cX10_add 51 = .ok (.getfield 15, 3) := by decide +kernel
theorem dX10_add_54 : decode cX10_add 54 = .ok (.getfield 66, 3) := by decide +kernel
theorem dX10_add_57 : decode cX10_add 57 = .ok (.iload_n 2, 1) := by decide +kernel
theorem dX10_add_58 : decode cX10_add 58 = .ok (.aload_n 0, 1) := by decide +kernel
theorem dX10_add_59 : decode cX10_add 59 = .ok (.getfield 46, 3) := by decide +kernel
theorem dX10_add_62 : decode cX10_add 62 = .ok (.iastore, 1) := by decide +kernel
theorem dX10_add_63 : decode cX10_add 63 = .ok (.iconst 0, 1) := by decide +kernel
theorem dX10_add_64 : decode cX10_add 64 = .ok (.aload_n 0, 1) := by decide +kernel
theorem dX10_add_65 : decode cX10_add 65 = .ok (.getfield 15, 3) := by decide +kernel
theorem dX10_add_68 : decode cX10_add 68 = .ok (.getfield 66, 3) := by decide +kernel
theorem dX10_add_71 : decode cX10_add 71 = .ok (.iload_n 2, 1) := by decide +kernel
theorem dX10_add_72 : decode cX10_add 72 = .ok (.iaload, 1) := by decide +kernel
theorem dX10_add_73 : decode cX10_add 73 = .ok (.iconst 1, 1) := by decide +kernel
theorem dX10_add_74 : decode cX10_add 74 = .ok (.isub, 1) := by decide +kernel
theorem dX10_add_75 : decode cX10_add 75 = .ok (.invokestatic 28, 3) := by decide +kernel
theorem dX10_add_78 : decode cX10_add 78 = .ok (.ireturn, 1) := by decide +kernel
set_option maxRecDepth 20000 in
theorem ggX10_findMinutes_J7_fill_53178 : GoodIn wsX10_findMinutes wsJ7_fill_53178 := goodIn_r _ [9] (by decide +kernel) (by decide +kernel)
set_option maxRecDepth 20000 in
theorem gX10_findMinutes_J7_fill_53178 : GoodIn wsX10_findMinutes (va_wsS RX10 72 yJ7_fill_53178 wsJ7_fill_53178) := goodIn_app (goodIn_of _ (by decide +kernel)) ggX10_findMinutes_J7_fill_53178
set_option maxRecDepth 20000 in
theorem ggX10_findMinutes_J7_fill_fda19 : GoodIn wsX10_findMinutes wsJ7_fill_fda19 := goodIn_r _ [12, 13, 14, 8, 15] (by decide +kernel) (by decide +kernel)
set_option maxRecDepth 20000 in
theorem gX10_findMinutes_J7_fill_fda19 : GoodIn wsX10_findMinutes (va_wsS RX10 78 yJ7_fill_fda19 wsJ7_fill_fda19) := goodIn_app (goodIn_of _ (by decide +kernel)) ggX10_findMinutes_J7_fill_fda19
set_option maxRecDepth 20000 in
theorem ggX10_findMinutes_X10_passOn : GoodIn wsX10_findMinutes wsX10_passOn := goodIn_r _ [20, 21, 22, 3, 5, 4, 23, 24, 25, 26, 27, 28, 29, 30, 31, 32] (by decide +kernel) (by decide +kernel)
set_option maxRecDepth 20000 in
theorem gX10_findMinutes_X10_passOn : GoodIn wsX10_findMinutes (wsV RX10 81 RX10 yX10_passOn wsX10_passOn) := goodIn_app (goodIn_of _ (by decide +kernel)) ggX10_findMinutes_X10_passOn
theorem dX10_findMinutes_0 : decode cX10_findMinutes 0 = .ok (.aload_n 0, 1) := by decide +kernel
theorem dX10_findMinutes_1 : decode cX10_findMinutes 1 = .ok (.getfield 9, 3) := by decide +kernel
theorem dX10_findMinutes_4 : decode cX10_findMinutes 4 = .ok (.iconst 0, 1) := by decide +kernel
theorem dX10_findMinutes_5 : decode cX10_findMinutes 5 = .ok (.invokestatic 72, 3) := by decide +kernel
theorem dX10_findMinutes_8 : decode cX10_findMinutes 8 = .ok (.aload_n 0, 1) := by decide +kernel
theorem dX10_findMinutes_9 : decode cX10_findMinutes 9 = .ok (.getfield 34, 3) := by decide +kernel
theorem dX10_findMinutes_12 : decode cX10_findMinutes 12 = .ok (.iconst 0, 1) := by decide +kernel
theorem dX10_findMinutes_13 : decode cX10_findMinutes 13 = .ok (.aload_n 0, 1) := by decide +kernel
theorem dX10_findMinutes_14 : decode cX10_findMinutes 14 = .ok (.getfield 46, 3) := by decide +kernel
theorem dX10_findMinutes_17 : decode cX10_findMinutes 17 = .ok (.iconst 0, 1) := by decide +kernel
theorem dX10_findMinutes_18 : decode cX10_findMinutes 18 = .ok (.invokestatic 78, 3) := by decide +kernel
theorem dX10_findMinutes_21 : decode cX10_findMinutes 21 = .ok (.aload_n 0, 1) := by decide +kernel
theorem dX10_findMinutes_22 : decode cX10_findMinutes 22 = .ok (.getfield 40, 3) := by decide +kernel
theorem dX10_findMinutes_25 : decode cX10_findMinutes 25 = .ok (.iconst 0, 1) := by decide +kernel
theorem dX10_findMinutes_26 : decode cX10_findMinutes 26 = .ok (.aload_n 0, 1) := by decide +kernel
theorem dX10_findMinutes_27 : decode cX10_findMinutes 27 = .ok (.getfield 46, 3) := by decide +kernel
theorem dX10_findMinutes_30 : decode cX10_findMinutes 30 = .ok (.iconst 0, 1) := by decide +kernel
theorem dX10_findMinutes_31 : decode cX10_findMinutes 31 = .ok (.invokestatic 78, 3) := by decide +kernel
theorem dX10_findMinutes_34 : decode cX10_findMinutes 34 = .ok (.aload_n 0, 1) := by decide +kernel
theorem dX10_findMinutes_35 : decode cX10_findMinutes 35 = .ok (.getfield 40, 3) := by decide +kernel
theorem dX10_findMinutes_38 : decode cX10_findMinutes 38 = .ok (.iconst 0, 1) := by decide +kernel
theorem dX10_findMinutes_39 : decode cX10_findMinutes 39 = .ok (.iconst 1, 1) := by decide +kernel
theorem dX10_findMinutes_40 : decode cX10_findMinutes 40 = .ok (.iastore, 1) := by decide +kernel
theorem dX10_findMinutes_41 : decode cX10_findMinutes 41 = .ok (.aload_n 0, 1) := by decide +kernel
theorem dX10_findMinutes_42 : decode cX10_findMinutes 42 = .ok (.getfield 34, 3) := by decide +kernel
theorem dX10_findMinutes_45 : decode cX10_findMinutes 45 = .ok (.iconst 0, 1) := by decide +kernel
theorem dX10_findMinutes_46 : decode cX10_findMinutes 46 = .ok (.iconst 1, 1) := by decide +kernel
theorem dX10_findMinutes_47 : decode cX10_findMinutes 47 = .ok (.iastore, 1) := by decide +kernel
theorem dX10_findMinutes_48 : decode cX10_findMinutes 48 = .ok (.aload_n 0, 1) := by decide +kernel
theorem dX10_findMinutes_49 : decode cX10_findMinutes 49 = .ok (.getfield 9, 3) := by decide +kernel
theorem dX10_findMinutes_52 : decode cX10_findMinutes 52 = .ok (.iconst 0, 1) := by decide +kernel
theorem dX10_findMinutes_53 : decode cX10_findMinutes 53 = .ok (.iconst 1, 1) := by decide +kernel
theorem dX10_findMinutes_54 : decode cX10_findMinutes 54 = .ok (.iastore, 1) := by decide +kernel
theorem dX10_findMinutes_55 : decode cX10_findMinutes 55 = .ok (.iconst 1, 1) := by decide +kernel
theorem dX10_findMinutes_56 : decode cX10_findMinutes 56 = .ok (.istore_n 1, 1) := by decide +kernel
theorem dX10_findMinutes_57 : decode cX10_findMinutes 57 = .ok (.iload_n 1, 1) := by decide +kernel
theorem dX10_findMinutes_58 : decode cX10_findMinutes 58 = .ok (.bipush 30, 2) := by decide +kernel
theorem dX10_findMinutes_60 : decode cX10_findMinutes 60 = .ok (.if_icmp .gt 121, 3) := by decide +kernel
theorem dX10_findMinutes_63 : decode cX10_findMinutes 63 = .ok (.aload_n 0, 1) := by decide +kernel
theorem dX10_findMinutes_64 : decode cX10_findMinutes 64 = .ok (.getfield 9, 3) := by decide +kernel
theorem dX10_findMinutes_67 : decode cX10_findMinutes 67 = .ok (.iload_n 1, 1) := by decide +kernel
theorem dX10_findMinutes_68 : decode cX10_findMinutes 68 = .ok (.iconst 1, 1) := by decide +kernel
theorem dX10_findMinutes_69 : decode cX10_findMinutes 69 = .ok (.isub, 1) := by decide +kernel
theorem dX10_findMinutes_70 : decode cX10_findMinutes 70 = .ok (.iaload, 1) := by decide +kernel
theorem dX10_findMinutes_71 : decode cX10_findMinutes 71 = .ok (.ifCond .eq 110, 3) := by decide +kernel
theorem dX10_findMinutes_74 : decode cX10_findMinutes 74 = .ok (.aload_n 0, 1) := by decide +kernel
theorem dX10_findMinutes_75 : decode cX10_findMinutes 75 = .ok (.getfield 43, 3) := by decide +kernel
theorem dX10_findMinutes_78 : decode cX10_findMinutes 78 = .ok (.iconst 0, 1) := by decide +kernel
theorem dX10_findMinutes_79 : decode cX10_findMinutes 79 = .ok (.aload_n 0, 1) := by decide +kernel
theorem dX10_findMinutes_80 : decode cX10_findMinutes 80 = .ok (.getfield 46, 3) := by decide +kernel
theorem dX10_findMinutes_83 : decode cX10_findMinutes 83 = .ok (.iconst 0, 1) := by decide +kernel
theorem dX10_findMinutes_84 : decode cX10_findMinutes 84 = .ok (.invokestatic 78, 3) := by decide +kernel
theorem dX10_findMinutes_87 : decode cX10_findMinutes 87 = .ok (.iconst 0, 1) := by decide +kernel
theorem dX10_findMinutes_88 : decode cX10_findMinutes 88 = .ok (.istore_n 2, 1) := by decide +kernel
theorem dX10_findMinutes_89 : decode cX10_findMinutes 89 = .ok (.iload_n 2, 1) := by decide +kernel
theorem dX10_findMinutes_90 : decode cX10_findMinutes 90 = .ok (.aload_n 0, 1) := by decide +kernel
theorem dX10_findMinutes_91 : decode cX10_findMinutes 91 = .ok (.getfield 46, 3) := by decide +kernel
theorem dX10_findMinutes_94 : decode cX10_findMinutes 94 = .ok (.if_icmp .ge 23, 3) := by decide +kernel
theorem dX10_findMinutes_97 : decode cX10_findMinutes 97 = .ok (.aload_n 0, 1) := by decide +kernel
theorem dX10_findMinutes_98 : decode cX10_findMinutes 98 = .ok (.getfield 40, 3) := by decide +kernel
theorem dX10_findMinutes_101 : decode cX10_findMinutes 101 = .ok (.iload_n 2, 1) := by decide +kernel
theorem dX10_findMinutes_102 : decode cX10_findMinutes 102 = .ok (.iaload, 1) := by decide +kernel
theorem dX10_findMinutes_103 : decode cX10_findMinutes 103 = .ok (.ifCond .eq 8, 3) := by decide +kernel
theorem dX10_findMinutes_106 : decode cX10_findMinutes 106 = .ok (.aload_n 0, 1) := by decide +kernel
theorem dX10_findMinutes_107 : decode cX10_findMinutes 107 = .ok (.iload_n 2, 1) := by decide +kernel
theorem dX10_findMinutes_108 : decode cX10_findMinutes 108 = .ok (.invokevirtual 81, 3) := by decide +kernel
theorem dX10_findMinutes_111 : decode cX10_findMinutes 111 = .ok (.iinc 2 1, 3) := by decide +kernel
theorem dX10_findMinutes_114 : decode cX10_findMinutes 114 = .ok (.goto (-25), 3) := by decide +kernel
theorem dX10_findMinutes_117 : decode cX10_findMinutes 117 = .ok (.iconst 0, 1) := by decide +kernel
theorem dX10_findMinutes_118 : decode cX10_findMinutes 118 = .ok (.istore_n 2, 1) := by decide +kernel
theorem dX10_findMinutes_119 : decode cX10_findMinutes 119 = .ok (.iload_n 2, 1) := by decide +kernel
theorem dX10_findMinutes_120 : decode cX10_findMinutes 120 = .ok (.aload_n 0, 1) := by decide +kernel
theorem dX10_findMinutes_121 : decode cX10_findMinutes 121 = .ok (.getfield 46, 3) := by decide +kernel
theorem dX10_findMinutes_124 : decode cX10_findMinutes 124 = .ok (.if_icmp .ge 51, 3) := by decide +kernel
theorem dX10_findMinutes_127 : decode cX10_findMinutes 127 = .ok (.aload_n 0, 1) := by decide +kernel
theorem dX10_findMinutes_128 : decode cX10_findMinutes 128 = .ok (.getfield 40, 3) := by decide +kernel
theorem dX10_findMinutes_131 : decode cX10_findMinutes 131 = .ok (.iload_n 2, 1) := by decide +kernel
theorem dX10_findMinutes_132 : decode cX10_findMinutes 132 = .ok (.aload_n 0, 1) := by decide +kernel
theorem dX10_findMinutes_133 : decode cX10_findMinutes 133 = .ok (.getfield 43, 3) := by decide +kernel
theorem dX10_findMinutes_136 : decode cX10_findMinutes 136 = .ok (.iload_n 2, 1) := by decide +kernel
theorem dX10_findMinutes_137 : decode cX10_findMinutes 137 = .ok (.iaload, 1) := by decide +kernel
theorem dX10_findMinutes_138 : decode cX10_findMinutes 138 = .ok (.iastore, 1) := by decide +kernel
theorem dX10_findMinutes_139 : decode cX10_findMinutes 139 = .ok (.aload_n 0, 1) := by decide +kernel
theorem dX10_findMinutes_140 : decode cX10_findMinutes 140 = .ok (.getfield 34, 3) := by decide +kernel
theorem dX10_findMinutes_143 : decode cX10_findMinutes 143 = .ok (.iload_n 2, 1) := by decide +kernel
theorem dX10_findMinutes_144 : decode cX10_findMinutes 144 = .ok (.dup2, 1) := by decide +kernel
theorem dX10_findMinutes_145 : decode cX10_findMinutes 145 = .ok (.iaload, 1) := by decide +kernel
theorem dX10_findMinutes_146 : decode cX10_findMinutes 146 = .ok (.aload_n 0, 1) := by decide +kernel
theorem dX10_findMinutes_147 : decode cX10_findMinutes 147 = .ok (.getfield 40, 3) := by decide +kernel
theorem dX10_findMinutes_150 : decode cX10_findMinutes 150 = .ok (.iload_n 2, 1) := by decide +kernel
theorem dX10_findMinutes_151 : decode cX10_findMinutes 151 = .ok (.iaload, 1) := by decide +kernel
theorem dX10_findMinutes_152 : decode cX10_findMinutes 152 = .ok (.ior, 1) := by decide +kernel
theorem dX10_findMinutes_153 : decode cX10_findMinutes 153 = .ok (.iastore, 1) := by decide +kernel
theorem dX10_findMinutes_154 : decode cX10_findMinutes 154 = .ok (.aload_n 0, 1) := by decide +kernel
theorem dX10_findMinutes_155 : decode cX10_findMinutes 155 = .ok (.getfield 9, 3) := by decide +kernel
theorem dX10_findMinutes_158 : decode cX10_findMinutes 158 = .ok (.iload_n 1, 1) := by decide +kernel
theorem dX10_findMinutes_159 : decode cX10_findMinutes 159 = .ok (.dup2, 1) := by decide +kernel
theorem dX10_findMinutes_160 : decode cX10_findMinutes 160 = .ok (.iaload, 1) := by decide +kernel
theorem dX10_findMinutes_161 : decode cX10_findMinutes 161 = .ok (.aload_n 0, 1) := by decide +kernel
theorem dX10_findMinutes_162 : decode cX10_findMinutes 162 = .ok (.getfield 40, 3) := by decide +kernel
theorem dX10_findMinutes_165 : decode cX10_findMinutes 165 = .ok (.iload_n 2, 1) := by decide +kernel
theorem dX10_findMinutes_166 : decode cX10_findMinutes 166 = .ok (.iaload, 1) := by decide +kernel
theorem dX10_findMinutes_167 : decode cX10_findMinutes 167 = .ok (.ior, 1) := by decide +kernel
theorem dX10_findMinutes_168 : decode cX10_findMinutes 168 = .ok (.iastore, 1) := by decide +kernel
theorem dX10_findMinutes_169 : decode cX10_findMinutes 169 = .ok (.iinc 2 1, 3) := by decide +kernel
theorem dX10_findMinutes_172 : decode cX10_findMinutes 172 = .ok (.goto (-53), 3) := by decide +kernel
theorem dX10_findMinutes_175 : decode cX10_findMinutes 175 = .ok (.iinc 1 1, 3) := by decide +kernel
theorem dX10_findMinutes_178 : decode cX10_findMinutes 178 = .ok (.goto (-121), 3) := by decide +kernel
theorem dX10_findMinutes_181 : decode cX10_findMinutes 181 = .ok (.return_, 1) := by decide +kernel
theorem dX10_passOn_0 : decode cX10_passOn 0 = .ok (.iconst 0, 1) := by decide +kernel
theorem dX10_passOn_1 : decode cX10_passOn 1 = .ok (.istore_n 2, 1) := by decide +kernel
theorem dX10_passOn_2 : decode cX10_passOn 2 = .ok (.iload_n 2, 1) := by decide +kernel
theorem dX10_passOn_3 : decode cX10_passOn 3 = .ok (.aload_n 0, 1) := by decide +kernel
theorem dX10_passOn_4 : decode cX10_passOn 4 = .ok (.getfield 50, 3) := by decide +kernel
theorem dX10_passOn_7 : decode cX10_passOn 7 = .ok (.if_icmp .ge 65, 3) := by decide +kernel
theorem dX10_passOn_10 : decode cX10_passOn 10 = .ok (.aload_n 0, 1) := by decide +kernel
theorem dX10_passOn_11 : decode cX10_passOn 11 = .ok (.getfield 37, 3) := by decide +kernel
theorem dX10_passOn_14 : decode cX10_passOn 14 = .ok (.iload_n 1, 1) := by decide +kernel
theorem dX10_passOn_15 : decode cX10_passOn 15 = .ok (.bipush 16, 2) := by decide +kernel
theorem dX10_passOn_17 : decode cX10_passOn 17 = .ok (.imul, 1) := by decide +kernel
theorem dX10_passOn_18 : decode cX10_passOn 18 = .ok (.iload_n 2, 1) := by decide +kernel
theorem dX10_passOn_19 : decode cX10_passOn 19 = .ok (.iadd, 1) := by decide +kernel
theorem dX10_passOn_20 : decode cX10_passOn 20 = .ok (.iaload, 1) := by decide +kernel
theorem dX10_passOn_21 : decode cX10_passOn 21 = .ok (.istore_n 3, 1) := by decide +kernel
theorem dX10_passOn_22 : decode cX10_passOn 22 = .ok (.iload_n 3, 1) := by decide +kernel
theorem dX10_passOn_23 : decode cX10_passOn 23 = .ok (.sipush 4095, 3) := by decide +kernel
theorem dX10_passOn_26 : decode cX10_passOn 26 = .ok (.iand, 1) := by decide +kernel
theorem dX10_passOn_27 : decode cX10_passOn 27 = .ok (.istore 4, 2) := by decide +kernel
theorem dX10_passOn_29 : decode cX10_passOn 29 = .ok (.iload_n 3, 1) := by decide +kernel
theorem dX10_passOn_30 : decode cX10_passOn 30 = .ok (.ifCond .eq 36, 3) := by decide +kernel
theorem dX10_passOn_33 : decode cX10_passOn 33 = .ok (.iload 4, 2) := by decide +kernel
theorem dX10_passOn_35 : decode cX10_passOn 35 = .ok (.aload_n 0, 1) := by decide +kernel
theorem dX10_passOn_36 : decode cX10_passOn 36 = .ok (.getfield 46, 3) := by decide +kernel
theorem dX10_passOn_39 : decode cX10_passOn 39 = .ok (.if_icmp .ge 27, 3) := by decide +kernel
theorem dX10_passOn_42 : decode cX10_passOn 42 = .ok (.aload_n 0, 1) := by decide +kernel
theorem dX10_passOn_43 : decode cX10_passOn 43 = .ok (.getfield 43, 3) := by decide +kernel
theorem dX10_passOn_46 : decode cX10_passOn 46 = .ok (.iload 4, 2) := by decide +kernel
theorem dX10_passOn_48 : decode cX10_passOn 48 = .ok (.dup2, 1) := by decide +kernel
theorem dX10_passOn_49 : decode cX10_passOn 49 = .ok (.iaload, 1) := by decide +kernel
theorem dX10_passOn_50 : decode cX10_passOn 50 = .ok (.aload_n 0, 1) := by decide +kernel
theorem dX10_passOn_51 : decode cX10_passOn 51 = .ok (.getfield 40, 3) := by decide +kernel
theorem dX10_passOn_54 : decode cX10_passOn 54 = .ok (.iload_n 1, 1) := by decide +kernel
theorem dX10_passOn_55 : decode cX10_passOn 55 = .ok (.iaload, 1) := by decide +kernel
theorem dX10_passOn_56 : decode cX10_passOn 56 = .ok (.iload_n 3, 1) := by decide +kernel
theorem dX10_passOn_57 : decode cX10_passOn 57 = .ok (.bipush 12, 2) := by decide +kernel
theorem dX10_passOn_59 : decode cX10_passOn 59 = .ok (.ishr, 1) := by decide +kernel
theorem dX10_passOn_60 : decode cX10_passOn 60 = .ok (.ishl, 1) := by decide +kernel
theorem dX10_passOn_61 : decode cX10_passOn 61 = .ok (.ldc 85, 2) := by decide +kernel
theorem dX10_passOn_63 : decode cX10_passOn 63 = .ok (.iand, 1) := by decide +kernel
theorem dX10_passOn_64 : decode cX10_passOn 64 = .ok (.ior, 1) := by decide +kernel
theorem dX10_passOn_65 : decode cX10_passOn 65 = .ok (.iastore, 1) := by decide +kernel
theorem dX10_passOn_66 : decode cX10_passOn 66 = .ok (.iinc 2 1, 3) := by decide +kernel
theorem dX10_passOn_69 : decode cX10_passOn 69 = .ok (.goto (-67), 3) := by decide +kernel
theorem dX10_passOn_72 : decode cX10_passOn 72 = .ok (.return_, 1) := by decide +kernel
theorem dX10_eventMinutes_0 : decode cX10_eventMinutes 0 = .ok (.iconst 0, 1) := by decide +kernel
theorem dX10_eventMinutes_1 : decode cX10_eventMinutes 1 = .ok (.istore_n 1, 1) := by decide +kernel
theorem dX10_eventMinutes_2 : decode cX10_eventMinutes 2 = .ok (.iconst 1, 1) := by decide +kernel
theorem dX10_eventMinutes_3 : decode cX10_eventMinutes 3 = .ok (.istore_n 2, 1) := by decide +kernel
theorem dX10_eventMinutes_4 : decode cX10_eventMinutes 4 = .ok (.iload_n 2, 1) := by decide +kernel
theorem dX10_eventMinutes_5 : decode cX10_eventMinutes 5 = .ok (.bipush 30, 2) := by decide +kernel
theorem dX10_eventMinutes_7 : decode cX10_eventMinutes 7 = .ok (.if_icmp .gt 18, 3) := by decide +kernel
theorem dX10_eventMinutes_10 : decode cX10_eventMinutes 10 = .ok (.iload_n 1, 1) := by decide +kernel
theorem dX10_eventMinutes_11 : decode cX10_eventMinutes 11 = .ok (.aload_n 0, 1) := by decide +kernel
theorem dX10_eventMinutes_12 : decode cX10_eventMinutes 12 = .ok (.getfield 9, 3) := by decide +kernel
theorem dX10_eventMinutes_15 : decode cX10_eventMinutes 15 = .ok (.iload_n 2, 1) := by decide +kernel
theorem dX10_eventMinutes_16 : decode cX10_eventMinutes 16 = .ok (.iaload, 1) := by decide +kernel
theorem dX10_eventMinutes_17 : decode cX10_eventMinutes 17 = .ok (.ior, 1) := by decide +kernel
theorem dX10_eventMinutes_18 : decode cX10_eventMinutes 18 = .ok (.istore_n 1, 1) := by decide +kernel
theorem dX10_eventMinutes_19 : decode cX10_eventMinutes 19 = .ok (.iinc 2 1, 3) := by decide +kernel
theorem dX10_eventMinutes_22 : decode cX10_eventMinutes 22 = .ok (.goto (-18), 3) := by decide +kernel
theorem dX10_eventMinutes_25 : decode cX10_eventMinutes 25 = .ok (.iload_n 1, 1) := by decide +kernel
theorem dX10_eventMinutes_26 : decode cX10_eventMinutes 26 = .ok (.ireturn, 1) := by decide +kernel
set_option maxRecDepth 20000 in
theorem ggX11_init_X9_init : GoodIn wsX11_init wsX9_init := goodIn_r _ [33, 34, 2, 3, 35, 36, 37, 38, 39, 40, 41, 42, 43, 44, 45, 46, 47, 48, 49, 93, 94, 95, 96, 97, 98, 151, 152, 153, 154] (by decide +kernel) (by decide +kernel)
set_option maxRecDepth 20000 in
theorem gX11_init_X9_init : GoodIn wsX11_init (wsX9_init) := ggX11_init_X9_init
set_option maxRecDepth 20000 in
theorem ggX11_init_X6_init : GoodIn wsX11_init wsX6_init := goodIn_r _ [52, 53, 2, 3, 54, 55, 35, 56, 57, 41, 42, 58, 59, 44, 45, 46, 47, 48, 49, 107, 108, 109, 110, 111, 112, 113, 114, 115, 116, 117, 151, 152, 153, 154] (by decide +kernel) (by decide +kernel)
set_option maxRecDepth 20000 in
theorem gX11_init_X6_init : GoodIn wsX11_init (wsX6_init) := ggX11_init_X6_init
set_option maxRecDepth 20000 in
theorem ggX11_init_X0_init : GoodIn wsX11_init wsX0_init := goodIn_r _ [62, 63, 2, 3, 64, 65, 66, 67, 68, 69, 70, 118, 119, 120, 121, 122, 123, 124, 125, 126, 155, 156, 157, 158] (by decide +kernel) (by decide +kernel)
set_option maxRecDepth 20000 in
theorem gX11_init_X0_init : GoodIn wsX11_init (wsX0_init) := ggX11_init_X0_init
set_option maxRecDepth 20000 in
theorem ggX11_init_X2_init : GoodIn wsX11_init wsX2_init := goodIn_r _ [72, 73, 2, 3, 74, 66, 67, 75, 35, 76, 77, 78, 79, 80, 81, 82, 68, 69, 70, 155, 156, 157, 158, 127, 128, 129, 130, 131, 132, 133, 134, 135, 136, 137, 138, 139, 140] (by decide +kernel) (by decide +kernel)
set_option maxRecDepth 20000 in
theorem gX11_init_X2_init_n36 : GoodIn wsX11_init (wsX2_init) := ggX11_init_X2_init
set_option maxRecDepth 20000 in
theorem ggX11_init_X7_init : GoodIn wsX11_init wsX7_init := goodIn_r _ [84, 85, 2, 3, 35, 86, 87, 141, 142] (by decide +kernel) (by decide +kernel)
set_option maxRecDepth 20000 in
theorem gX11_init_X7_init_n43 : GoodIn wsX11_init (wsX7_init) := ggX11_init_X7_init
set_option maxRecDepth 20000 in
theorem ggX11_init_X4_init : GoodIn wsX11_init wsX4_init := goodIn_r _ [90, 91, 2, 3, 92, 143, 144, 145, 146, 147, 148, 149, 150] (by decide +kernel) (by decide +kernel)
set_option maxRecDepth 20000 in
theorem gX11_init_X4_init : GoodIn wsX11_init (wsX4_init) := ggX11_init_X4_init
theorem dX11_init_0 : decode cX11_init 0 = .ok (.aload_n 0, 1) := by decide +kernel
theorem dX11_init_1 : decode cX11_init 1 = .ok (.invokespecial 1, 3) := by decide +kernel
theorem dX11_init_4 : decode cX11_init 4 = .ok (.aload_n 0, 1) := by decide +kernel
theorem dX11_init_5 : decode cX11_init 5 = .ok (.new 7, 3) := by decide +kernel
theorem dX11_init_8 : decode cX11_init 8 = .ok (.dup, 1) := by decide +kernel
theorem dX11_init_9 : decode cX11_init 9 = .ok (.invokespecial 9, 3) := by decide +kernel
theorem dX11_init_12 : decode cX11_init 12 = .ok (.putfield 10, 3) := by decide +kernel
theorem dX11_init_15 : decode cX11_init 15 = .ok (.aload_n 0, 1) := by decide +kernel
theorem dX11_init_16 : decode cX11_init 16 = .ok (.iconst 3, 1) := by decide +kernel
theorem dX11_init_17 : decode cX11_init 17 = .ok (.anewarray 7, 3) := by decide +kernel
theorem dX11_init_20 : decode cX11_init 20 = .ok (.putfield 16, 3) := by decide +kernel
theorem dX11_init_23 : decode cX11_init 23 = .ok (.aload_n 0, 1) := by decide +kernel
theorem dX11_init_24 : decode cX11_init 24 = .ok (.new 20, 3) := by decide +kernel
theorem dX11_init_27 : decode cX11_init 27 = .ok (.dup, 1) := by decide +kernel
theorem dX11_init_28 : decode cX11_init 28 = .ok (.invokespecial 22, 3) := by decide +kernel
theorem dX11_init_31 : decode cX11_init 31 = .ok (.putfield 23, 3) := by decide +kernel
theorem dX11_init_34 : decode cX11_init 34 = .ok (.aload_n 0, 1) := by decide +kernel
theorem dX11_init_35 : decode cX11_init 35 = .ok (.new 27, 3) := by decide +kernel
theorem dX11_init_38 : decode cX11_init 38 = .ok (.dup, 1) := by decide +kernel
theorem dX11_init_39 : decode cX11_init 39 = .ok (.invokespecial 29, 3) := by decide +kernel
theorem dX11_init_42 : decode cX11_init 42 = .ok (.putfield 30, 3) := by decide +kernel
theorem dX11_init_45 : decode cX11_init 45 = .ok (.aload_n 0, 1) := by decide +kernel
theorem dX11_init_46 : decode cX11_init 46 = .ok (.new 34, 3) := by decide +kernel
theorem dX11_init_49 : decode cX11_init 49 = .ok (.dup, 1) := by decide +kernel
theorem dX11_init_50 : decode cX11_init 50 = .ok (.invokespecial 36, 3) := by decide +kernel
theorem dX11_init_53 : decode cX11_init 53 = .ok (.putfield 37, 3) := by decide +kernel
theorem dX11_init_56 : decode cX11_init 56 = .ok (.aload_n 0, 1) := by decide +kernel
theorem dX11_init_57 : decode cX11_init 57 = .ok (.new 41, 3) := by decide +kernel
theorem dX11_init_60 : decode cX11_init 60 = .ok (.dup, 1) := by decide +kernel
theorem dX11_init_61 : decode cX11_init 61 = .ok (.invokespecial 43, 3) := by decide +kernel
theorem dX11_init_64 : decode cX11_init 64 = .ok (.putfield 44, 3) := by decide +kernel
theorem dX11_init_67 : decode cX11_init 67 = .ok (.aload_n 0, 1) := by decide +kernel
theorem dX11_init_68 : decode cX11_init 68 = .ok (.new 48, 3) := by decide +kernel
theorem dX11_init_71 : decode cX11_init 71 = .ok (.dup, 1) := by decide +kernel
theorem dX11_init_72 : decode cX11_init 72 = .ok (.aload_n 0, 1) := by decide +kernel
theorem dX11_init_73 : decode cX11_init 73 = .ok (.getfield 44, 3) := by decide +kernel
theorem dX11_init_76 : decode cX11_init 76 = .ok (.invokespecial 50, 3) := by decide +kernel
theorem dX11_init_79 : decode cX11_init 79 = .ok (.putfield 53, 3) := by decide +kernel
theorem dX11_init_82 : decode cX11_init 82 = .ok (.aload_n 0, 1) := by decide +kernel
theorem dX11_init_83 : decode cX11_init 83 = .ok (.iconst 2, 1) := by decide +kernel
theorem dX11_init_84 : decode cX11_init 84 = .ok (.anewarray 57, 3) := by decide +kernel
theorem dX11_init_87 : decode cX11_init 87 = .ok (.putfield 59, 3) := by decide +kernel
theorem dX11_init_90 : decode cX11_init 90 = .ok (.return_, 1) := by decide +kernel
set_option maxRecDepth 20000 in
theorem ggX11_feed_X9_push : GoodIn wsX11_feed wsX9_push := goodIn_r _ [7, 8, 9, 18, 19, 20, 21, 22, 23] (by decide +kernel) (by decide +kernel)
set_option maxRecDepth 20000 in
theorem gX11_feed_X9_push : GoodIn wsX11_feed (wsV RX11 67 RX9 yX9_push wsX9_push) := goodIn_app (goodIn_of _ (by decide +kernel)) ggX11_feed_X9_push
theorem dX11_feed_0 : decode cX11_feed 0 = .ok (.aload_n 0, 1) := by decide +kernel
theorem dX11_feed_1 : decode cX11_feed 1 = .ok (.getfield 10, 3) := by decide +kernel
theorem dX11_feed_4 : decode cX11_feed 4 = .ok (.getfield 63, 3) := by decide +kernel
theorem dX11_feed_7 : decode cX11_feed 7 = .ok (.bipush 20, 2) := by decide +kernel
theorem dX11_feed_9 : decode cX11_feed 9 = .ok (.iadd, 1) := by decide +kernel
theorem dX11_feed_10 : decode cX11_feed 10 = .ok (.sipush 600, 3) := by decide +kernel
theorem dX11_feed_13 : decode cX11_feed 13 = .ok (.if_icmp .le 5, 3) := by decide +kernel
theorem dX11_feed_16 : decode cX11_feed 16 = .ok (.iconst (-1), 1) := by decide +kernel
theorem dX11_feed_17 : decode cX11_feed 17 = .ok (.ireturn, 1) := by decide +kernel
theorem dX11_feed_18 : decode cX11_feed 18 = .ok (.aload_n 0, 1) := by decide +kernel
theorem dX11_feed_19 : decode cX11_feed 19 = .ok (.getfield 10, 3) := by decide +kernel
theorem dX11_feed_22 : decode cX11_feed 22 = .ok (.iload_n 1, 1) := by decide +kernel
theorem dX11_feed_23 : decode cX11_feed 23 = .ok (.invokevirtual 67, 3) := by decide +kernel
theorem dX11_feed_26 : decode cX11_feed 26 = .ok (.aload_n 0, 1) := by decide +kernel
theorem dX11_feed_27 : decode cX11_feed 27 = .ok (.getfield 10, 3) := by decide +kernel
theorem dX11_feed_30 : decode cX11_feed 30 = .ok (.iload_n 2, 1) := by decide +kernel
theorem dX11_feed_31 : decode cX11_feed 31 = .ok (.invokevirtual 67, 3) := by decide +kernel
theorem dX11_feed_34 : decode cX11_feed 34 = .ok (.aload_n 0, 1) := by decide +kernel
theorem dX11_feed_35 : decode cX11_feed 35 = .ok (.getfield 10, 3) := by decide +kernel
theorem dX11_feed_38 : decode cX11_feed 38 = .ok (.iload_n 3, 1) := by decide +kernel
theorem dX11_feed_39 : decode cX11_feed 39 = .ok (.invokevirtual 67, 3) := by decide +kernel
theorem dX11_feed_42 : decode cX11_feed 42 = .ok (.aload_n 0, 1) := by decide +kernel
theorem dX11_feed_43 : decode cX11_feed 43 = .ok (.getfield 10, 3) := by decide +kernel
theorem dX11_feed_46 : decode cX11_feed 46 = .ok (.iload 4, 2) := by decide +kernel
theorem dX11_feed_48 : decode cX11_feed 48 = .ok (.invokevirtual 67, 3) := by decide +kernel
theorem dX11_feed_51 : decode cX11_feed 51 = .ok (.aload_n 0, 1) := by decide +kernel
theorem dX11_feed_52 : decode cX11_feed 52 = .ok (.getfield 10, 3) := by decide +kernel
theorem dX11_feed_55 : decode cX11_feed 55 = .ok (.iload 5, 2) := by decide +kernel
theorem dX11_feed_57 : decode cX11_feed 57 = .ok (.invokevirtual 67, 3) := by decide +kernel
theorem dX11_feed_60 : decode cX11_feed 60 = .ok (.aload_n 0, 1) := by decide +kernel
theorem dX11_feed_61 : decode cX11_feed 61 = .ok (.getfield 10, 3) := by decide +kernel
theorem dX11_feed_64 : decode cX11_feed 64 = .ok (.getfield 63, 3) := by decide +kernel
theorem dX11_feed_67 : decode cX11_feed 67 = .ok (.ireturn, 1) := by decide +kernel
theorem dX11_end_0 : decode cX11_end 0 = .ok (.iload_n 1, 1) := by decide +kernel
theorem dX11_end_1 : decode cX11_end 1 = .ok (.ifCond .lt 14, 3) := by decide +kernel
theorem dX11_end_4 : decode cX11_end 4 = .ok (.iload_n 1, 1) := by decide +kernel
theorem dX11_end_5 : decode cX11_end 5 = .ok (.aload_n 0, 1) := by decide +kernel
theorem dX11_end_6 : decode cX11_end 6 = .ok (.getfield 10, 3) := by decide +kernel
theorem dX11_end_9 : decode cX11_end 9 = .ok (.getfield 63, 3) := by decide +kernel
theorem dX11_end_12 : decode cX11_end 12 = .ok (.if_icmp .le 5, 3) := by decide +kernel
theorem dX11_end_15 : decode cX11_end 15 = .ok (.iconst (-1), 1) := by decide +kernel
theorem dX11_end_16 : decode cX11_end 16 = .ok (.ireturn, 1) := by decide +kernel
theorem dX11_end_17 : decode cX11_end 17 = .ok (.aload_n 0, 1) := by decide +kernel
theorem dX11_end_18 : decode cX11_end 18 = .ok (.getfield 10, 3) := by decide +kernel
theorem dX11_end_21 : decode cX11_end 21 = .ok (.iload_n 1, 1) := by decide +kernel
theorem dX11_end_22 : decode cX11_end 22 = .ok (.putfield 63, 3) := by decide +kernel
theorem dX11_end_25 : decode cX11_end 25 = .ok (.iload_n 1, 1) := by decide +kernel
theorem dX11_end_26 : decode cX11_end 26 = .ok (.ireturn, 1) := by decide +kernel
set_option maxRecDepth 20000 in
theorem ggX11_text_X9_numberFor : GoodIn wsX11_text wsX9_numberFor := goodIn_r _ [13, 14, 173, 174, 175, 176, 177, 178] (by decide +kernel) (by decide +kernel)
set_option maxRecDepth 20000 in
theorem gX11_text_X9_numberFor : GoodIn wsX11_text (wsV RX11 77 RX9 yX9_numberFor wsX9_numberFor) := goodIn_app (goodIn_of _ (by decide +kernel)) ggX11_text_X9_numberFor
set_option maxRecDepth 20000 in
theorem ggX11_text_X6_read : GoodIn wsX11_text wsX6_read := goodIn_r _ [19, 20, 21, 22, 23, 24, 25, 26, 27, 28, 29, 30, 31, 32, 33, 34, 35, 36, 37, 38, 39, 18, 40, 41, 42, 43, 44, 45, 46, 47, 48, 49, 50, 51, 52, 53, 54, 55, 56, 57, 58, 59, 60, 61, 62, 63, 64, 65, 66, 67, 68, 69, 70, 71, 72, 73, 74, 75, 76, 77, 78, 79, 80, 81, 82, 83, 84, 85, 86, 87, 88, 89, 90, 91, 92, 93, 94, 95, 96, 97, 98, 99, 100, 101, 102, 103, 104, 105, 106, 107, 108, 109, 110, 111, 112, 113, 114, 115, 116, 117, 118, 119, 120, 121, 122, 123, 124, 125, 126, 127, 128, 129, 130, 131, 132, 133, 134, 135, 136, 137, 138, 179, 180, 181, 182, 183, 184, 185, 186, 187, 188, 189, 190, 191, 192, 193] (by decide +kernel) (by decide +kernel)
set_option maxRecDepth 20000 in
theorem gX11_text_X6_read : GoodIn wsX11_text (wsV RX11 85 RX6 yX6_read wsX6_read) := goodIn_app (goodIn_of _ (by decide +kernel)) ggX11_text_X6_read
set_option maxRecDepth 20000 in
theorem ggX11_text_X6_draft : GoodIn wsX11_text wsX6_draft := goodIn_r _ [142, 130, 179, 180, 181, 182, 183, 184, 185, 186, 187, 188, 189] (by decide +kernel) (by decide +kernel)
set_option maxRecDepth 20000 in
theorem gX11_text_X6_draft : GoodIn wsX11_text (wsV RX11 91 RX6 yX6_draft wsX6_draft) := goodIn_app (goodIn_of _ (by decide +kernel)) ggX11_text_X6_draft
set_option maxRecDepth 20000 in
theorem ggX11_text_X9_keep : GoodIn wsX11_text wsX9_keep := goodIn_r _ [146, 147, 14, 148, 149, 24, 150, 151, 152, 153, 154, 155, 156, 157, 158, 23, 25, 159, 160, 161, 162, 163, 164, 173, 174, 175, 176, 177, 178, 190, 191, 192, 193] (by decide +kernel) (by decide +kernel)
set_option maxRecDepth 20000 in
theorem gX11_text_X9_keep : GoodIn wsX11_text (wsV RX11 95 RX9 yX9_keep wsX9_keep) := goodIn_app (goodIn_of _ (by decide +kernel)) ggX11_text_X9_keep
theorem dX11_text_0 : decode cX11_text 0 = .ok (.aload_n 0, 1) := by decide +kernel
theorem dX11_text_1 : decode cX11_text 1 = .ok (.getfield 10, 3) := by decide +kernel
theorem dX11_text_4 : decode cX11_text 4 = .ok (.getfield 63, 3) := by decide +kernel
theorem dX11_text_7 : decode cX11_text 7 = .ok (.istore_n 3, 1) := by decide +kernel
theorem dX11_text_8 : decode cX11_text 8 = .ok (.aload_n 0, 1) := by decide +kernel
theorem dX11_text_9 : decode cX11_text 9 = .ok (.getfield 10, 3) := by decide +kernel
theorem dX11_text_12 : decode cX11_text 12 = .ok (.iconst 0, 1) := by decide +kernel
theorem dX11_text_13 : decode cX11_text 13 = .ok (.putfield 63, 3) := by decide +kernel
theorem dX11_text_16 : decode cX11_text 16 = .ok (.aload_n 0, 1) := by decide +kernel
theorem dX11_text_17 : decode cX11_text 17 = .ok (.getfield 10, 3) := by decide +kernel
theorem dX11_text_20 : decode cX11_text 20 = .ok (.iconst 0, 1) := by decide +kernel
theorem dX11_text_21 : decode cX11_text 21 = .ok (.putfield 71, 3) := by decide +kernel
theorem dX11_text_24 : decode cX11_text 24 = .ok (.aload_n 0, 1) := by decide +kernel
theorem dX11_text_25 : decode cX11_text 25 = .ok (.getfield 10, 3) := by decide +kernel
theorem dX11_text_28 : decode cX11_text 28 = .ok (.iconst (-1), 1) := by decide +kernel
theorem dX11_text_29 : decode cX11_text 29 = .ok (.putfield 74, 3) := by decide +kernel
theorem dX11_text_32 : decode cX11_text 32 = .ok (.aload_n 0, 1) := by decide +kernel
theorem dX11_text_33 : decode cX11_text 33 = .ok (.getfield 10, 3) := by decide +kernel
theorem dX11_text_36 : decode cX11_text 36 = .ok (.iload_n 1, 1) := by decide +kernel
theorem dX11_text_37 : decode cX11_text 37 = .ok (.iload_n 2, 1) := by decide +kernel
theorem dX11_text_38 : decode cX11_text 38 = .ok (.invokevirtual 77, 3) := by decide +kernel
theorem dX11_text_41 : decode cX11_text 41 = .ok (.istore 4, 2) := by decide +kernel
theorem dX11_text_43 : decode cX11_text 43 = .ok (.iload 4, 2) := by decide +kernel
theorem dX11_text_45 : decode cX11_text 45 = .ok (.iconst (-1), 1) := by decide +kernel
theorem dX11_text_46 : decode cX11_text 46 = .ok (.if_icmp .ne 6, 3) := by decide +kernel
theorem dX11_text_49 : decode cX11_text 49 = .ok (.bipush (-2), 2) := by decide +kernel
theorem dX11_text_51 : decode cX11_text 51 = .ok (.ireturn, 1) := by decide +kernel
theorem dX11_text_52 : decode cX11_text 52 = .ok (.aload_n 0, 1) := by decide +kernel
theorem dX11_text_53 : decode cX11_text 53 = .ok (.getfield 23, 3) := by decide +kernel
theorem dX11_text_56 : decode cX11_text 56 = .ok (.iload_n 1, 1) := by decide +kernel
theorem dX11_text_57 : decode cX11_text 57 = .ok (.aload_n 0, 1) := by decide +kernel
theorem dX11_text_58 : decode cX11_text 58 = .ok (.getfield 10, 3) := by decide +kernel
theorem dX11_text_61 : decode cX11_text 61 = .ok (.getfield 81, 3) := by decide +kernel
theorem dX11_text_64 : decode cX11_text 64 = .ok (.iload_n 3, 1) := by decide +kernel
theorem dX11_text_65 : decode cX11_text 65 = .ok (.invokevirtual 85, 3) := by decide +kernel
theorem dX11_text_68 : decode cX11_text 68 = .ok (.aload_n 0, 1) := by decide +kernel
theorem dX11_text_69 : decode cX11_text 69 = .ok (.getfield 10, 3) := by decide +kernel
theorem dX11_text_72 : decode cX11_text 72 = .ok (.aload_n 0, 1) := by decide +kernel
theorem dX11_text_73 : decode cX11_text 73 = .ok (.getfield 23, 3) := by decide +kernel
theorem dX11_text_76 : decode cX11_text 76 = .ok (.getfield 89, 3) := by decide +kernel
theorem dX11_text_79 : decode cX11_text 79 = .ok (.putfield 71, 3) := by decide +kernel
theorem dX11_text_82 : decode cX11_text 82 = .ok (.aload_n 0, 1) := by decide +kernel
theorem dX11_text_83 : decode cX11_text 83 = .ok (.getfield 10, 3) := by decide +kernel
theorem dX11_text_86 : decode cX11_text 86 = .ok (.aload_n 0, 1) := by decide +kernel
theorem dX11_text_87 : decode cX11_text 87 = .ok (.getfield 23, 3) := by decide +kernel
theorem dX11_text_90 : decode cX11_text 90 = .ok (.getfield 90, 3) := by decide +kernel
theorem dX11_text_93 : decode cX11_text 93 = .ok (.putfield 74, 3) := by decide +kernel
theorem dX11_text_96 : decode cX11_text 96 = .ok (.aload_n 0, 1) := by decide +kernel
theorem dX11_text_97 : decode cX11_text 97 = .ok (.getfield 23, 3) := by decide +kernel
theorem dX11_text_100 : decode cX11_text 100 = .ok (.getfield 89, 3) := by decide +kernel
theorem dX11_text_103 : decode cX11_text 103 = .ok (.ifCond .eq 5, 3) := by decide +kernel
theorem dX11_text_106 : decode cX11_text 106 = .ok (.iconst (-1), 1) := by decide +kernel
theorem dX11_text_107 : decode cX11_text 107 = .ok (.ireturn, 1) := by decide +kernel
theorem dX11_text_108 : decode cX11_text 108 = .ok (.aload_n 0, 1) := by decide +kernel
theorem dX11_text_109 : decode cX11_text 109 = .ok (.getfield 10, 3) := by decide +kernel
theorem dX11_text_112 : decode cX11_text 112 = .ok (.iload_n 1, 1) := by decide +kernel
theorem dX11_text_113 : decode cX11_text 113 = .ok (.iload 4, 2) := by decide +kernel
theorem dX11_text_115 : decode cX11_text 115 = .ok (.aload_n 0, 1) := by decide +kernel
theorem dX11_text_116 : decode cX11_text 116 = .ok (.getfield 23, 3) := by decide +kernel
theorem dX11_text_119 : decode cX11_text 119 = .ok (.iload_n 1, 1) := by decide +kernel
theorem dX11_text_120 : decode cX11_text 120 = .ok (.invokevirtual 91, 3) := by decide +kernel
theorem dX11_text_123 : decode cX11_text 123 = .ok (.invokevirtual 95, 3) := by decide +kernel
theorem dX11_text_126 : decode cX11_text 126 = .ok (.iload 4, 2) := by decide +kernel
theorem dX11_text_128 : decode cX11_text 128 = .ok (.ireturn, 1) := by decide +kernel
theorem dX11_fault_0 : decode cX11_fault 0 = .ok (.iload_n 1, 1) := by decide +kernel
theorem dX11_fault_1 : decode cX11_fault 1 = .ok (.lookupswitch 43 #[(0, 27), (1, 35)], 27) := by decide +kernel
theorem dX11_fault_28 : decode cX11_fault 28 = .ok (.aload_n 0, 1) := by decide +kernel
theorem dX11_fault_29 : decode cX11_fault 29 = .ok (.getfield 10, 3) := by decide +kernel
theorem dX11_fault_32 : decode cX11_fault 32 = .ok (.getfield 71, 3) := by decide +kernel
theorem dX11_fault_35 : decode cX11_fault 35 = .ok (.ireturn, 1) := by decide +kernel
theorem dX11_fault_36 : decode cX11_fault 36 = .ok (.aload_n 0, 1) := by decide +kernel
theorem dX11_fault_37 : decode cX11_fault 37 = .ok (.getfield 10, 3) := by decide +kernel
theorem dX11_fault_40 : decode cX11_fault 40 = .ok (.getfield 74, 3) := by decide +kernel
theorem dX11_fault_43 : decode cX11_fault 43 = .ok (.ireturn, 1) := by decide +kernel
theorem dX11_fault_44 : decode cX11_fault 44 = .ok (.iconst (-1), 1) := by decide +kernel
theorem dX11_fault_45 : decode cX11_fault 45 = .ok (.ireturn, 1) := by decide +kernel
set_option maxRecDepth 20000 in
theorem ggX11_shelf_X9_find : GoodIn wsX11_shelf wsX9_find := goodIn_r _ [10, 11, 12, 29, 30, 31, 32, 33, 34] (by decide +kernel) (by decide +kernel)
set_option maxRecDepth 20000 in
theorem gX11_shelf_X9_find : GoodIn wsX11_shelf (wsV RX11 99 RX9 yX9_find wsX9_find) := goodIn_app (goodIn_of _ (by decide +kernel)) ggX11_shelf_X9_find
set_option maxRecDepth 20000 in
theorem ggX11_shelf_X11_isGlass : GoodIn wsX11_shelf wsX11_isGlass := goodIn_r _ [16, 2, 25, 26, 27, 28] (by decide +kernel) (by decide +kernel)
set_option maxRecDepth 20000 in
theorem gX11_shelf_X11_isGlass : GoodIn wsX11_shelf (va_wsS RX11 108 yX11_isGlass wsX11_isGlass) := goodIn_app (goodIn_of _ (by decide +kernel)) ggX11_shelf_X11_isGlass
theorem dX11_shelf_0 : decode cX11_shelf 0 = .ok (.aload_n 0, 1) := by decide +kernel
theorem dX11_shelf_1 : decode cX11_shelf 1 = .ok (.getfield 10, 3) := by decide +kernel
theorem dX11_shelf_4 : decode cX11_shelf 4 = .ok (.iconst 0, 1) := by decide +kernel
theorem dX11_shelf_5 : decode cX11_shelf 5 = .ok (.iload_n 1, 1) := by decide +kernel
theorem dX11_shelf_6 : decode cX11_shelf 6 = .ok (.invokevirtual 99, 3) := by decide +kernel
theorem dX11_shelf_9 : decode cX11_shelf 9 = .ok (.astore_n 3, 1) := by decide +kernel
theorem dX11_shelf_10 : decode cX11_shelf 10 = .ok (.aload_n 3, 1) := by decide +kernel
theorem dX11_shelf_11 : decode cX11_shelf 11 = .ok (.ifnonnull 5, 3) := by decide +kernel
theorem dX11_shelf_14 : decode cX11_shelf 14 = .ok (.iconst (-1), 1) := by decide +kernel
theorem dX11_shelf_15 : decode cX11_shelf 15 = .ok (.ireturn, 1) := by decide +kernel
theorem dX11_shelf_16 : decode cX11_shelf 16 = .ok (.iload_n 2, 1) := by decide +kernel
theorem dX11_shelf_17 : decode cX11_shelf 17 = .ok (.ifCond .ne 8, 3) := by decide +kernel
theorem dX11_shelf_20 : decode cX11_shelf 20 = .ok (.aload_n 3, 1) := by decide +kernel
theorem dX11_shelf_21 : decode cX11_shelf 21 = .ok (.getfield 103, 3) := by decide +kernel
theorem dX11_shelf_24 : decode cX11_shelf 24 = .ok (.ireturn, 1) := by decide +kernel
theorem dX11_shelf_25 : decode cX11_shelf 25 = .ok (.aload_n 3, 1) := by decide +kernel
theorem dX11_shelf_26 : decode cX11_shelf 26 = .ok (.iload_n 2, 1) := by decide +kernel
theorem dX11_shelf_27 : decode cX11_shelf 27 = .ok (.bipush 10, 2) := by decide +kernel
theorem dX11_shelf_29 : decode cX11_shelf 29 = .ok (.invokestatic 108, 3) := by decide +kernel
theorem dX11_shelf_32 : decode cX11_shelf 32 = .ok (.ifCond .eq 13, 3) := by decide +kernel
theorem dX11_shelf_35 : decode cX11_shelf 35 = .ok (.aload_n 3, 1) := by decide +kernel
theorem dX11_shelf_36 : decode cX11_shelf 36 = .ok (.getfield 112, 3) := by decide +kernel
theorem dX11_shelf_39 : decode cX11_shelf 39 = .ok (.iload_n 2, 1) := by decide +kernel
theorem dX11_shelf_40 : decode cX11_shelf 40 = .ok (.bipush 10, 2) := by decide +kernel
theorem dX11_shelf_42 : decode cX11_shelf 42 = .ok (.isub, 1) := by decide +kernel
theorem dX11_shelf_43 : decode cX11_shelf 43 = .ok (.iaload, 1) := by decide +kernel
theorem dX11_shelf_44 : decode cX11_shelf 44 = .ok (.ireturn, 1) := by decide +kernel
theorem dX11_shelf_45 : decode cX11_shelf 45 = .ok (.aload_n 3, 1) := by decide +kernel
theorem dX11_shelf_46 : decode cX11_shelf 46 = .ok (.iload_n 2, 1) := by decide +kernel
theorem dX11_shelf_47 : decode cX11_shelf 47 = .ok (.bipush 20, 2) := by decide +kernel
theorem dX11_shelf_49 : decode cX11_shelf 49 = .ok (.invokestatic 108, 3) := by decide +kernel
theorem dX11_shelf_52 : decode cX11_shelf 52 = .ok (.ifCond .eq 13, 3) := by decide +kernel
theorem dX11_shelf_55 : decode cX11_shelf 55 = .ok (.aload_n 3, 1) := by decide +kernel
theorem dX11_shelf_56 : decode cX11_shelf 56 = .ok (.getfield 115, 3) := by decide +kernel
theorem dX11_shelf_59 : decode cX11_shelf 59 = .ok (.iload_n 2, 1) := by decide +kernel
theorem dX11_shelf_60 : decode cX11_shelf 60 = .ok (.bipush 20, 2) := by decide +kernel
theorem dX11_shelf_62 : decode cX11_shelf 62 = .ok (.isub, 1) := by decide +kernel
theorem dX11_shelf_63 : decode cX11_shelf 63 = .ok (.iaload, 1) := by decide +kernel
theorem dX11_shelf_64 : decode cX11_shelf 64 = .ok (.ireturn, 1) := by decide +kernel
theorem dX11_shelf_65 : decode cX11_shelf 65 = .ok (.aload_n 3, 1) := by decide +kernel
theorem dX11_shelf_66 : decode cX11_shelf 66 = .ok (.iload_n 2, 1) := by decide +kernel
theorem dX11_shelf_67 : decode cX11_shelf 67 = .ok (.bipush 30, 2) := by decide +kernel
theorem dX11_shelf_69 : decode cX11_shelf 69 = .ok (.invokestatic 108, 3) := by decide +kernel
theorem dX11_shelf_72 : decode cX11_shelf 72 = .ok (.ifCond .eq 13, 3) := by decide +kernel
theorem dX11_shelf_75 : decode cX11_shelf 75 = .ok (.aload_n 3, 1) := by decide +kernel
theorem dX11_shelf_76 : decode cX11_shelf 76 = .ok (.getfield 118, 3) := by decide +kernel
theorem dX11_shelf_79 : decode cX11_shelf 79 = .ok (.iload_n 2, 1) := by decide +kernel
theorem dX11_shelf_80 : decode cX11_shelf 80 = .ok (.bipush 30, 2) := by decide +kernel
theorem dX11_shelf_82 : decode cX11_shelf 82 = .ok (.isub, 1) := by decide +kernel
theorem dX11_shelf_83 : decode cX11_shelf 83 = .ok (.iaload, 1) := by decide +kernel
theorem dX11_shelf_84 : decode cX11_shelf 84 = .ok (.ireturn, 1) := by decide +kernel
theorem dX11_shelf_85 : decode cX11_shelf 85 = .ok (.iconst (-1), 1) := by decide +kernel
theorem dX11_shelf_86 : decode cX11_shelf 86 = .ok (.ireturn, 1) := by decide +kernel
set_option maxRecDepth 20000 in
theorem ggX11_deed_X9_find : GoodIn wsX11_deed wsX9_find := goodIn_r _ [6, 7, 8, 24, 25, 26, 27, 28, 29] (by decide +kernel) (by decide +kernel)
set_option maxRecDepth 20000 in
theorem gX11_deed_X9_find : GoodIn wsX11_deed (wsV RX11 99 RX9 yX9_find wsX9_find) := goodIn_app (goodIn_of _ (by decide +kernel)) ggX11_deed_X9_find
set_option maxRecDepth 20000 in
theorem ggX11_deed_X11_lineOf : GoodIn wsX11_deed wsX11_lineOf := goodIn_r _ [12, 13, 14, 15, 30, 31, 32, 33] (by decide +kernel) (by decide +kernel)
set_option maxRecDepth 20000 in
theorem gX11_deed_X11_lineOf : GoodIn wsX11_deed (va_wsS RX11 121 yX11_lineOf wsX11_lineOf) := goodIn_app (goodIn_of _ (by decide +kernel)) ggX11_deed_X11_lineOf
theorem dX11_deed_0 : decode cX11_deed 0 = .ok (.aload_n 0, 1) := by decide +kernel
theorem dX11_deed_1 : decode cX11_deed 1 = .ok (.getfield 10, 3) := by decide +kernel
theorem dX11_deed_4 : decode cX11_deed 4 = .ok (.iconst 1, 1) := by decide +kernel
theorem dX11_deed_5 : decode cX11_deed 5 = .ok (.iload_n 1, 1) := by decide +kernel
theorem dX11_deed_6 : decode cX11_deed 6 = .ok (.invokevirtual 99, 3) := by decide +kernel
theorem dX11_deed_9 : decode cX11_deed 9 = .ok (.iload_n 2, 1) := by decide +kernel
theorem dX11_deed_10 : decode cX11_deed 10 = .ok (.iload_n 3, 1) := by decide +kernel
theorem dX11_deed_11 : decode cX11_deed 11 = .ok (.invokestatic 121, 3) := by decide +kernel
theorem dX11_deed_14 : decode cX11_deed 14 = .ok (.ireturn, 1) := by decide +kernel
set_option maxRecDepth 20000 in
theorem ggX11_stop_X9_find : GoodIn wsX11_stop wsX9_find := goodIn_r _ [8, 9, 10, 83, 84, 85, 86, 87, 88] (by decide +kernel) (by decide +kernel)
set_option maxRecDepth 20000 in
theorem gX11_stop_X9_find : GoodIn wsX11_stop (wsV RX11 99 RX9 yX9_find wsX9_find) := goodIn_app (goodIn_of _ (by decide +kernel)) ggX11_stop_X9_find
set_option maxRecDepth 20000 in
theorem ggX11_stop_X0_begin : GoodIn wsX11_stop wsX0_begin := goodIn_r _ [15, 16, 17, 18, 19, 20, 21, 22, 23, 24, 25, 26, 27, 28, 29, 30, 31, 32, 33, 34, 35, 36, 37, 38, 39, 79, 80, 81, 82, 89, 90, 91, 92, 93, 94, 95, 96, 97, 98, 99, 100, 101] (by decide +kernel) (by decide +kernel)
set_option maxRecDepth 20000 in
theorem gX11_stop_X0_begin : GoodIn wsX11_stop (wsV RX11 125 RX0 yX0_begin wsX0_begin) := goodIn_app (goodIn_of _ (by decide +kernel)) ggX11_stop_X0_begin
set_option maxRecDepth 20000 in
theorem ggX11_stop_X0_play : GoodIn wsX11_stop wsX0_play := goodIn_r _ [43, 16, 23, 24, 17, 18, 19, 20, 44, 45, 46, 14, 47, 25, 21, 22, 30, 48, 49, 50, 51, 29, 27, 26, 28, 52, 53, 54, 55, 56, 57, 34, 58, 38, 37, 59, 60, 61, 62, 39, 63, 64, 65, 66, 36, 67, 68, 69, 70, 79, 80, 81, 82, 89, 90, 91, 92, 93, 94, 95, 96, 97, 98, 99, 100, 101] (by decide +kernel) (by decide +kernel)
set_option maxRecDepth 20000 in
theorem gX11_stop_X0_play : GoodIn wsX11_stop (wsV RX11 129 RX0 yX0_play wsX0_play) := goodIn_app (goodIn_of _ (by decide +kernel)) ggX11_stop_X0_play
theorem dX11_stop_0 : decode cX11_stop 0 = .ok (.aload_n 0, 1) := by decide +kernel
theorem dX11_stop_1 : decode cX11_stop 1 = .ok (.getfield 10, 3) := by decide +kernel
theorem dX11_stop_4 : decode cX11_stop 4 = .ok (.iconst 0, 1) := by decide +kernel
theorem dX11_stop_5 : decode cX11_stop 5 = .ok (.iload_n 1, 1) := by decide +kernel
theorem dX11_stop_6 : decode cX11_stop 6 = .ok (.invokevirtual 99, 3) := by decide +kernel
theorem dX11_stop_9 : decode cX11_stop 9 = .ok (.astore_n 3, 1) := by decide +kernel
theorem dX11_stop_10 : decode cX11_stop 10 = .ok (.aload_n 0, 1) := by decide +kernel
theorem dX11_stop_11 : decode cX11_stop 11 = .ok (.getfield 10, 3) := by decide +kernel
theorem dX11_stop_14 : decode cX11_stop 14 = .ok (.iconst 1, 1) := by decide +kernel
theorem dX11_stop_15 : decode cX11_stop 15 = .ok (.iload_n 2, 1) := by decide +kernel
theorem dX11_stop_16 : decode cX11_stop 16 = .ok (.invokevirtual 99, 3) := by decide +kernel
theorem dX11_stop_19 : decode cX11_stop 19 = .ok (.astore 4, 2) := by decide +kernel
theorem dX11_stop_21 : decode cX11_stop 21 = .ok (.aload_n 3, 1) := by decide +kernel
theorem dX11_stop_22 : decode cX11_stop 22 = .ok (.ifnull 8, 3) := by decide +kernel
theorem dX11_stop_25 : decode cX11_stop 25 = .ok (.aload 4, 2) := by decide +kernel
theorem dX11_stop_27 : decode cX11_stop 27 = .ok (.ifnonnull 5, 3) := by decide +kernel
theorem dX11_stop_30 : decode cX11_stop 30 = .ok (.iconst (-1), 1) := by decide +kernel
theorem dX11_stop_31 : decode cX11_stop 31 = .ok (.ireturn, 1) := by decide +kernel
theorem dX11_stop_32 : decode cX11_stop 32 = .ok (.aload_n 0, 1) := by decide +kernel
theorem dX11_stop_33 : decode cX11_stop 33 = .ok (.getfield 30, 3) := by decide +kernel
theorem dX11_stop_36 : decode cX11_stop 36 = .ok (.aload_n 3, 1) := by decide +kernel
theorem dX11_stop_37 : decode cX11_stop 37 = .ok (.invokevirtual 125, 3) := by decide +kernel
theorem dX11_stop_40 : decode cX11_stop 40 = .ok (.aload_n 0, 1) := by decide +kernel
theorem dX11_stop_41 : decode cX11_stop 41 = .ok (.getfield 30, 3) := by decide +kernel
theorem dX11_stop_44 : decode cX11_stop 44 = .ok (.aload 4, 2) := by decide +kernel
theorem dX11_stop_46 : decode cX11_stop 46 = .ok (.aload 4, 2) := by decide +kernel
theorem dX11_stop_48 : decode cX11_stop 48 = .ok (.getfield 103, 3) := by decide +kernel
theorem dX11_stop_51 : decode cX11_stop 51 = .ok (.invokevirtual 129, 3) := by decide +kernel
theorem dX11_stop_54 : decode cX11_stop 54 = .ok (.ireturn, 1) := by decide +kernel
set_option maxRecDepth 20000 in
theorem ggX11_state_X9_find : GoodIn wsX11_state wsX9_find := goodIn_r _ [8, 9, 10, 99, 100, 101, 102, 103, 104] (by decide +kernel) (by decide +kernel)
set_option maxRecDepth 20000 in
theorem gX11_state_X9_find : GoodIn wsX11_state (wsV RX11 99 RX9 yX9_find wsX9_find) := goodIn_app (goodIn_of _ (by decide +kernel)) ggX11_state_X9_find
set_option maxRecDepth 20000 in
theorem ggX11_state_X0_begin : GoodIn wsX11_state wsX0_begin := goodIn_r _ [15, 16, 17, 18, 19, 20, 21, 22, 23, 24, 25, 26, 27, 28, 29, 30, 31, 32, 33, 34, 35, 36, 37, 38, 39, 95, 96, 97, 98, 105, 106, 107, 108, 109, 110, 111, 112, 113, 114, 115, 116, 117] (by decide +kernel) (by decide +kernel)
set_option maxRecDepth 20000 in
theorem gX11_state_X0_begin : GoodIn wsX11_state (wsV RX11 125 RX0 yX0_begin wsX0_begin) := goodIn_app (goodIn_of _ (by decide +kernel)) ggX11_state_X0_begin
set_option maxRecDepth 20000 in
theorem ggX11_state_X0_play : GoodIn wsX11_state wsX0_play := goodIn_r _ [43, 16, 23, 24, 17, 18, 19, 20, 44, 45, 46, 14, 47, 25, 21, 22, 30, 48, 49, 50, 51, 29, 27, 26, 28, 52, 53, 54, 55, 56, 57, 34, 58, 38, 37, 59, 60, 61, 62, 39, 63, 64, 65, 66, 36, 67, 68, 69, 70, 95, 96, 97, 98, 105, 106, 107, 108, 109, 110, 111, 112, 113, 114, 115, 116, 117] (by decide +kernel) (by decide +kernel)
set_option maxRecDepth 20000 in
theorem gX11_state_X0_play : GoodIn wsX11_state (wsV RX11 129 RX0 yX0_play wsX0_play) := goodIn_app (goodIn_of _ (by decide +kernel)) ggX11_state_X0_play
set_option maxRecDepth 20000 in
theorem ggX11_state_X0_look : GoodIn wsX11_state wsX0_look := goodIn_r _ [74, 25, 26, 30, 75, 76, 77, 14, 78, 21, 22, 79, 80, 81, 82, 83, 84, 85, 86, 105, 106, 107, 108, 109, 110, 111, 112, 113, 114, 115, 116, 117] (by decide +kernel) (by decide +kernel)
set_option maxRecDepth 20000 in
theorem gX11_state_X0_look : GoodIn wsX11_state (wsV RX11 133 RX0 yX0_look wsX0_look) := goodIn_app (goodIn_of _ (by decide +kernel)) ggX11_state_X0_look
theorem dX11_state_0 : decode cX11_state 0 = .ok (.aload_n 0, 1) := by decide +kernel
theorem dX11_state_1 : decode cX11_state 1 = .ok (.getfield 10, 3) := by decide +kernel
theorem dX11_state_4 : decode cX11_state 4 = .ok (.iconst 0, 1) := by decide +kernel
theorem dX11_state_5 : decode cX11_state 5 = .ok (.iload_n 1, 1) := by decide +kernel
theorem dX11_state_6 : decode cX11_state 6 = .ok (.invokevirtual 99, 3) := by decide +kernel
theorem dX11_state_9 : decode cX11_state 9 = .ok (.astore 5, 2) := by decide +kernel
theorem dX11_state_11 : decode cX11_state 11 = .ok (.aload_n 0, 1) := by decide +kernel
theorem dX11_state_12 : decode cX11_state 12 = .ok (.getfield 10, 3) := by decide +kernel
theorem dX11_state_15 : decode cX11_state 15 = .ok (.iconst 1, 1) := by decide +kernel
theorem dX11_state_16 : decode cX11_state 16 = .ok (.iload_n 2, 1) := by decide +kernel
theorem dX11_state_17 : decode cX11_state 17 = .ok (.invokevirtual 99, 3) := by decide +kernel
theorem dX11_state_20 : decode cX11_state 20 = .ok (.astore 6, 2) := by decide +kernel
theorem dX11_state_22 : decode cX11_state 22 = .ok (.aload 5, 2) := by decide +kernel
theorem dX11_state_24 : decode cX11_state 24 = .ok (.ifnull 21, 3) := by decide +kernel
theorem dX11_state_27 : decode cX11_state 27 = .ok (.aload 6, 2) := by decide +kernel
theorem dX11_state_29 : decode cX11_state 29 = .ok (.ifnull 16, 3) := by decide +kernel
theorem dX11_state_32 : decode cX11_state 32 = .ok (.iload_n 3, 1) := by decide +kernel
theorem dX11_state_33 : decode cX11_state 33 = .ok (.ifCond .lt 12, 3) := by decide +kernel
theorem dX11_state_36 : decode cX11_state 36 = .ok (.iload_n 3, 1) := by decide +kernel
theorem dX11_state_37 : decode cX11_state 37 = .ok (.aload 6, 2) := by decide +kernel
theorem dX11_state_39 : decode cX11_state 39 = .ok (.getfield 103, 3) := by decide +kernel
theorem dX11_state_42 : decode cX11_state 42 = .ok (.if_icmp .le 5, 3) := by decide +kernel
theorem dX11_state_45 : decode cX11_state 45 = .ok (.iconst (-1), 1) := by decide +kernel
theorem dX11_state_46 : decode cX11_state 46 = .ok (.ireturn, 1) := by decide +kernel
theorem dX11_state_47 : decode cX11_state 47 = .ok (.aload_n 0, 1) := by decide +kernel
theorem dX11_state_48 : decode cX11_state 48 = .ok (.getfield 30, 3) := by decide +kernel
theorem dX11_state_51 : decode cX11_state 51 = .ok (.aload 5, 2) := by decide +kernel
theorem dX11_state_53 : decode cX11_state 53 = .ok (.invokevirtual 125, 3) := by decide +kernel
theorem dX11_state_56 : decode cX11_state 56 = .ok (.aload_n 0, 1) := by decide +kernel
theorem dX11_state_57 : decode cX11_state 57 = .ok (.getfield 30, 3) := by decide +kernel
theorem dX11_state_60 : decode cX11_state 60 = .ok (.aload 6, 2) := by decide +kernel
theorem dX11_state_62 : decode cX11_state 62 = .ok (.iload_n 3, 1) := by decide +kernel
theorem dX11_state_63 : decode cX11_state 63 = .ok (.invokevirtual 129, 3) := by decide +kernel
theorem dX11_state_66 : decode cX11_state 66 = .ok (.iload_n 3, 1) := by decide +kernel
theorem dX11_state_67 : decode cX11_state 67 = .ok (.if_icmp .ne 15, 3) := by decide +kernel
theorem dX11_state_70 : decode cX11_state 70 = .ok (.aload_n 0, 1) := by decide +kernel
theorem dX11_state_71 : decode cX11_state 71 = .ok (.getfield 30, 3) := by decide +kernel
theorem dX11_state_74 : decode cX11_state 74 = .ok (.iload 4, 2) := by decide +kernel
theorem dX11_state_76 : decode cX11_state 76 = .ok (.invokevirtual 133, 3) := by decide +kernel
theorem dX11_state_79 : decode cX11_state 79 = .ok (.goto 4, 3) := by decide +kernel
theorem dX11_state_82 : decode cX11_state 82 = .ok (.iconst (-1), 1) := by decide +kernel
theorem dX11_state_83 : decode cX11_state 83 = .ok (.ireturn, 1) := by decide +kernel
set_option maxRecDepth 20000 in
theorem ggX11_tell_X9_find : GoodIn wsX11_tell wsX9_find := goodIn_r _ [6, 7, 8, 239, 240, 241, 242, 243, 244] (by decide +kernel) (by decide +kernel)
set_option maxRecDepth 20000 in
theorem gX11_tell_X9_find : GoodIn wsX11_tell (wsV RX11 99 RX9 yX9_find wsX9_find) := goodIn_app (goodIn_of _ (by decide +kernel)) ggX11_tell_X9_find
set_option maxRecDepth 20000 in
theorem ggX11_tell_X11_isT : GoodIn wsX11_tell wsX11_isT := goodIn_r _ [12] (by decide +kernel) (by decide +kernel)
set_option maxRecDepth 20000 in
theorem gX11_tell_X11_isT : GoodIn wsX11_tell (va_wsS RX11 137 yX11_isT wsX11_isT) := goodIn_app (goodIn_of _ (by decide +kernel)) ggX11_tell_X11_isT
set_option maxRecDepth 20000 in
theorem ggX11_tell_X11_bookOf : GoodIn wsX11_tell wsX11_bookOf := goodIn_r _ [16, 17, 18, 19, 20, 21, 22, 23, 24, 25, 26, 27, 28, 29, 30, 31, 32, 33, 34, 35, 36, 37, 38, 39, 40, 41, 42, 43, 44, 45, 46, 47, 48, 49, 50, 51, 52, 53, 54, 55, 56, 57, 58, 59, 60, 61, 62, 63, 64, 65, 66, 67, 68, 69, 70, 71, 72, 73, 74, 75, 76, 77, 78, 79, 80, 81, 82, 83, 84, 85, 86, 87, 88, 89, 90, 91, 92, 93, 94, 95, 96, 97, 98, 11, 99, 100, 101, 102, 103, 104, 105, 106, 107, 108, 109, 110, 111, 112, 113, 114, 115, 116, 117, 118, 119, 120, 121, 122, 123, 124, 125, 126, 127, 128, 129, 130, 131, 132, 133, 134, 135, 136, 137, 138, 139, 140, 141, 142, 143, 144, 145, 146, 147, 148, 149, 150, 151, 231, 232, 233, 234, 235, 236, 237, 238, 245, 246, 247, 248, 249, 250, 251, 252, 253, 254, 255, 256, 257, 258, 259, 260, 261, 262, 263, 264, 265, 266, 267, 268, 269, 270, 271, 272, 273, 274, 275, 276, 277, 278, 279, 280, 281, 282, 283, 284] (by decide +kernel) (by decide +kernel)
set_option maxRecDepth 20000 in
theorem gX11_tell_X11_bookOf : GoodIn wsX11_tell (wsV RX11 141 RX11 yX11_bookOf wsX11_bookOf) := goodIn_app (goodIn_of _ (by decide +kernel)) ggX11_tell_X11_bookOf
set_option maxRecDepth 20000 in
theorem ggX11_tell_X1_told : GoodIn wsX11_tell wsX1_told := goodIn_r _ [155, 97, 249, 250, 251, 252, 253, 254, 255, 256, 257, 258, 259, 260, 261, 262, 263, 264, 265, 266, 267, 268] (by decide +kernel) (by decide +kernel)
set_option maxRecDepth 20000 in
theorem gX11_tell_X1_told : GoodIn wsX11_tell (wsV RX11 145 RX1 yX1_told wsX1_told) := goodIn_app (goodIn_of _ (by decide +kernel)) ggX11_tell_X1_told
set_option maxRecDepth 20000 in
theorem ggX11_tell_X11_has : GoodIn wsX11_tell wsX11_has := goodIn_r _ [158] (by decide +kernel) (by decide +kernel)
set_option maxRecDepth 20000 in
theorem gX11_tell_X11_has : GoodIn wsX11_tell (va_wsS RX11 148 yX11_has wsX11_has) := goodIn_app (goodIn_of _ (by decide +kernel)) ggX11_tell_X11_has
set_option maxRecDepth 20000 in
theorem ggX11_tell_X1_fewestTurns : GoodIn wsX11_tell wsX1_fewestTurns := goodIn_r _ [162, 94, 43, 163, 164, 165, 21, 166, 57, 167, 168, 96, 45, 169, 27, 170, 171, 29, 30, 31, 32, 172, 173, 174, 175, 176, 177, 178, 100, 101, 102, 103, 179, 180, 181, 56, 182, 78, 183, 184, 185, 186, 82, 80, 187, 188, 189, 190, 191, 77, 81, 192, 193, 194, 195, 196, 11, 197, 156, 157, 158, 249, 250, 251, 252, 253, 254, 255, 256, 257, 258, 259, 260, 261, 262, 263, 264, 265, 266, 267, 268, 278, 279, 280, 281, 282, 269, 270, 271, 272, 273, 274, 275, 276, 277] (by decide +kernel) (by decide +kernel)
set_option maxRecDepth 20000 in
theorem gX11_tell_X1_fewestTurns : GoodIn wsX11_tell (wsV RX11 152 RX1 yX1_fewestTurns wsX1_fewestTurns) := goodIn_app (goodIn_of _ (by decide +kernel)) ggX11_tell_X1_fewestTurns
set_option maxRecDepth 20000 in
theorem ggX11_tell_X1_fewestEvents : GoodIn wsX11_tell wsX1_fewestEvents := goodIn_r _ [201, 27, 202, 157, 11, 158, 249, 250, 251, 252, 253, 254, 255, 256, 257, 258, 259, 260, 261, 262, 263, 264, 265, 266, 267, 268, 269, 270, 271, 272, 273, 274, 275, 276, 277] (by decide +kernel) (by decide +kernel)
set_option maxRecDepth 20000 in
theorem gX11_tell_X1_fewestEvents : GoodIn wsX11_tell (wsV RX11 155 RX1 yX1_fewestEvents wsX1_fewestEvents) := goodIn_app (goodIn_of _ (by decide +kernel)) ggX11_tell_X1_fewestEvents
set_option maxRecDepth 20000 in
theorem ggX11_tell_X1_leastPrice : GoodIn wsX11_tell wsX1_leastPrice := goodIn_r _ [206, 91, 207, 92, 44, 208, 209, 210, 21, 211, 57, 167, 168, 96, 157, 11, 158, 100, 101, 102, 103, 179, 180, 181, 56, 182, 78, 183, 184, 185, 186, 30, 31, 32, 82, 80, 187, 188, 189, 190, 191, 77, 81, 192, 193, 194, 195, 249, 250, 251, 252, 253, 254, 255, 256, 257, 258, 259, 260, 261, 262, 263, 264, 265, 266, 267, 268, 245, 246, 247, 248, 278, 279, 280, 281, 282, 269, 270, 271, 272, 273, 274, 275, 276, 277] (by decide +kernel) (by decide +kernel)
set_option maxRecDepth 20000 in
theorem gX11_tell_X1_leastPrice : GoodIn wsX11_tell (wsV RX11 158 RX1 yX1_leastPrice wsX1_leastPrice) := goodIn_app (goodIn_of _ (by decide +kernel)) ggX11_tell_X1_leastPrice
set_option maxRecDepth 20000 in
theorem ggX11_tell_X11_isGlass : GoodIn wsX11_tell wsX11_isGlass := goodIn_r _ [214, 18, 245, 246, 247, 248] (by decide +kernel) (by decide +kernel)
set_option maxRecDepth 20000 in
theorem gX11_tell_X11_isGlass : GoodIn wsX11_tell (va_wsS RX11 108 yX11_isGlass wsX11_isGlass) := goodIn_app (goodIn_of _ (by decide +kernel)) ggX11_tell_X11_isGlass
set_option maxRecDepth 20000 in
theorem ggX11_tell_X1_usedInRow : GoodIn wsX11_tell wsX1_usedInRow := goodIn_r _ [218, 219, 47, 220, 221, 222, 21, 223, 93, 96, 27, 170, 224, 57, 48, 225, 163, 164, 165, 166, 167, 168, 94, 45, 169, 43, 171, 29, 30, 31, 32, 172, 173, 174, 175, 176, 177, 178, 100, 101, 102, 103, 179, 180, 181, 56, 182, 78, 183, 184, 185, 186, 82, 80, 187, 188, 189, 190, 191, 77, 81, 192, 193, 194, 195, 196, 11, 197, 156, 157, 158, 226, 249, 250, 251, 252, 253, 254, 255, 256, 257, 258, 259, 260, 261, 262, 263, 264, 265, 266, 267, 268, 269, 270, 271, 272, 273, 274, 275, 276, 277, 278, 279, 280, 281, 282] (by decide +kernel) (by decide +kernel)
set_option maxRecDepth 20000 in
theorem gX11_tell_X1_usedInRow : GoodIn wsX11_tell (wsV RX11 161 RX1 yX1_usedInRow wsX1_usedInRow) := goodIn_app (goodIn_of _ (by decide +kernel)) ggX11_tell_X1_usedInRow
set_option maxRecDepth 20000 in
theorem ggX11_tell_X1_rowAt : GoodIn wsX11_tell wsX1_rowAt := goodIn_r _ [230, 219, 47, 48, 220, 221, 222, 21, 223, 93, 96, 27, 170, 224, 57, 225, 163, 164, 165, 166, 167, 168, 94, 45, 169, 43, 171, 29, 30, 31, 32, 172, 173, 174, 175, 176, 177, 178, 100, 101, 102, 103, 179, 180, 181, 56, 182, 78, 183, 184, 185, 186, 82, 80, 187, 188, 189, 190, 191, 77, 81, 192, 193, 194, 195, 196, 11, 197, 156, 157, 158, 226, 249, 250, 251, 252, 253, 254, 255, 256, 257, 258, 259, 260, 261, 262, 263, 264, 265, 266, 267, 268, 269, 270, 271, 272, 273, 274, 275, 276, 277, 278, 279, 280, 281, 282] (by decide +kernel) (by decide +kernel)
set_option maxRecDepth 20000 in
theorem gX11_tell_X1_rowAt : GoodIn wsX11_tell (wsV RX11 164 RX1 yX1_rowAt wsX1_rowAt) := goodIn_app (goodIn_of _ (by decide +kernel)) ggX11_tell_X1_rowAt
theorem dX11_tell_0 : decode cX11_tell 0 = .ok (.aload_n 0, 1) := by decide +kernel
theorem dX11_tell_1 : decode cX11_tell 1 = .ok (.getfield 10, 3) := by decide +kernel
theorem dX11_tell_4 : decode cX11_tell 4 = .ok (.iconst 0, 1) := by decide +kernel
theorem dX11_tell_5 : decode cX11_tell 5 = .ok (.iload_n 1, 1) := by decide +kernel
theorem dX11_tell_6 : decode cX11_tell 6 = .ok (.invokevirtual 99, 3) := by decide +kernel
theorem dX11_tell_9 : decode cX11_tell 9 = .ok (.astore 4, 2) := by decide +kernel
theorem dX11_tell_11 : decode cX11_tell 11 = .ok (.aload 4, 2) := by decide +kernel
theorem dX11_tell_13 : decode cX11_tell 13 = .ok (.ifnull 10, 3) := by decide +kernel
theorem dX11_tell_16 : decode cX11_tell 16 = .ok (.iload_n 2, 1) := by decide +kernel
theorem dX11_tell_17 : decode cX11_tell 17 = .ok (.invokestatic 137, 3) := by decide +kernel
theorem dX11_tell_20 : decode cX11_tell 20 = .ok (.ifCond .ne 5, 3) := by decide +kernel
theorem dX11_tell_23 : decode cX11_tell 23 = .ok (.iconst (-1), 1) := by decide +kernel
theorem dX11_tell_24 : decode cX11_tell 24 = .ok (.ireturn, 1) := by decide +kernel
theorem dX11_tell_25 : decode cX11_tell 25 = .ok (.aload_n 0, 1) := by decide +kernel
theorem dX11_tell_26 : decode cX11_tell 26 = .ok (.iload_n 1, 1) := by decide +kernel
theorem dX11_tell_27 : decode cX11_tell 27 = .ok (.aload 4, 2) := by decide +kernel
theorem dX11_tell_29 : decode cX11_tell 29 = .ok (.invokevirtual 141, 3) := by decide +kernel
theorem dX11_tell_32 : decode cX11_tell 32 = .ok (.astore 5, 2) := by decide +kernel
theorem dX11_tell_34 : decode cX11_tell 34 = .ok (.aload 5, 2) := by decide +kernel
theorem dX11_tell_36 : decode cX11_tell 36 = .ok (.invokevirtual 145, 3) := by decide +kernel
theorem dX11_tell_39 : decode cX11_tell 39 = .ok (.iload_n 2, 1) := by decide +kernel
theorem dX11_tell_40 : decode cX11_tell 40 = .ok (.invokestatic 148, 3) := by decide +kernel
theorem dX11_tell_43 : decode cX11_tell 43 = .ok (.ifCond .ne 5, 3) := by decide +kernel
theorem dX11_tell_46 : decode cX11_tell 46 = .ok (.iconst (-1), 1) := by decide +kernel
theorem dX11_tell_47 : decode cX11_tell 47 = .ok (.ireturn, 1) := by decide +kernel
theorem dX11_tell_48 : decode cX11_tell 48 = .ok (.iload_n 3, 1) := by decide +kernel
theorem dX11_tell_49 : decode cX11_tell 49 = .ok (.tableswitch 50 0 2 #[27, 34, 41], 27) := by decide +kernel
theorem dX11_tell_76 : decode cX11_tell 76 = .ok (.aload 5, 2) := by decide +kernel
theorem dX11_tell_78 : decode cX11_tell 78 = .ok (.iload_n 2, 1) := by decide +kernel
theorem dX11_tell_79 : decode cX11_tell 79 = .ok (.invokevirtual 152, 3) := by decide +kernel
theorem dX11_tell_82 : decode cX11_tell 82 = .ok (.ireturn, 1) := by decide +kernel
theorem dX11_tell_83 : decode cX11_tell 83 = .ok (.aload 5, 2) := by decide +kernel
theorem dX11_tell_85 : decode cX11_tell 85 = .ok (.iload_n 2, 1) := by decide +kernel
theorem dX11_tell_86 : decode cX11_tell 86 = .ok (.invokevirtual 155, 3) := by decide +kernel
theorem dX11_tell_89 : decode cX11_tell 89 = .ok (.ireturn, 1) := by decide +kernel
theorem dX11_tell_90 : decode cX11_tell 90 = .ok (.aload 5, 2) := by decide +kernel
theorem dX11_tell_92 : decode cX11_tell 92 = .ok (.aload 4, 2) := by decide +kernel
theorem dX11_tell_94 : decode cX11_tell 94 = .ok (.iload_n 2, 1) := by decide +kernel
theorem dX11_tell_95 : decode cX11_tell 95 = .ok (.invokevirtual 158, 3) := by decide +kernel
theorem dX11_tell_98 : decode cX11_tell 98 = .ok (.ireturn, 1) := by decide +kernel
theorem dX11_tell_99 : decode cX11_tell 99 = .ok (.aload 4, 2) := by decide +kernel
theorem dX11_tell_101 : decode cX11_tell 101 = .ok (.iload_n 3, 1) := by decide +kernel
theorem dX11_tell_102 : decode cX11_tell 102 = .ok (.iconst 3, 1) := by decide +kernel
theorem dX11_tell_103 : decode cX11_tell 103 = .ok (.invokestatic 108, 3) := by decide +kernel
theorem dX11_tell_106 : decode cX11_tell 106 = .ok (.ifCond .eq 15, 3) := by decide +kernel
theorem dX11_tell_109 : decode cX11_tell 109 = .ok (.aload 5, 2) := by decide +kernel
theorem dX11_tell_111 : decode cX11_tell 111 = .ok (.iload_n 2, 1) := by decide +kernel
theorem dX11_tell_112 : decode cX11_tell 112 = .ok (.iload_n 3, 1) := by decide +kernel
theorem dX11_tell_113 : decode cX11_tell 113 = .ok (.iconst 3, 1) := by decide +kernel
theorem dX11_tell_114 : decode cX11_tell 114 = .ok (.isub, 1) := by decide +kernel
theorem dX11_tell_115 : decode cX11_tell 115 = .ok (.invokevirtual 161, 3) := by decide +kernel
theorem dX11_tell_118 : decode cX11_tell 118 = .ok (.goto 10, 3) := by decide +kernel
theorem dX11_tell_121 : decode cX11_tell 121 = .ok (.aload 5, 2) := by decide +kernel
theorem dX11_tell_123 : decode cX11_tell 123 = .ok (.iload_n 2, 1) := by decide +kernel
theorem dX11_tell_124 : decode cX11_tell 124 = .ok (.iload_n 3, 1) := by decide +kernel
theorem dX11_tell_125 : decode cX11_tell 125 = .ok (.invokevirtual 164, 3) := by decide +kernel
theorem dX11_tell_128 : decode cX11_tell 128 = .ok (.ireturn, 1) := by decide +kernel
set_option maxRecDepth 20000 in
theorem ggX11_purse_X9_find : GoodIn wsX11_purse wsX9_find := goodIn_r _ [6, 7, 8, 192, 193, 194, 195, 196, 197] (by decide +kernel) (by decide +kernel)
set_option maxRecDepth 20000 in
theorem gX11_purse_X9_find : GoodIn wsX11_purse (wsV RX11 99 RX9 yX9_find wsX9_find) := goodIn_app (goodIn_of _ (by decide +kernel)) ggX11_purse_X9_find
set_option maxRecDepth 20000 in
theorem ggX11_purse_X11_bookOf : GoodIn wsX11_purse wsX11_bookOf := goodIn_r _ [13, 14, 15, 16, 17, 18, 19, 20, 21, 22, 23, 24, 25, 26, 27, 28, 29, 30, 31, 32, 33, 34, 35, 36, 37, 38, 39, 40, 41, 42, 43, 44, 45, 46, 47, 48, 49, 50, 51, 52, 53, 54, 55, 56, 57, 58, 59, 60, 61, 62, 63, 64, 65, 66, 67, 68, 69, 70, 71, 72, 73, 74, 75, 76, 77, 78, 79, 80, 81, 82, 83, 84, 85, 86, 87, 88, 89, 90, 91, 92, 93, 94, 95, 12, 96, 97, 98, 99, 100, 101, 102, 103, 104, 105, 106, 107, 108, 109, 110, 111, 112, 113, 114, 115, 116, 117, 118, 119, 120, 121, 122, 123, 124, 125, 126, 127, 128, 129, 130, 131, 132, 133, 134, 135, 136, 137, 138, 139, 140, 141, 142, 143, 144, 145, 146, 147, 148, 184, 185, 186, 187, 188, 189, 190, 191, 198, 199, 200, 201, 202, 203, 204, 205, 206, 207, 208, 209, 210, 211, 212, 213, 214, 215, 216, 217, 218, 219, 220, 221, 222, 223, 224, 225, 226, 227, 228, 229, 230, 231, 232, 233, 234, 235, 236, 237] (by decide +kernel) (by decide +kernel)
set_option maxRecDepth 20000 in
theorem gX11_purse_X11_bookOf : GoodIn wsX11_purse (wsV RX11 141 RX11 yX11_bookOf wsX11_bookOf) := goodIn_app (goodIn_of _ (by decide +kernel)) ggX11_purse_X11_bookOf
set_option maxRecDepth 20000 in
theorem ggX11_purse_X1_told : GoodIn wsX11_purse wsX1_told := goodIn_r _ [152, 94, 202, 203, 204, 205, 206, 207, 208, 209, 210, 211, 212, 213, 214, 215, 216, 217, 218, 219, 220, 221] (by decide +kernel) (by decide +kernel)
set_option maxRecDepth 20000 in
theorem gX11_purse_X1_told : GoodIn wsX11_purse (wsV RX11 145 RX1 yX1_told wsX1_told) := goodIn_app (goodIn_of _ (by decide +kernel)) ggX11_purse_X1_told
set_option maxRecDepth 20000 in
theorem ggX11_purse_X11_has : GoodIn wsX11_purse wsX11_has := goodIn_r _ [155] (by decide +kernel) (by decide +kernel)
set_option maxRecDepth 20000 in
theorem gX11_purse_X11_has : GoodIn wsX11_purse (va_wsS RX11 148 yX11_has wsX11_has) := goodIn_app (goodIn_of _ (by decide +kernel)) ggX11_purse_X11_has
set_option maxRecDepth 20000 in
theorem ggX11_purse_X1_leastPrice : GoodIn wsX11_purse wsX1_leastPrice := goodIn_r _ [159, 88, 160, 89, 41, 161, 162, 163, 18, 164, 54, 165, 166, 93, 154, 12, 155, 97, 98, 99, 100, 167, 168, 169, 53, 170, 75, 171, 172, 173, 174, 27, 28, 29, 79, 77, 175, 176, 177, 178, 179, 74, 78, 180, 181, 182, 183, 202, 203, 204, 205, 206, 207, 208, 209, 210, 211, 212, 213, 214, 215, 216, 217, 218, 219, 220, 221, 198, 199, 200, 201, 231, 232, 233, 234, 235, 222, 223, 224, 225, 226, 227, 228, 229, 230] (by decide +kernel) (by decide +kernel)
set_option maxRecDepth 20000 in
theorem gX11_purse_X1_leastPrice : GoodIn wsX11_purse (wsV RX11 158 RX1 yX1_leastPrice wsX1_leastPrice) := goodIn_app (goodIn_of _ (by decide +kernel)) ggX11_purse_X1_leastPrice
theorem dX11_purse_0 : decode cX11_purse 0 = .ok (.aload_n 0, 1) := by decide +kernel
theorem dX11_purse_1 : decode cX11_purse 1 = .ok (.getfield 10, 3) := by decide +kernel
theorem dX11_purse_4 : decode cX11_purse 4 = .ok (.iconst 0, 1) := by decide +kernel
theorem dX11_purse_5 : decode cX11_purse 5 = .ok (.iload_n 1, 1) := by decide +kernel
theorem dX11_purse_6 : decode cX11_purse 6 = .ok (.invokevirtual 99, 3) := by decide +kernel
theorem dX11_purse_9 : decode cX11_purse 9 = .ok (.astore_n 3, 1) := by decide +kernel
theorem dX11_purse_10 : decode cX11_purse 10 = .ok (.aload_n 3, 1) := by decide +kernel
theorem dX11_purse_11 : decode cX11_purse 11 = .ok (.ifnull 13, 3) := by decide +kernel
theorem dX11_purse_14 : decode cX11_purse 14 = .ok (.iload_n 2, 1) := by decide +kernel
theorem dX11_purse_15 : decode cX11_purse 15 = .ok (.ifCond .lt 9, 3) := by decide +kernel
theorem dX11_purse_18 : decode cX11_purse 18 = .ok (.iload_n 2, 1) := by decide +kernel
theorem dX11_purse_19 : decode cX11_purse 19 = .ok (.bipush 99, 2) := by decide +kernel
theorem dX11_purse_21 : decode cX11_purse 21 = .ok (.if_icmp .le 5, 3) := by decide +kernel
theorem dX11_purse_24 : decode cX11_purse 24 = .ok (.iconst (-1), 1) := by decide +kernel
theorem dX11_purse_25 : decode cX11_purse 25 = .ok (.ireturn, 1) := by decide +kernel
theorem dX11_purse_26 : decode cX11_purse 26 = .ok (.aload_n 0, 1) := by decide +kernel
theorem dX11_purse_27 : decode cX11_purse 27 = .ok (.iload_n 1, 1) := by decide +kernel
theorem dX11_purse_28 : decode cX11_purse 28 = .ok (.aload_n 3, 1) := by decide +kernel
theorem dX11_purse_29 : decode cX11_purse 29 = .ok (.invokevirtual 141, 3) := by decide +kernel
theorem dX11_purse_32 : decode cX11_purse 32 = .ok (.astore 4, 2) := by decide +kernel
theorem dX11_purse_34 : decode cX11_purse 34 = .ok (.iconst 0, 1) := by decide +kernel
theorem dX11_purse_35 : decode cX11_purse 35 = .ok (.istore 5, 2) := by decide +kernel
theorem dX11_purse_37 : decode cX11_purse 37 = .ok (.iconst 1, 1) := by decide +kernel
theorem dX11_purse_38 : decode cX11_purse 38 = .ok (.istore 6, 2) := by decide +kernel
theorem dX11_purse_40 : decode cX11_purse 40 = .ok (.iload 6, 2) := by decide +kernel
theorem dX11_purse_42 : decode cX11_purse 42 = .ok (.bipush 30, 2) := by decide +kernel
theorem dX11_purse_44 : decode cX11_purse 44 = .ok (.if_icmp .gt 43, 3) := by decide +kernel
theorem dX11_purse_47 : decode cX11_purse 47 = .ok (.aload 4, 2) := by decide +kernel
theorem dX11_purse_49 : decode cX11_purse 49 = .ok (.invokevirtual 145, 3) := by decide +kernel
theorem dX11_purse_52 : decode cX11_purse 52 = .ok (.iload 6, 2) := by decide +kernel
theorem dX11_purse_54 : decode cX11_purse 54 = .ok (.invokestatic 148, 3) := by decide +kernel
theorem dX11_purse_57 : decode cX11_purse 57 = .ok (.ifCond .eq 24, 3) := by decide +kernel
theorem dX11_purse_60 : decode cX11_purse 60 = .ok (.aload 4, 2) := by decide +kernel
theorem dX11_purse_62 : decode cX11_purse 62 = .ok (.aload_n 3, 1) := by decide +kernel
theorem dX11_purse_63 : decode cX11_purse 63 = .ok (.iload 6, 2) := by decide +kernel
theorem dX11_purse_65 : decode cX11_purse 65 = .ok (.invokevirtual 158, 3) := by decide +kernel
theorem dX11_purse_68 : decode cX11_purse 68 = .ok (.iload_n 2, 1) := by decide +kernel
theorem dX11_purse_69 : decode cX11_purse 69 = .ok (.if_icmp .gt 12, 3) := by decide +kernel
theorem dX11_purse_72 : decode cX11_purse 72 = .ok (.iload 5, 2) := by decide +kernel
theorem dX11_purse_74 : decode cX11_purse 74 = .ok (.iconst 1, 1) := by decide +kernel
theorem dX11_purse_75 : decode cX11_purse 75 = .ok (.iload 6, 2) := by decide +kernel
theorem dX11_purse_77 : decode cX11_purse 77 = .ok (.ishl, 1) := by decide +kernel
theorem dX11_purse_78 : decode cX11_purse 78 = .ok (.ior, 1) := by decide +kernel
theorem dX11_purse_79 : decode cX11_purse 79 = .ok (.istore 5, 2) := by decide +kernel
theorem dX11_purse_81 : decode cX11_purse 81 = .ok (.iinc 6 1, 3) := by decide +kernel
theorem dX11_purse_84 : decode cX11_purse 84 = .ok (.goto (-44), 3) := by decide +kernel
theorem dX11_purse_87 : decode cX11_purse 87 = .ok (.iload 5, 2) := by decide +kernel
theorem dX11_purse_89 : decode cX11_purse 89 = .ok (.ireturn, 1) := by decide +kernel
set_option maxRecDepth 20000 in
theorem ggX11_apart_X9_find : GoodIn wsX11_apart wsX9_find := goodIn_r _ [6, 7, 8, 161, 162, 163, 164, 165, 166] (by decide +kernel) (by decide +kernel)
set_option maxRecDepth 20000 in
theorem gX11_apart_X9_find : GoodIn wsX11_apart (wsV RX11 99 RX9 yX9_find wsX9_find) := goodIn_app (goodIn_of _ (by decide +kernel)) ggX11_apart_X9_find
set_option maxRecDepth 20000 in
theorem ggX11_apart_X11_bookOf : GoodIn wsX11_apart wsX11_bookOf := goodIn_r _ [13, 14, 15, 16, 17, 18, 19, 20, 21, 22, 23, 24, 25, 26, 27, 28, 29, 30, 31, 32, 33, 34, 35, 36, 37, 38, 39, 40, 41, 42, 43, 44, 45, 46, 47, 48, 49, 50, 51, 52, 53, 54, 55, 56, 57, 58, 59, 60, 61, 62, 63, 64, 65, 66, 67, 68, 69, 70, 71, 72, 73, 74, 75, 76, 77, 78, 79, 80, 81, 82, 83, 84, 85, 86, 87, 88, 89, 90, 91, 92, 93, 94, 95, 12, 96, 97, 98, 99, 100, 101, 102, 103, 104, 105, 106, 107, 108, 109, 110, 111, 112, 113, 114, 115, 116, 117, 118, 119, 120, 121, 122, 123, 124, 125, 126, 127, 128, 129, 130, 131, 132, 133, 134, 135, 136, 137, 138, 139, 140, 141, 142, 143, 144, 145, 146, 147, 148, 153, 154, 155, 156, 157, 158, 159, 160, 167, 168, 169, 170, 171, 172, 173, 174, 175, 176, 177, 178, 179, 180, 181, 182, 183, 184, 185, 186, 187, 188, 189, 190, 191, 192, 193, 194, 195, 196, 197, 198, 199, 200, 201, 202, 203, 204, 205, 206] (by decide +kernel) (by decide +kernel)
set_option maxRecDepth 20000 in
theorem gX11_apart_X11_bookOf : GoodIn wsX11_apart (wsV RX11 141 RX11 yX11_bookOf wsX11_bookOf) := goodIn_app (goodIn_of _ (by decide +kernel)) ggX11_apart_X11_bookOf
set_option maxRecDepth 20000 in
theorem ggX11_apart_X1_told : GoodIn wsX11_apart wsX1_told := goodIn_r _ [152, 94, 171, 172, 173, 174, 175, 176, 177, 178, 179, 180, 181, 182, 183, 184, 185, 186, 187, 188, 189, 190] (by decide +kernel) (by decide +kernel)
set_option maxRecDepth 20000 in
theorem gX11_apart_X1_told : GoodIn wsX11_apart (wsV RX11 145 RX1 yX1_told wsX1_told) := goodIn_app (goodIn_of _ (by decide +kernel)) ggX11_apart_X1_told
theorem dX11_apart_0 : decode cX11_apart 0 = .ok (.aload_n 0, 1) := by decide +kernel
theorem dX11_apart_1 : decode cX11_apart 1 = .ok (.getfield 10, 3) := by decide +kernel
theorem dX11_apart_4 : decode cX11_apart 4 = .ok (.iconst 0, 1) := by decide +kernel
theorem dX11_apart_5 : decode cX11_apart 5 = .ok (.iload_n 1, 1) := by decide +kernel
theorem dX11_apart_6 : decode cX11_apart 6 = .ok (.invokevirtual 99, 3) := by decide +kernel
theorem dX11_apart_9 : decode cX11_apart 9 = .ok (.astore_n 3, 1) := by decide +kernel
theorem dX11_apart_10 : decode cX11_apart 10 = .ok (.aload_n 0, 1) := by decide +kernel
theorem dX11_apart_11 : decode cX11_apart 11 = .ok (.getfield 10, 3) := by decide +kernel
theorem dX11_apart_14 : decode cX11_apart 14 = .ok (.iconst 0, 1) := by decide +kernel
theorem dX11_apart_15 : decode cX11_apart 15 = .ok (.iload_n 2, 1) := by decide +kernel
theorem dX11_apart_16 : decode cX11_apart 16 = .ok (.invokevirtual 99, 3) := by decide +kernel
theorem dX11_apart_19 : decode cX11_apart 19 = .ok (.astore 4, 2) := by decide +kernel
theorem dX11_apart_21 : decode cX11_apart 21 = .ok (.aload_n 3, 1) := by decide +kernel
theorem dX11_apart_22 : decode cX11_apart 22 = .ok (.ifnull 8, 3) := by decide +kernel
theorem dX11_apart_25 : decode cX11_apart 25 = .ok (.aload 4, 2) := by decide +kernel
theorem dX11_apart_27 : decode cX11_apart 27 = .ok (.ifnonnull 5, 3) := by decide +kernel
theorem dX11_apart_30 : decode cX11_apart 30 = .ok (.iconst (-1), 1) := by decide +kernel
theorem dX11_apart_31 : decode cX11_apart 31 = .ok (.ireturn, 1) := by decide +kernel
theorem dX11_apart_32 : decode cX11_apart 32 = .ok (.aload_n 0, 1) := by decide +kernel
theorem dX11_apart_33 : decode cX11_apart 33 = .ok (.iload_n 1, 1) := by decide +kernel
theorem dX11_apart_34 : decode cX11_apart 34 = .ok (.aload_n 3, 1) := by decide +kernel
theorem dX11_apart_35 : decode cX11_apart 35 = .ok (.invokevirtual 141, 3) := by decide +kernel
theorem dX11_apart_38 : decode cX11_apart 38 = .ok (.invokevirtual 145, 3) := by decide +kernel
theorem dX11_apart_41 : decode cX11_apart 41 = .ok (.aload_n 0, 1) := by decide +kernel
theorem dX11_apart_42 : decode cX11_apart 42 = .ok (.iload_n 2, 1) := by decide +kernel
theorem dX11_apart_43 : decode cX11_apart 43 = .ok (.aload 4, 2) := by decide +kernel
theorem dX11_apart_45 : decode cX11_apart 45 = .ok (.invokevirtual 141, 3) := by decide +kernel
theorem dX11_apart_48 : decode cX11_apart 48 = .ok (.invokevirtual 145, 3) := by decide +kernel
theorem dX11_apart_51 : decode cX11_apart 51 = .ok (.iconst (-1), 1) := by decide +kernel
theorem dX11_apart_52 : decode cX11_apart 52 = .ok (.ixor, 1) := by decide +kernel
theorem dX11_apart_53 : decode cX11_apart 53 = .ok (.iand, 1) := by decide +kernel
theorem dX11_apart_54 : decode cX11_apart 54 = .ok (.ireturn, 1) := by decide +kernel
set_option maxRecDepth 20000 in
theorem ggX11_span_X9_find : GoodIn wsX11_span wsX9_find := goodIn_r _ [6, 7, 8, 202, 203, 204, 205, 206, 207] (by decide +kernel) (by decide +kernel)
set_option maxRecDepth 20000 in
theorem gX11_span_X9_find : GoodIn wsX11_span (wsV RX11 99 RX9 yX9_find wsX9_find) := goodIn_app (goodIn_of _ (by decide +kernel)) ggX11_span_X9_find
set_option maxRecDepth 20000 in
theorem ggX11_span_X11_isT : GoodIn wsX11_span wsX11_isT := goodIn_r _ [12] (by decide +kernel) (by decide +kernel)
set_option maxRecDepth 20000 in
theorem gX11_span_X11_isT : GoodIn wsX11_span (va_wsS RX11 137 yX11_isT wsX11_isT) := goodIn_app (goodIn_of _ (by decide +kernel)) ggX11_span_X11_isT
set_option maxRecDepth 20000 in
theorem ggX11_span_X11_bookOf : GoodIn wsX11_span wsX11_bookOf := goodIn_r _ [16, 17, 18, 19, 20, 21, 22, 23, 24, 25, 26, 27, 28, 29, 30, 31, 32, 33, 34, 35, 36, 37, 38, 39, 40, 41, 42, 43, 44, 45, 46, 47, 48, 49, 50, 51, 52, 53, 54, 55, 56, 57, 58, 59, 60, 61, 62, 63, 64, 65, 66, 67, 68, 69, 70, 71, 72, 73, 74, 75, 76, 77, 78, 79, 80, 81, 82, 83, 84, 85, 86, 87, 88, 89, 90, 91, 92, 93, 94, 95, 96, 97, 98, 11, 99, 100, 101, 102, 103, 104, 105, 106, 107, 108, 109, 110, 111, 112, 113, 114, 115, 116, 117, 118, 119, 120, 121, 122, 123, 124, 125, 126, 127, 128, 129, 130, 131, 132, 133, 134, 135, 136, 137, 138, 139, 140, 141, 142, 143, 144, 145, 146, 147, 148, 149, 150, 151, 194, 195, 196, 197, 198, 199, 200, 201, 208, 209, 210, 211, 212, 213, 214, 215, 216, 217, 218, 219, 220, 221, 222, 223, 224, 225, 226, 227, 228, 229, 230, 231, 232, 233, 234, 235, 236, 237, 238, 239, 240, 241, 242, 243, 244, 245, 246, 247] (by decide +kernel) (by decide +kernel)
set_option maxRecDepth 20000 in
theorem gX11_span_X11_bookOf : GoodIn wsX11_span (wsV RX11 141 RX11 yX11_bookOf wsX11_bookOf) := goodIn_app (goodIn_of _ (by decide +kernel)) ggX11_span_X11_bookOf
set_option maxRecDepth 20000 in
theorem ggX11_span_X1_leastSpan : GoodIn wsX11_span wsX1_leastSpan := goodIn_r _ [155, 94, 45, 156, 157, 158, 21, 159, 57, 160, 161, 96, 162, 43, 27, 163, 164, 29, 30, 31, 32, 165, 166, 167, 168, 169, 170, 171, 100, 101, 102, 103, 172, 173, 174, 56, 175, 78, 176, 177, 178, 179, 82, 80, 180, 181, 182, 183, 184, 77, 81, 185, 186, 187, 188, 189, 11, 190, 191, 192, 193, 212, 213, 214, 215, 216, 217, 218, 219, 220, 221, 222, 223, 224, 225, 226, 227, 228, 229, 230, 231, 241, 242, 243, 244, 245, 232, 233, 234, 235, 236, 237, 238, 239, 240] (by decide +kernel) (by decide +kernel)
set_option maxRecDepth 20000 in
theorem gX11_span_X1_leastSpan : GoodIn wsX11_span (wsV RX11 167 RX1 yX1_leastSpan wsX1_leastSpan) := goodIn_app (goodIn_of _ (by decide +kernel)) ggX11_span_X1_leastSpan
theorem dX11_span_0 : decode cX11_span 0 = .ok (.aload_n 0, 1) := by decide +kernel
theorem dX11_span_1 : decode cX11_span 1 = .ok (.getfield 10, 3) := by decide +kernel
theorem dX11_span_4 : decode cX11_span 4 = .ok (.iconst 0, 1) := by decide +kernel
theorem dX11_span_5 : decode cX11_span 5 = .ok (.iload_n 1, 1) := by decide +kernel
theorem dX11_span_6 : decode cX11_span 6 = .ok (.invokevirtual 99, 3) := by decide +kernel
theorem dX11_span_9 : decode cX11_span 9 = .ok (.astore_n 3, 1) := by decide +kernel
theorem dX11_span_10 : decode cX11_span 10 = .ok (.aload_n 3, 1) := by decide +kernel
theorem dX11_span_11 : decode cX11_span 11 = .ok (.ifnull 10, 3) := by decide +kernel
theorem dX11_span_14 : decode cX11_span 14 = .ok (.iload_n 2, 1) := by decide +kernel
theorem dX11_span_15 : decode cX11_span 15 = .ok (.invokestatic 137, 3) := by decide +kernel
theorem dX11_span_18 : decode cX11_span 18 = .ok (.ifCond .ne 5, 3) := by decide +kernel
theorem dX11_span_21 : decode cX11_span 21 = .ok (.iconst (-1), 1) := by decide +kernel
theorem dX11_span_22 : decode cX11_span 22 = .ok (.ireturn, 1) := by decide +kernel
theorem dX11_span_23 : decode cX11_span 23 = .ok (.aload_n 0, 1) := by decide +kernel
theorem dX11_span_24 : decode cX11_span 24 = .ok (.iload_n 1, 1) := by decide +kernel
theorem dX11_span_25 : decode cX11_span 25 = .ok (.aload_n 3, 1) := by decide +kernel
theorem dX11_span_26 : decode cX11_span 26 = .ok (.invokevirtual 141, 3) := by decide +kernel
theorem dX11_span_29 : decode cX11_span 29 = .ok (.iload_n 2, 1) := by decide +kernel
theorem dX11_span_30 : decode cX11_span 30 = .ok (.invokevirtual 167, 3) := by decide +kernel
theorem dX11_span_33 : decode cX11_span 33 = .ok (.ireturn, 1) := by decide +kernel
set_option maxRecDepth 20000 in
theorem ggX11_need_X9_find : GoodIn wsX11_need wsX9_find := goodIn_r _ [6, 7, 8, 178, 179, 180, 181, 182, 183] (by decide +kernel) (by decide +kernel)
set_option maxRecDepth 20000 in
theorem gX11_need_X9_find : GoodIn wsX11_need (wsV RX11 99 RX9 yX9_find wsX9_find) := goodIn_app (goodIn_of _ (by decide +kernel)) ggX11_need_X9_find
set_option maxRecDepth 20000 in
theorem ggX11_need_X11_isT : GoodIn wsX11_need wsX11_isT := goodIn_r _ [12] (by decide +kernel) (by decide +kernel)
set_option maxRecDepth 20000 in
theorem gX11_need_X11_isT : GoodIn wsX11_need (va_wsS RX11 137 yX11_isT wsX11_isT) := goodIn_app (goodIn_of _ (by decide +kernel)) ggX11_need_X11_isT
set_option maxRecDepth 20000 in
theorem ggX11_need_X11_bookOf : GoodIn wsX11_need wsX11_bookOf := goodIn_r _ [16, 17, 18, 19, 20, 21, 22, 23, 24, 25, 26, 27, 28, 29, 30, 31, 32, 33, 34, 35, 36, 37, 38, 39, 40, 41, 42, 43, 44, 45, 46, 47, 48, 49, 50, 51, 52, 53, 54, 55, 56, 57, 58, 59, 60, 61, 62, 63, 64, 65, 66, 67, 68, 69, 70, 71, 72, 73, 74, 75, 76, 77, 78, 79, 80, 81, 82, 83, 84, 85, 86, 87, 88, 89, 90, 91, 92, 93, 94, 95, 96, 97, 98, 11, 99, 100, 101, 102, 103, 104, 105, 106, 107, 108, 109, 110, 111, 112, 113, 114, 115, 116, 117, 118, 119, 120, 121, 122, 123, 124, 125, 126, 127, 128, 129, 130, 131, 132, 133, 134, 135, 136, 137, 138, 139, 140, 141, 142, 143, 144, 145, 146, 147, 148, 149, 150, 151, 170, 171, 172, 173, 174, 175, 176, 177, 184, 185, 186, 187, 188, 189, 190, 191, 192, 193, 194, 195, 196, 197, 198, 199, 200, 201, 202, 203, 204, 205, 206, 207, 208, 209, 210, 211, 212, 213, 214, 215, 216, 217, 218, 219, 220, 221, 222, 223] (by decide +kernel) (by decide +kernel)
set_option maxRecDepth 20000 in
theorem gX11_need_X11_bookOf : GoodIn wsX11_need (wsV RX11 141 RX11 yX11_bookOf wsX11_bookOf) := goodIn_app (goodIn_of _ (by decide +kernel)) ggX11_need_X11_bookOf
set_option maxRecDepth 20000 in
theorem ggX11_need_X1_fewestGlasses : GoodIn wsX11_need wsX1_fewestGlasses := goodIn_r _ [155, 104, 105, 106, 21, 107, 91, 156, 157, 158, 159, 160, 161, 162, 163, 164, 165, 166, 97, 46, 53, 49, 90, 108, 109, 110, 52, 111, 112, 66, 30, 31, 32, 113, 68, 65, 70, 114, 115, 116, 117, 118, 67, 34, 35, 119, 11, 120, 121, 122, 123, 124, 125, 126, 127, 128, 129, 130, 131, 132, 133, 134, 135, 64, 69, 71, 72, 136, 101, 102, 103, 137, 138, 139, 140, 141, 142, 143, 144, 145, 146, 147, 148, 149, 150, 151, 167, 168, 188, 189, 190, 191, 192, 193, 194, 195, 196, 197, 198, 199, 200, 201, 202, 203, 204, 205, 206, 207, 208, 209, 210, 211, 212, 213, 214, 215, 216, 222, 223] (by decide +kernel) (by decide +kernel)
set_option maxRecDepth 20000 in
theorem gX11_need_X1_fewestGlasses : GoodIn wsX11_need (wsV RX11 170 RX1 yX1_fewestGlasses wsX1_fewestGlasses) := goodIn_app (goodIn_of _ (by decide +kernel)) ggX11_need_X1_fewestGlasses
set_option maxRecDepth 20000 in
theorem ggX11_need_J6_bitCount_0f7a4 : GoodIn wsX11_need wsJ6_bitCount_0f7a4 := goodIn_r _ [159, 160, 161, 162] (by decide +kernel) (by decide +kernel)
set_option maxRecDepth 20000 in
theorem gX11_need_J6_bitCount_0f7a4 : GoodIn wsX11_need (va_wsS RX11 173 yJ6_bitCount_0f7a4 wsJ6_bitCount_0f7a4) := goodIn_app (goodIn_of _ (by decide +kernel)) ggX11_need_J6_bitCount_0f7a4
theorem dX11_need_0 : decode cX11_need 0 = .ok (.aload_n 0, 1) := by decide +kernel
theorem dX11_need_1 : decode cX11_need 1 = .ok (.getfield 10, 3) := by decide +kernel
theorem dX11_need_4 : decode cX11_need 4 = .ok (.iconst 0, 1) := by decide +kernel
theorem dX11_need_5 : decode cX11_need 5 = .ok (.iload_n 1, 1) := by decide +kernel
theorem dX11_need_6 : decode cX11_need 6 = .ok (.invokevirtual 99, 3) := by decide +kernel
theorem dX11_need_9 : decode cX11_need 9 = .ok (.astore 4, 2) := by decide +kernel
theorem dX11_need_11 : decode cX11_need 11 = .ok (.aload 4, 2) := by decide +kernel
theorem dX11_need_13 : decode cX11_need 13 = .ok (.ifnull 10, 3) := by decide +kernel
theorem dX11_need_16 : decode cX11_need 16 = .ok (.iload_n 2, 1) := by decide +kernel
theorem dX11_need_17 : decode cX11_need 17 = .ok (.invokestatic 137, 3) := by decide +kernel
theorem dX11_need_20 : decode cX11_need 20 = .ok (.ifCond .ne 5, 3) := by decide +kernel
theorem dX11_need_23 : decode cX11_need 23 = .ok (.iconst (-1), 1) := by decide +kernel
theorem dX11_need_24 : decode cX11_need 24 = .ok (.ireturn, 1) := by decide +kernel
theorem dX11_need_25 : decode cX11_need 25 = .ok (.aload_n 0, 1) := by decide +kernel
theorem dX11_need_26 : decode cX11_need 26 = .ok (.iload_n 1, 1) := by decide +kernel
theorem dX11_need_27 : decode cX11_need 27 = .ok (.aload 4, 2) := by decide +kernel
theorem dX11_need_29 : decode cX11_need 29 = .ok (.invokevirtual 141, 3) := by decide +kernel
theorem dX11_need_32 : decode cX11_need 32 = .ok (.iload_n 2, 1) := by decide +kernel
theorem dX11_need_33 : decode cX11_need 33 = .ok (.invokevirtual 170, 3) := by decide +kernel
theorem dX11_need_36 : decode cX11_need 36 = .ok (.istore 5, 2) := by decide +kernel
theorem dX11_need_38 : decode cX11_need 38 = .ok (.iload 5, 2) := by decide +kernel
theorem dX11_need_40 : decode cX11_need 40 = .ok (.iconst (-1), 1) := by decide +kernel
theorem dX11_need_41 : decode cX11_need 41 = .ok (.if_icmp .ne 5, 3) := by decide +kernel
theorem dX11_need_44 : decode cX11_need 44 = .ok (.iconst (-1), 1) := by decide +kernel
theorem dX11_need_45 : decode cX11_need 45 = .ok (.ireturn, 1) := by decide +kernel
theorem dX11_need_46 : decode cX11_need 46 = .ok (.iload_n 3, 1) := by decide +kernel
theorem dX11_need_47 : decode cX11_need 47 = .ok (.ifCond .eq 8, 3) := by decide +kernel
theorem dX11_need_50 : decode cX11_need 50 = .ok (.iload 5, 2) := by decide +kernel
theorem dX11_need_52 : decode cX11_need 52 = .ok (.goto 8, 3) := by decide +kernel
theorem dX11_need_55 : decode cX11_need 55 = .ok (.iload 5, 2) := by decide +kernel
theorem dX11_need_57 : decode cX11_need 57 = .ok (.invokestatic 173, 3) := by decide +kernel
theorem dX11_need_60 : decode cX11_need 60 = .ok (.ireturn, 1) := by decide +kernel
set_option maxRecDepth 20000 in
theorem ggX11_order_X9_find : GoodIn wsX11_order wsX9_find := goodIn_r _ [8, 9, 10, 23, 24, 25, 26, 27, 28] (by decide +kernel) (by decide +kernel)
set_option maxRecDepth 20000 in
theorem gX11_order_X9_find : GoodIn wsX11_order (wsV RX11 99 RX9 yX9_find wsX9_find) := goodIn_app (goodIn_of _ (by decide +kernel)) ggX11_order_X9_find
theorem dX11_order_0 : decode cX11_order 0 = .ok (.aload_n 0, 1) := by decide +kernel
theorem dX11_order_1 : decode cX11_order 1 = .ok (.getfield 10, 3) := by decide +kernel
theorem dX11_order_4 : decode cX11_order 4 = .ok (.iconst 3, 1) := by decide +kernel
theorem dX11_order_5 : decode cX11_order 5 = .ok (.iload_n 1, 1) := by decide +kernel
theorem dX11_order_6 : decode cX11_order 6 = .ok (.invokevirtual 99, 3) := by decide +kernel
theorem dX11_order_9 : decode cX11_order 9 = .ok (.astore_n 3, 1) := by decide +kernel
theorem dX11_order_10 : decode cX11_order 10 = .ok (.aload_n 3, 1) := by decide +kernel
theorem dX11_order_11 : decode cX11_order 11 = .ok (.ifnonnull 5, 3) := by decide +kernel
theorem dX11_order_14 : decode cX11_order 14 = .ok (.iconst (-1), 1) := by decide +kernel
theorem dX11_order_15 : decode cX11_order 15 = .ok (.ireturn, 1) := by decide +kernel
theorem dX11_order_16 : decode cX11_order 16 = .ok (.iload_n 2, 1) := by decide +kernel
theorem dX11_order_17 : decode cX11_order 17 = .ok (.iconst (-1), 1) := by decide +kernel
theorem dX11_order_18 : decode cX11_order 18 = .ok (.if_icmp .ne 8, 3) := by decide +kernel
theorem dX11_order_21 : decode cX11_order 21 = .ok (.aload_n 3, 1) := by decide +kernel
theorem dX11_order_22 : decode cX11_order 22 = .ok (.getfield 103, 3) := by decide +kernel
theorem dX11_order_25 : decode cX11_order 25 = .ok (.ireturn, 1) := by decide +kernel
theorem dX11_order_26 : decode cX11_order 26 = .ok (.iload_n 2, 1) := by decide +kernel
theorem dX11_order_27 : decode cX11_order 27 = .ok (.ifCond .lt 20, 3) := by decide +kernel
theorem dX11_order_30 : decode cX11_order 30 = .ok (.iload_n 2, 1) := by decide +kernel
theorem dX11_order_31 : decode cX11_order 31 = .ok (.aload_n 3, 1) := by decide +kernel
theorem dX11_order_32 : decode cX11_order 32 = .ok (.getfield 103, 3) := by decide +kernel
theorem dX11_order_35 : decode cX11_order 35 = .ok (.if_icmp .ge 12, 3) := by decide +kernel
theorem dX11_order_38 : decode cX11_order 38 = .ok (.aload_n 3, 1) := by decide +kernel
theorem dX11_order_39 : decode cX11_order 39 = .ok (.getfield 112, 3) := by decide +kernel
theorem dX11_order_42 : decode cX11_order 42 = .ok (.iload_n 2, 1) := by decide +kernel
theorem dX11_order_43 : decode cX11_order 43 = .ok (.iaload, 1) := by decide +kernel
theorem dX11_order_44 : decode cX11_order 44 = .ok (.goto 4, 3) := by decide +kernel
theorem dX11_order_47 : decode cX11_order 47 = .ok (.iconst (-1), 1) := by decide +kernel
theorem dX11_order_48 : decode cX11_order 48 = .ok (.ireturn, 1) := by decide +kernel
set_option maxRecDepth 20000 in
theorem ggX11_plan_X9_find : GoodIn wsX11_plan wsX9_find := goodIn_r _ [7, 8, 9, 192, 193, 194, 195, 196, 197] (by decide +kernel) (by decide +kernel)
set_option maxRecDepth 20000 in
theorem gX11_plan_X9_find : GoodIn wsX11_plan (wsV RX11 99 RX9 yX9_find wsX9_find) := goodIn_app (goodIn_of _ (by decide +kernel)) ggX11_plan_X9_find
set_option maxRecDepth 20000 in
theorem ggX11_plan_X11_bookOf : GoodIn wsX11_plan wsX11_bookOf := goodIn_r _ [14, 15, 2, 16, 17, 18, 19, 20, 21, 22, 23, 24, 25, 26, 27, 28, 29, 30, 31, 32, 33, 34, 35, 36, 37, 38, 39, 40, 41, 42, 43, 44, 45, 46, 47, 48, 49, 50, 51, 52, 53, 54, 55, 56, 57, 58, 59, 60, 61, 62, 63, 64, 65, 66, 67, 68, 69, 70, 71, 72, 73, 74, 75, 76, 77, 78, 79, 80, 81, 82, 83, 84, 85, 86, 87, 88, 89, 90, 91, 92, 93, 94, 95, 13, 96, 97, 98, 99, 100, 101, 102, 103, 104, 105, 106, 107, 108, 109, 110, 111, 112, 113, 114, 115, 116, 117, 118, 119, 120, 121, 122, 123, 124, 125, 126, 127, 128, 129, 130, 131, 132, 133, 134, 135, 136, 137, 138, 139, 140, 141, 142, 143, 144, 145, 146, 147, 148, 180, 181, 182, 183, 184, 185, 186, 187, 188, 189, 190, 191, 198, 199, 200, 201, 202, 203, 204, 205, 206, 207, 208, 209, 210, 211, 212, 213, 214, 215, 216, 217, 218, 219, 220, 221, 222, 223, 224, 225, 226, 227, 228, 229, 230, 231, 232, 233] (by decide +kernel) (by decide +kernel)
set_option maxRecDepth 20000 in
theorem gX11_plan_X11_bookOf : GoodIn wsX11_plan (wsV RX11 141 RX11 yX11_bookOf wsX11_bookOf) := goodIn_app (goodIn_of _ (by decide +kernel)) ggX11_plan_X11_bookOf
set_option maxRecDepth 20000 in
theorem ggX11_plan_X1_leastDone : GoodIn wsX11_plan wsX1_leastDone := goodIn_r _ [152, 93, 54, 153, 154, 85, 84, 24, 155, 156, 26, 27, 28, 29, 97, 98, 99, 100, 157, 158, 159, 53, 160, 75, 161, 162, 163, 164, 79, 77, 165, 166, 167, 168, 169, 74, 78, 170, 171, 172, 173, 174, 175, 176, 18, 177, 178, 179, 198, 199, 200, 201, 202, 203, 204, 205, 206, 207, 208, 209, 210, 211, 212, 213, 214, 215, 216, 217, 227, 228, 229, 230, 231, 188, 189, 190, 191, 218, 219, 220, 221, 222, 223, 224, 225, 226] (by decide +kernel) (by decide +kernel)
set_option maxRecDepth 20000 in
theorem gX11_plan_X1_leastDone : GoodIn wsX11_plan (wsV RX11 178 RX1 yX1_leastDone wsX1_leastDone) := goodIn_app (goodIn_of _ (by decide +kernel)) ggX11_plan_X1_leastDone
theorem dX11_plan_0 : decode cX11_plan 0 = .ok (.aload_n 0, 1) := by decide +kernel
theorem dX11_plan_1 : decode cX11_plan 1 = .ok (.getfield 10, 3) := by decide +kernel
theorem dX11_plan_4 : decode cX11_plan 4 = .ok (.iconst 0, 1) := by decide +kernel
theorem dX11_plan_5 : decode cX11_plan 5 = .ok (.iload_n 1, 1) := by decide +kernel
theorem dX11_plan_6 : decode cX11_plan 6 = .ok (.invokevirtual 99, 3) := by decide +kernel
theorem dX11_plan_9 : decode cX11_plan 9 = .ok (.astore 4, 2) := by decide +kernel
theorem dX11_plan_11 : decode cX11_plan 11 = .ok (.aload_n 0, 1) := by decide +kernel
theorem dX11_plan_12 : decode cX11_plan 12 = .ok (.getfield 10, 3) := by decide +kernel
theorem dX11_plan_15 : decode cX11_plan 15 = .ok (.iconst 3, 1) := by decide +kernel
theorem dX11_plan_16 : decode cX11_plan 16 = .ok (.iload_n 2, 1) := by decide +kernel
theorem dX11_plan_17 : decode cX11_plan 17 = .ok (.invokevirtual 99, 3) := by decide +kernel
theorem dX11_plan_20 : decode cX11_plan 20 = .ok (.astore 5, 2) := by decide +kernel
theorem dX11_plan_22 : decode cX11_plan 22 = .ok (.aload 4, 2) := by decide +kernel
theorem dX11_plan_24 : decode cX11_plan 24 = .ok (.ifnull 21, 3) := by decide +kernel
theorem dX11_plan_27 : decode cX11_plan 27 = .ok (.aload 5, 2) := by decide +kernel
theorem dX11_plan_29 : decode cX11_plan 29 = .ok (.ifnull 16, 3) := by decide +kernel
theorem dX11_plan_32 : decode cX11_plan 32 = .ok (.iload_n 3, 1) := by decide +kernel
theorem dX11_plan_33 : decode cX11_plan 33 = .ok (.ifCond .lt 12, 3) := by decide +kernel
theorem dX11_plan_36 : decode cX11_plan 36 = .ok (.iload_n 3, 1) := by decide +kernel
theorem dX11_plan_37 : decode cX11_plan 37 = .ok (.aload 5, 2) := by decide +kernel
theorem dX11_plan_39 : decode cX11_plan 39 = .ok (.getfield 103, 3) := by decide +kernel
theorem dX11_plan_42 : decode cX11_plan 42 = .ok (.if_icmp .le 5, 3) := by decide +kernel
theorem dX11_plan_45 : decode cX11_plan 45 = .ok (.iconst (-1), 1) := by decide +kernel
theorem dX11_plan_46 : decode cX11_plan 46 = .ok (.ireturn, 1) := by decide +kernel
theorem dX11_plan_47 : decode cX11_plan 47 = .ok (.aload_n 0, 1) := by decide +kernel
theorem dX11_plan_48 : decode cX11_plan 48 = .ok (.iload_n 1, 1) := by decide +kernel
theorem dX11_plan_49 : decode cX11_plan 49 = .ok (.aload 4, 2) := by decide +kernel
theorem dX11_plan_51 : decode cX11_plan 51 = .ok (.invokevirtual 141, 3) := by decide +kernel
theorem dX11_plan_54 : decode cX11_plan 54 = .ok (.aload 5, 2) := by decide +kernel
theorem dX11_plan_56 : decode cX11_plan 56 = .ok (.iload_n 3, 1) := by decide +kernel
theorem dX11_plan_57 : decode cX11_plan 57 = .ok (.invokevirtual 178, 3) := by decide +kernel
theorem dX11_plan_60 : decode cX11_plan 60 = .ok (.ireturn, 1) := by decide +kernel
set_option maxRecDepth 20000 in
theorem ggX11_wheel_X9_find : GoodIn wsX11_wheel wsX9_find := goodIn_r _ [10, 11, 12, 211, 212, 213, 214, 215, 216] (by decide +kernel) (by decide +kernel)
set_option maxRecDepth 20000 in
theorem gX11_wheel_X9_find : GoodIn wsX11_wheel (wsV RX11 99 RX9 yX9_find wsX9_find) := goodIn_app (goodIn_of _ (by decide +kernel)) ggX11_wheel_X9_find
set_option maxRecDepth 20000 in
theorem ggX11_wheel_X11_bookOf : GoodIn wsX11_wheel wsX11_bookOf := goodIn_r _ [17, 18, 19, 20, 21, 22, 23, 24, 25, 26, 27, 28, 29, 30, 31, 32, 33, 34, 35, 36, 37, 38, 39, 40, 41, 42, 43, 44, 45, 46, 47, 48, 49, 50, 51, 52, 53, 54, 55, 56, 57, 58, 59, 60, 61, 62, 63, 64, 65, 66, 67, 68, 69, 70, 71, 72, 73, 74, 75, 76, 77, 78, 79, 80, 81, 82, 83, 84, 85, 86, 87, 88, 89, 90, 91, 92, 93, 94, 95, 96, 97, 98, 99, 16, 100, 101, 102, 103, 104, 105, 106, 107, 108, 109, 110, 111, 112, 113, 114, 115, 116, 117, 118, 119, 120, 121, 122, 123, 124, 125, 126, 127, 128, 129, 130, 131, 132, 133, 134, 135, 136, 137, 138, 139, 140, 141, 142, 143, 144, 145, 146, 147, 148, 149, 150, 151, 152, 195, 196, 197, 198, 199, 200, 201, 202, 217, 218, 219, 220, 221, 222, 223, 224, 225, 226, 227, 228, 229, 230, 231, 232, 233, 234, 235, 236, 237, 238, 239, 240, 241, 242, 243, 244, 245, 246, 247, 248, 249, 250, 251, 252, 253, 254, 255, 256] (by decide +kernel) (by decide +kernel)
set_option maxRecDepth 20000 in
theorem gX11_wheel_X11_bookOf : GoodIn wsX11_wheel (wsV RX11 141 RX11 yX11_bookOf wsX11_bookOf) := goodIn_app (goodIn_of _ (by decide +kernel)) ggX11_wheel_X11_bookOf
set_option maxRecDepth 20000 in
theorem ggX11_wheel_X1_allAtOnce : GoodIn wsX11_wheel wsX1_allAtOnce := goodIn_r _ [156, 28, 157, 158, 159, 160, 50, 29, 161, 105, 106, 107, 22, 108, 92, 120, 16, 121, 122, 221, 222, 223, 224, 225, 226, 227, 228, 229, 230, 231, 232, 233, 234, 235, 236, 237, 238, 239, 240, 241, 242, 243, 244, 245, 246, 247, 248, 249] (by decide +kernel) (by decide +kernel)
set_option maxRecDepth 20000 in
theorem gX11_wheel_X1_allAtOnce : GoodIn wsX11_wheel (wsV RX11 181 RX1 yX1_allAtOnce wsX1_allAtOnce) := goodIn_app (goodIn_of _ (by decide +kernel)) ggX11_wheel_X1_allAtOnce
set_option maxRecDepth 20000 in
theorem ggX11_wheel_X4_begin : GoodIn wsX11_wheel wsX4_begin := goodIn_r _ [166, 167, 168, 169, 170, 171, 172, 173, 99, 16, 100, 217, 218, 219, 220, 203, 204, 205, 206, 207, 208, 209, 210] (by decide +kernel) (by decide +kernel)
set_option maxRecDepth 20000 in
theorem gX11_wheel_X4_begin : GoodIn wsX11_wheel (wsV RX11 184 RX4 yX4_begin wsX4_begin) := goodIn_app (goodIn_of _ (by decide +kernel)) ggX11_wheel_X4_begin
set_option maxRecDepth 20000 in
theorem ggX11_wheel_X4_goRound : GoodIn wsX11_wheel wsX4_goRound := goodIn_r _ [177, 178, 179, 180, 172, 181, 182, 183, 165, 184, 185, 170, 186, 124, 125, 126, 127, 128, 129, 130, 131, 132, 35, 32, 36, 187, 188, 189, 190, 191, 192, 193, 194, 203, 204, 205, 206, 207, 208, 209, 210, 255, 256] (by decide +kernel) (by decide +kernel)
set_option maxRecDepth 20000 in
theorem gX11_wheel_X4_goRound : GoodIn wsX11_wheel (wsV RX11 185 RX4 yX4_goRound wsX4_goRound) := goodIn_app (goodIn_of _ (by decide +kernel)) ggX11_wheel_X4_goRound
theorem dX11_wheel_0 : decode cX11_wheel 0 = .ok (.aload_n 0, 1) := by decide +kernel
theorem dX11_wheel_1 : decode cX11_wheel 1 = .ok (.getfield 10, 3) := by decide +kernel
theorem dX11_wheel_4 : decode cX11_wheel 4 = .ok (.iconst 0, 1) := by decide +kernel
theorem dX11_wheel_5 : decode cX11_wheel 5 = .ok (.iload_n 1, 1) := by decide +kernel
theorem dX11_wheel_6 : decode cX11_wheel 6 = .ok (.invokevirtual 99, 3) := by decide +kernel
theorem dX11_wheel_9 : decode cX11_wheel 9 = .ok (.astore_n 3, 1) := by decide +kernel
theorem dX11_wheel_10 : decode cX11_wheel 10 = .ok (.aload_n 3, 1) := by decide +kernel
theorem dX11_wheel_11 : decode cX11_wheel 11 = .ok (.ifnonnull 6, 3) := by decide +kernel
theorem dX11_wheel_14 : decode cX11_wheel 14 = .ok (.bipush (-2), 2) := by decide +kernel
theorem dX11_wheel_16 : decode cX11_wheel 16 = .ok (.ireturn, 1) := by decide +kernel
theorem dX11_wheel_17 : decode cX11_wheel 17 = .ok (.iload_n 2, 1) := by decide +kernel
theorem dX11_wheel_18 : decode cX11_wheel 18 = .ok (.ifCond .ne 13, 3) := by decide +kernel
theorem dX11_wheel_21 : decode cX11_wheel 21 = .ok (.aload_n 0, 1) := by decide +kernel
theorem dX11_wheel_22 : decode cX11_wheel 22 = .ok (.iload_n 1, 1) := by decide +kernel
theorem dX11_wheel_23 : decode cX11_wheel 23 = .ok (.aload_n 3, 1) := by decide +kernel
theorem dX11_wheel_24 : decode cX11_wheel 24 = .ok (.invokevirtual 141, 3) := by decide +kernel
theorem dX11_wheel_27 : decode cX11_wheel 27 = .ok (.invokevirtual 181, 3) := by decide +kernel
theorem dX11_wheel_30 : decode cX11_wheel 30 = .ok (.ireturn, 1) := by decide +kernel
theorem dX11_wheel_31 : decode cX11_wheel 31 = .ok (.aload_n 0, 1) := by decide +kernel
theorem dX11_wheel_32 : decode cX11_wheel 32 = .ok (.getfield 53, 3) := by decide +kernel
theorem dX11_wheel_35 : decode cX11_wheel 35 = .ok (.aload_n 3, 1) := by decide +kernel
theorem dX11_wheel_36 : decode cX11_wheel 36 = .ok (.invokevirtual 184, 3) := by decide +kernel
theorem dX11_wheel_39 : decode cX11_wheel 39 = .ok (.aload_n 0, 1) := by decide +kernel
theorem dX11_wheel_40 : decode cX11_wheel 40 = .ok (.getfield 53, 3) := by decide +kernel
theorem dX11_wheel_43 : decode cX11_wheel 43 = .ok (.invokevirtual 185, 3) := by decide +kernel
theorem dX11_wheel_46 : decode cX11_wheel 46 = .ok (.iload_n 2, 1) := by decide +kernel
theorem dX11_wheel_47 : decode cX11_wheel 47 = .ok (.tableswitch 49 1 3 #[25, 33, 41], 25) := by decide +kernel
theorem dX11_wheel_72 : decode cX11_wheel 72 = .ok (.aload_n 0, 1) := by decide +kernel
theorem dX11_wheel_73 : decode cX11_wheel 73 = .ok (.getfield 53, 3) := by decide +kernel
theorem dX11_wheel_76 : decode cX11_wheel 76 = .ok (.getfield 188, 3) := by decide +kernel
theorem dX11_wheel_79 : decode cX11_wheel 79 = .ok (.ireturn, 1) := by decide +kernel
theorem dX11_wheel_80 : decode cX11_wheel 80 = .ok (.aload_n 0, 1) := by decide +kernel
theorem dX11_wheel_81 : decode cX11_wheel 81 = .ok (.getfield 53, 3) := by decide +kernel
theorem dX11_wheel_84 : decode cX11_wheel 84 = .ok (.getfield 191, 3) := by decide +kernel
theorem dX11_wheel_87 : decode cX11_wheel 87 = .ok (.ireturn, 1) := by decide +kernel
theorem dX11_wheel_88 : decode cX11_wheel 88 = .ok (.aload_n 0, 1) := by decide +kernel
theorem dX11_wheel_89 : decode cX11_wheel 89 = .ok (.getfield 53, 3) := by decide +kernel
theorem dX11_wheel_92 : decode cX11_wheel 92 = .ok (.getfield 194, 3) := by decide +kernel
theorem dX11_wheel_95 : decode cX11_wheel 95 = .ok (.ireturn, 1) := by decide +kernel
theorem dX11_wheel_96 : decode cX11_wheel 96 = .ok (.bipush (-2), 2) := by decide +kernel
theorem dX11_wheel_98 : decode cX11_wheel 98 = .ok (.ireturn, 1) := by decide +kernel
set_option maxRecDepth 20000 in
theorem ggX11_luck_X9_find : GoodIn wsX11_luck wsX9_find := goodIn_r _ [12, 13, 14, 179, 180, 181, 182, 183, 184] (by decide +kernel) (by decide +kernel)
set_option maxRecDepth 20000 in
theorem gX11_luck_X9_find : GoodIn wsX11_luck (wsV RX11 99 RX9 yX9_find wsX9_find) := goodIn_app (goodIn_of _ (by decide +kernel)) ggX11_luck_X9_find
set_option maxRecDepth 20000 in
theorem ggX11_luck_X11_bookOf : GoodIn wsX11_luck wsX11_bookOf := goodIn_r _ [19, 20, 3, 21, 22, 23, 24, 25, 26, 27, 28, 29, 30, 31, 32, 6, 33, 34, 35, 36, 37, 38, 39, 40, 41, 42, 43, 44, 45, 46, 47, 48, 49, 50, 51, 52, 53, 54, 55, 56, 57, 58, 59, 60, 61, 62, 63, 64, 65, 66, 67, 68, 69, 70, 71, 72, 73, 74, 75, 76, 77, 78, 79, 80, 81, 82, 83, 84, 85, 86, 87, 88, 89, 90, 91, 92, 93, 94, 95, 96, 97, 98, 99, 18, 100, 101, 102, 103, 104, 105, 106, 107, 108, 109, 110, 111, 112, 113, 114, 115, 116, 117, 118, 119, 120, 121, 122, 123, 124, 125, 126, 127, 128, 129, 130, 131, 132, 133, 134, 135, 136, 137, 138, 139, 140, 141, 142, 143, 144, 145, 146, 147, 148, 149, 150, 151, 152, 167, 168, 169, 170, 171, 172, 173, 174, 175, 176, 177, 178, 185, 186, 187, 188, 189, 190, 191, 192, 193, 194, 195, 196, 197, 198, 199, 200, 201, 202, 203, 204, 205, 206, 207, 208, 209, 210, 211, 212, 213, 214, 215, 216, 217, 218, 219, 220] (by decide +kernel) (by decide +kernel)
set_option maxRecDepth 20000 in
theorem gX11_luck_X11_bookOf : GoodIn wsX11_luck (wsV RX11 141 RX11 yX11_bookOf wsX11_bookOf) := goodIn_app (goodIn_of _ (by decide +kernel)) ggX11_luck_X11_bookOf
set_option maxRecDepth 20000 in
theorem ggX11_luck_X1_luckOver : GoodIn wsX11_luck wsX1_luckOver := goodIn_r _ [156, 96, 29, 157, 60, 30, 158, 159, 160, 23, 161, 162, 163, 92, 185, 186, 187, 188, 189, 190, 191, 192, 193, 194, 195, 196, 197, 198, 199, 200, 201, 202, 203, 204, 205, 206, 207, 208, 209, 210, 211, 212, 213] (by decide +kernel) (by decide +kernel)
set_option maxRecDepth 20000 in
theorem gX11_luck_X1_luckOver : GoodIn wsX11_luck (wsV RX11 199 RX1 yX1_luckOver wsX1_luckOver) := goodIn_app (goodIn_of _ (by decide +kernel)) ggX11_luck_X1_luckOver
set_option maxRecDepth 20000 in
theorem ggX11_luck_X11_common : GoodIn wsX11_luck wsX11_common := goodIn_r _ [166] (by decide +kernel) (by decide +kernel)
set_option maxRecDepth 20000 in
theorem gX11_luck_X11_common : GoodIn wsX11_luck (va_wsS RX11 203 yX11_common wsX11_common) := goodIn_app (goodIn_of _ (by decide +kernel)) ggX11_luck_X11_common
theorem dX11_luck_0 : decode cX11_luck 0 = .ok (.aload_n 0, 1) := by decide +kernel
theorem dX11_luck_1 : decode cX11_luck 1 = .ok (.getfield 10, 3) := by decide +kernel
theorem dX11_luck_4 : decode cX11_luck 4 = .ok (.iconst 0, 1) := by decide +kernel
theorem dX11_luck_5 : decode cX11_luck 5 = .ok (.iload_n 1, 1) := by decide +kernel
theorem dX11_luck_6 : decode cX11_luck 6 = .ok (.invokevirtual 99, 3) := by decide +kernel
theorem dX11_luck_9 : decode cX11_luck 9 = .ok (.astore 4, 2) := by decide +kernel
theorem dX11_luck_11 : decode cX11_luck 11 = .ok (.aload 4, 2) := by decide +kernel
theorem dX11_luck_13 : decode cX11_luck 13 = .ok (.ifnull 14, 3) := by decide +kernel
theorem dX11_luck_16 : decode cX11_luck 16 = .ok (.iload_n 2, 1) := by decide +kernel
theorem dX11_luck_17 : decode cX11_luck 17 = .ok (.iconst 1, 1) := by decide +kernel
theorem dX11_luck_18 : decode cX11_luck 18 = .ok (.if_icmp .lt 9, 3) := by decide +kernel
theorem dX11_luck_21 : decode cX11_luck 21 = .ok (.iload_n 2, 1) := by decide +kernel
theorem dX11_luck_22 : decode cX11_luck 22 = .ok (.bipush 10, 2) := by decide +kernel
theorem dX11_luck_24 : decode cX11_luck 24 = .ok (.if_icmp .le 7, 3) := by decide +kernel
theorem dX11_luck_27 : decode cX11_luck 27 = .ok (.ldc2_w 197, 3) := by decide +kernel
theorem dX11_luck_30 : decode cX11_luck 30 = .ok (.lreturn, 1) := by decide +kernel
theorem dX11_luck_31 : decode cX11_luck 31 = .ok (.aload_n 0, 1) := by decide +kernel
theorem dX11_luck_32 : decode cX11_luck 32 = .ok (.iload_n 1, 1) := by decide +kernel
theorem dX11_luck_33 : decode cX11_luck 33 = .ok (.aload 4, 2) := by decide +kernel
theorem dX11_luck_35 : decode cX11_luck 35 = .ok (.invokevirtual 141, 3) := by decide +kernel
theorem dX11_luck_38 : decode cX11_luck 38 = .ok (.iload_n 2, 1) := by decide +kernel
theorem dX11_luck_39 : decode cX11_luck 39 = .ok (.invokevirtual 199, 3) := by decide +kernel
theorem dX11_luck_42 : decode cX11_luck 42 = .ok (.lstore 5, 2) := by decide +kernel
theorem dX11_luck_44 : decode cX11_luck 44 = .ok (.lconst 1, 1) := by decide +kernel
theorem dX11_luck_45 : decode cX11_luck 45 = .ok (.aload 4, 2) := by decide +kernel
theorem dX11_luck_47 : decode cX11_luck 47 = .ok (.getfield 103, 3) := by decide +kernel
theorem dX11_luck_50 : decode cX11_luck 50 = .ok (.iload_n 2, 1) := by decide +kernel
theorem dX11_luck_51 : decode cX11_luck 51 = .ok (.imul, 1) := by decide +kernel
theorem dX11_luck_52 : decode cX11_luck 52 = .ok (.lshl, 1) := by decide +kernel
theorem dX11_luck_53 : decode cX11_luck 53 = .ok (.lstore 7, 2) := by decide +kernel
theorem dX11_luck_55 : decode cX11_luck 55 = .ok (.lload 5, 2) := by decide +kernel
theorem dX11_luck_57 : decode cX11_luck 57 = .ok (.lload 7, 2) := by decide +kernel
theorem dX11_luck_59 : decode cX11_luck 59 = .ok (.invokestatic 203, 3) := by decide +kernel
theorem dX11_luck_62 : decode cX11_luck 62 = .ok (.lstore 9, 2) := by decide +kernel
theorem dX11_luck_64 : decode cX11_luck 64 = .ok (.iload_n 3, 1) := by decide +kernel
theorem dX11_luck_65 : decode cX11_luck 65 = .ok (.ifCond .eq 8, 3) := by decide +kernel
theorem dX11_luck_68 : decode cX11_luck 68 = .ok (.lload 7, 2) := by decide +kernel
theorem dX11_luck_70 : decode cX11_luck 70 = .ok (.goto 5, 3) := by decide +kernel
theorem dX11_luck_73 : decode cX11_luck 73 = .ok (.lload 5, 2) := by decide +kernel
theorem dX11_luck_75 : decode cX11_luck 75 = .ok (.lconst 1, 1) := by decide +kernel
theorem dX11_luck_76 : decode cX11_luck 76 = .ok (.lload 9, 2) := by decide +kernel
theorem dX11_luck_78 : decode cX11_luck 78 = .ok (.invokestatic 207, 3) := by decide +kernel
theorem dX11_luck_81 : decode cX11_luck 81 = .ok (.ldiv, 1) := by decide +kernel
theorem dX11_luck_82 : decode cX11_luck 82 = .ok (.lreturn, 1) := by decide +kernel
set_option maxRecDepth 20000 in
theorem ggX11_duel_X9_find : GoodIn wsX11_duel wsX9_find := goodIn_r _ [7, 8, 9, 62, 63, 64, 65, 66, 67] (by decide +kernel) (by decide +kernel)
set_option maxRecDepth 20000 in
theorem gX11_duel_X9_find : GoodIn wsX11_duel (wsV RX11 99 RX9 yX9_find wsX9_find) := goodIn_app (goodIn_of _ (by decide +kernel)) ggX11_duel_X9_find
set_option maxRecDepth 20000 in
theorem ggX11_duel_X4_begin : GoodIn wsX11_duel wsX4_begin := goodIn_r _ [14, 15, 16, 17, 18, 19, 20, 21, 22, 23, 24, 68, 69, 70, 71, 72, 73, 74, 75, 76, 77, 78, 79] (by decide +kernel) (by decide +kernel)
set_option maxRecDepth 20000 in
theorem gX11_duel_X4_begin : GoodIn wsX11_duel (wsV RX11 184 RX4 yX4_begin wsX4_begin) := goodIn_app (goodIn_of _ (by decide +kernel)) ggX11_duel_X4_begin
set_option maxRecDepth 20000 in
theorem ggX11_duel_X4_bestOfDuel : GoodIn wsX11_duel wsX4_bestOfDuel := goodIn_r _ [28, 20, 29, 30, 31, 32, 33, 34, 35, 13, 36, 21, 37, 18, 38, 39, 40, 41, 23, 42, 43, 44, 45, 46, 47, 48, 49, 50, 51, 52, 53, 72, 73, 74, 75, 76, 77, 78, 79, 80, 81] (by decide +kernel) (by decide +kernel)
set_option maxRecDepth 20000 in
theorem gX11_duel_X4_bestOfDuel : GoodIn wsX11_duel (wsV RX11 212 RX4 yX4_bestOfDuel wsX4_bestOfDuel) := goodIn_app (goodIn_of _ (by decide +kernel)) ggX11_duel_X4_bestOfDuel
theorem dX11_duel_0 : decode cX11_duel 0 = .ok (.aload_n 0, 1) := by decide +kernel
theorem dX11_duel_1 : decode cX11_duel 1 = .ok (.getfield 10, 3) := by decide +kernel
theorem dX11_duel_4 : decode cX11_duel 4 = .ok (.iconst 0, 1) := by decide +kernel
theorem dX11_duel_5 : decode cX11_duel 5 = .ok (.iload_n 1, 1) := by decide +kernel
theorem dX11_duel_6 : decode cX11_duel 6 = .ok (.invokevirtual 99, 3) := by decide +kernel
theorem dX11_duel_9 : decode cX11_duel 9 = .ok (.astore 4, 2) := by decide +kernel
theorem dX11_duel_11 : decode cX11_duel 11 = .ok (.aload 4, 2) := by decide +kernel
theorem dX11_duel_13 : decode cX11_duel 13 = .ok (.ifnull 12, 3) := by decide +kernel
theorem dX11_duel_16 : decode cX11_duel 16 = .ok (.iload_n 2, 1) := by decide +kernel
theorem dX11_duel_17 : decode cX11_duel 17 = .ok (.ifCond .lt 8, 3) := by decide +kernel
theorem dX11_duel_20 : decode cX11_duel 20 = .ok (.iload_n 2, 1) := by decide +kernel
theorem dX11_duel_21 : decode cX11_duel 21 = .ok (.iconst 4, 1) := by decide +kernel
theorem dX11_duel_22 : decode cX11_duel 22 = .ok (.if_icmp .le 6, 3) := by decide +kernel
theorem dX11_duel_25 : decode cX11_duel 25 = .ok (.bipush (-9), 2) := by decide +kernel
theorem dX11_duel_27 : decode cX11_duel 27 = .ok (.ireturn, 1) := by decide +kernel
theorem dX11_duel_28 : decode cX11_duel 28 = .ok (.iload_n 2, 1) := by decide +kernel
theorem dX11_duel_29 : decode cX11_duel 29 = .ok (.ifCond .ne 13, 3) := by decide +kernel
theorem dX11_duel_32 : decode cX11_duel 32 = .ok (.iload_n 3, 1) := by decide +kernel
theorem dX11_duel_33 : decode cX11_duel 33 = .ok (.ifCond .eq 7, 3) := by decide +kernel
theorem dX11_duel_36 : decode cX11_duel 36 = .ok (.iconst (-1), 1) := by decide +kernel
theorem dX11_duel_37 : decode cX11_duel 37 = .ok (.goto 4, 3) := by decide +kernel
theorem dX11_duel_40 : decode cX11_duel 40 = .ok (.iconst 0, 1) := by decide +kernel
theorem dX11_duel_41 : decode cX11_duel 41 = .ok (.ireturn, 1) := by decide +kernel
theorem dX11_duel_42 : decode cX11_duel 42 = .ok (.aload_n 0, 1) := by decide +kernel
theorem dX11_duel_43 : decode cX11_duel 43 = .ok (.getfield 53, 3) := by decide +kernel
theorem dX11_duel_46 : decode cX11_duel 46 = .ok (.aload 4, 2) := by decide +kernel
theorem dX11_duel_48 : decode cX11_duel 48 = .ok (.invokevirtual 184, 3) := by decide +kernel
theorem dX11_duel_51 : decode cX11_duel 51 = .ok (.aload_n 0, 1) := by decide +kernel
theorem dX11_duel_52 : decode cX11_duel 52 = .ok (.getfield 53, 3) := by decide +kernel
theorem dX11_duel_55 : decode cX11_duel 55 = .ok (.iload_n 2, 1) := by decide +kernel
theorem dX11_duel_56 : decode cX11_duel 56 = .ok (.invokevirtual 212, 3) := by decide +kernel
theorem dX11_duel_59 : decode cX11_duel 59 = .ok (.istore 5, 2) := by decide +kernel
theorem dX11_duel_61 : decode cX11_duel 61 = .ok (.iload_n 3, 1) := by decide +kernel
theorem dX11_duel_62 : decode cX11_duel 62 = .ok (.ifCond .eq 11, 3) := by decide +kernel
theorem dX11_duel_65 : decode cX11_duel 65 = .ok (.iload 5, 2) := by decide +kernel
theorem dX11_duel_67 : decode cX11_duel 67 = .ok (.bipush 16, 2) := by decide +kernel
theorem dX11_duel_69 : decode cX11_duel 69 = .ok (.irem, 1) := by decide +kernel
theorem dX11_duel_70 : decode cX11_duel 70 = .ok (.goto 8, 3) := by decide +kernel
theorem dX11_duel_73 : decode cX11_duel 73 = .ok (.iload 5, 2) := by decide +kernel
theorem dX11_duel_75 : decode cX11_duel 75 = .ok (.bipush 16, 2) := by decide +kernel
theorem dX11_duel_77 : decode cX11_duel 77 = .ok (.idiv, 1) := by decide +kernel
theorem dX11_duel_78 : decode cX11_duel 78 = .ok (.ireturn, 1) := by decide +kernel
set_option maxRecDepth 20000 in
theorem ggX11_chance_X9_find : GoodIn wsX11_chance wsX9_find := goodIn_r _ [12, 13, 14, 65, 66, 67, 68, 69, 70] (by decide +kernel) (by decide +kernel)
set_option maxRecDepth 20000 in
theorem gX11_chance_X9_find : GoodIn wsX11_chance (wsV RX11 99 RX9 yX9_find wsX9_find) := goodIn_app (goodIn_of _ (by decide +kernel)) ggX11_chance_X9_find
set_option maxRecDepth 20000 in
theorem ggX11_chance_X4_begin : GoodIn wsX11_chance wsX4_begin := goodIn_r _ [19, 20, 21, 22, 23, 24, 25, 26, 27, 28, 29, 61, 62, 63, 64, 71, 72, 73, 74, 75, 76, 77, 78] (by decide +kernel) (by decide +kernel)
set_option maxRecDepth 20000 in
theorem gX11_chance_X4_begin : GoodIn wsX11_chance (wsV RX11 184 RX4 yX4_begin wsX4_begin) := goodIn_app (goodIn_of _ (by decide +kernel)) ggX11_chance_X4_begin
set_option maxRecDepth 20000 in
theorem ggX11_chance_X4_chanceOver : GoodIn wsX11_chance wsX4_chanceOver := goodIn_r _ [33, 26, 34, 23, 25, 21, 35, 28, 36, 37, 38, 39, 40, 41, 42, 43, 44, 45, 46, 47, 5, 6, 7, 48, 49, 71, 72, 73, 74, 75, 76, 77, 78, 79, 80] (by decide +kernel) (by decide +kernel)
set_option maxRecDepth 20000 in
theorem gX11_chance_X4_chanceOver : GoodIn wsX11_chance (wsV RX11 215 RX4 yX4_chanceOver wsX4_chanceOver) := goodIn_app (goodIn_of _ (by decide +kernel)) ggX11_chance_X4_chanceOver
set_option maxRecDepth 20000 in
theorem ggX11_chance_X11_common : GoodIn wsX11_chance wsX11_common := goodIn_r _ [52] (by decide +kernel) (by decide +kernel)
set_option maxRecDepth 20000 in
theorem gX11_chance_X11_common : GoodIn wsX11_chance (va_wsS RX11 203 yX11_common wsX11_common) := goodIn_app (goodIn_of _ (by decide +kernel)) ggX11_chance_X11_common
theorem dX11_chance_0 : decode cX11_chance 0 = .ok (.aload_n 0, 1) := by decide +kernel
theorem dX11_chance_1 : decode cX11_chance 1 = .ok (.getfield 10, 3) := by decide +kernel
theorem dX11_chance_4 : decode cX11_chance 4 = .ok (.iconst 0, 1) := by decide +kernel
theorem dX11_chance_5 : decode cX11_chance 5 = .ok (.iload_n 1, 1) := by decide +kernel
theorem dX11_chance_6 : decode cX11_chance 6 = .ok (.invokevirtual 99, 3) := by decide +kernel
theorem dX11_chance_9 : decode cX11_chance 9 = .ok (.astore 5, 2) := by decide +kernel
theorem dX11_chance_11 : decode cX11_chance 11 = .ok (.aload 5, 2) := by decide +kernel
theorem dX11_chance_13 : decode cX11_chance 13 = .ok (.ifnull 23, 3) := by decide +kernel
theorem dX11_chance_16 : decode cX11_chance 16 = .ok (.iload_n 2, 1) := by decide +kernel
theorem dX11_chance_17 : decode cX11_chance 17 = .ok (.ifCond .lt 19, 3) := by decide +kernel
theorem dX11_chance_20 : decode cX11_chance 20 = .ok (.iload_n 2, 1) := by decide +kernel
theorem dX11_chance_21 : decode cX11_chance 21 = .ok (.bipush 10, 2) := by decide +kernel
theorem dX11_chance_23 : decode cX11_chance 23 = .ok (.if_icmp .gt 13, 3) := by decide +kernel
theorem dX11_chance_26 : decode cX11_chance 26 = .ok (.iload_n 3, 1) := by decide +kernel
theorem dX11_chance_27 : decode cX11_chance 27 = .ok (.ifCond .lt 9, 3) := by decide +kernel
theorem dX11_chance_30 : decode cX11_chance 30 = .ok (.iload_n 3, 1) := by decide +kernel
theorem dX11_chance_31 : decode cX11_chance 31 = .ok (.bipush 7, 2) := by decide +kernel
theorem dX11_chance_33 : decode cX11_chance 33 = .ok (.if_icmp .le 5, 3) := by decide +kernel
theorem dX11_chance_36 : decode cX11_chance 36 = .ok (.iconst (-1), 1) := by decide +kernel
theorem dX11_chance_37 : decode cX11_chance 37 = .ok (.ireturn, 1) := by decide +kernel
theorem dX11_chance_38 : decode cX11_chance 38 = .ok (.aload_n 0, 1) := by decide +kernel
theorem dX11_chance_39 : decode cX11_chance 39 = .ok (.getfield 53, 3) := by decide +kernel
theorem dX11_chance_42 : decode cX11_chance 42 = .ok (.aload 5, 2) := by decide +kernel
theorem dX11_chance_44 : decode cX11_chance 44 = .ok (.invokevirtual 184, 3) := by decide +kernel
theorem dX11_chance_47 : decode cX11_chance 47 = .ok (.aload_n 0, 1) := by decide +kernel
theorem dX11_chance_48 : decode cX11_chance 48 = .ok (.getfield 53, 3) := by decide +kernel
theorem dX11_chance_51 : decode cX11_chance 51 = .ok (.iload_n 2, 1) := by decide +kernel
theorem dX11_chance_52 : decode cX11_chance 52 = .ok (.iload_n 3, 1) := by decide +kernel
theorem dX11_chance_53 : decode cX11_chance 53 = .ok (.invokevirtual 215, 3) := by decide +kernel
theorem dX11_chance_56 : decode cX11_chance 56 = .ok (.istore 6, 2) := by decide +kernel
theorem dX11_chance_58 : decode cX11_chance 58 = .ok (.iconst 1, 1) := by decide +kernel
theorem dX11_chance_59 : decode cX11_chance 59 = .ok (.istore 7, 2) := by decide +kernel
theorem dX11_chance_61 : decode cX11_chance 61 = .ok (.iconst 0, 1) := by decide +kernel
theorem dX11_chance_62 : decode cX11_chance 62 = .ok (.istore 8, 2) := by decide +kernel
theorem dX11_chance_64 : decode cX11_chance 64 = .ok (.iload 8, 2) := by decide +kernel
theorem dX11_chance_66 : decode cX11_chance 66 = .ok (.aload 5, 2) := by decide +kernel
theorem dX11_chance_68 : decode cX11_chance 68 = .ok (.getfield 103, 3) := by decide +kernel
theorem dX11_chance_71 : decode cX11_chance 71 = .ok (.if_icmp .ge 16, 3) := by decide +kernel
theorem dX11_chance_74 : decode cX11_chance 74 = .ok (.iload 7, 2) := by decide +kernel
theorem dX11_chance_76 : decode cX11_chance 76 = .ok (.bipush 10, 2) := by decide +kernel
theorem dX11_chance_78 : decode cX11_chance 78 = .ok (.imul, 1) := by decide +kernel
theorem dX11_chance_79 : decode cX11_chance 79 = .ok (.istore 7, 2) := by decide +kernel
theorem dX11_chance_81 : decode cX11_chance 81 = .ok (.iinc 8 1, 3) := by decide +kernel
theorem dX11_chance_84 : decode cX11_chance 84 = .ok (.goto (-20), 3) := by decide +kernel
theorem dX11_chance_87 : decode cX11_chance 87 = .ok (.iload 6, 2) := by decide +kernel
theorem dX11_chance_89 : decode cX11_chance 89 = .ok (.i2l, 1) := by decide +kernel
theorem dX11_chance_90 : decode cX11_chance 90 = .ok (.iload 7, 2) := by decide +kernel
theorem dX11_chance_92 : decode cX11_chance 92 = .ok (.i2l, 1) := by decide +kernel
theorem dX11_chance_93 : decode cX11_chance 93 = .ok (.invokestatic 203, 3) := by decide +kernel
theorem dX11_chance_96 : decode cX11_chance 96 = .ok (.l2i, 1) := by decide +kernel
theorem dX11_chance_97 : decode cX11_chance 97 = .ok (.istore 8, 2) := by decide +kernel
theorem dX11_chance_99 : decode cX11_chance 99 = .ok (.iload 4, 2) := by decide +kernel
theorem dX11_chance_101 : decode cX11_chance 101 = .ok (.ifCond .eq 8, 3) := by decide +kernel
theorem dX11_chance_104 : decode cX11_chance 104 = .ok (.iload 7, 2) := by decide +kernel
theorem dX11_chance_106 : decode cX11_chance 106 = .ok (.goto 5, 3) := by decide +kernel
theorem dX11_chance_109 : decode cX11_chance 109 = .ok (.iload 6, 2) := by decide +kernel
theorem dX11_chance_111 : decode cX11_chance 111 = .ok (.iconst 1, 1) := by decide +kernel
theorem dX11_chance_112 : decode cX11_chance 112 = .ok (.iload 8, 2) := by decide +kernel
theorem dX11_chance_114 : decode cX11_chance 114 = .ok (.invokestatic 218, 3) := by decide +kernel
theorem dX11_chance_117 : decode cX11_chance 117 = .ok (.idiv, 1) := by decide +kernel
theorem dX11_chance_118 : decode cX11_chance 118 = .ok (.ireturn, 1) := by decide +kernel
set_option maxRecDepth 20000 in
theorem ggX11_fact_X9_find : GoodIn wsX11_fact wsX9_find := goodIn_r _ [6, 7, 8, 24, 25, 26, 27, 28, 29] (by decide +kernel) (by decide +kernel)
set_option maxRecDepth 20000 in
theorem gX11_fact_X9_find : GoodIn wsX11_fact (wsV RX11 99 RX9 yX9_find wsX9_find) := goodIn_app (goodIn_of _ (by decide +kernel)) ggX11_fact_X9_find
set_option maxRecDepth 20000 in
theorem ggX11_fact_X11_lineOf : GoodIn wsX11_fact wsX11_lineOf := goodIn_r _ [12, 13, 14, 15, 30, 31, 32, 33] (by decide +kernel) (by decide +kernel)
set_option maxRecDepth 20000 in
theorem gX11_fact_X11_lineOf : GoodIn wsX11_fact (va_wsS RX11 121 yX11_lineOf wsX11_lineOf) := goodIn_app (goodIn_of _ (by decide +kernel)) ggX11_fact_X11_lineOf
theorem dX11_fact_0 : decode cX11_fact 0 = .ok (.aload_n 0, 1) := by decide +kernel
theorem dX11_fact_1 : decode cX11_fact 1 = .ok (.getfield 10, 3) := by decide +kernel
theorem dX11_fact_4 : decode cX11_fact 4 = .ok (.iconst 2, 1) := by decide +kernel
theorem dX11_fact_5 : decode cX11_fact 5 = .ok (.iload_n 1, 1) := by decide +kernel
theorem dX11_fact_6 : decode cX11_fact 6 = .ok (.invokevirtual 99, 3) := by decide +kernel
theorem dX11_fact_9 : decode cX11_fact 9 = .ok (.iload_n 2, 1) := by decide +kernel
theorem dX11_fact_10 : decode cX11_fact 10 = .ok (.iload_n 3, 1) := by decide +kernel
theorem dX11_fact_11 : decode cX11_fact 11 = .ok (.invokestatic 121, 3) := by decide +kernel
theorem dX11_fact_14 : decode cX11_fact 14 = .ok (.ireturn, 1) := by decide +kernel
set_option maxRecDepth 20000 in
theorem ggX11_fits_X9_find : GoodIn wsX11_fits wsX9_find := goodIn_r _ [9, 10, 11, 165, 166, 167, 168, 169, 170] (by decide +kernel) (by decide +kernel)
set_option maxRecDepth 20000 in
theorem gX11_fits_X9_find : GoodIn wsX11_fits (wsV RX11 99 RX9 yX9_find wsX9_find) := goodIn_app (goodIn_of _ (by decide +kernel)) ggX11_fits_X9_find
set_option maxRecDepth 20000 in
theorem ggX11_fits_X2_survey : GoodIn wsX11_fits wsX2_survey := goodIn_r _ [16, 17, 18, 19, 20, 21, 22, 23, 24, 25, 26, 27, 28, 29, 30, 31, 32, 33, 34, 35, 36, 37, 15, 38, 39, 40, 41, 42, 43, 44, 45, 46, 47, 48, 49, 50, 51, 52, 53, 54, 55, 56, 57, 58, 59, 60, 61, 62, 63, 64, 65, 66, 67, 68, 69, 70, 71, 72, 73, 74, 75, 76, 77, 78, 79, 80, 81, 82, 83, 84, 85, 86, 87, 88, 89, 90, 91, 92, 93, 94, 95, 96, 97, 98, 99, 100, 101, 102, 103, 104, 105, 106, 107, 108, 109, 110, 111, 112, 113, 151, 152, 153, 154, 155, 156, 157, 158, 159, 160, 161, 162, 163, 164, 171, 172, 173, 174, 175, 176, 177, 178] (by decide +kernel) (by decide +kernel)
set_option maxRecDepth 20000 in
theorem gX11_fits_X2_survey : GoodIn wsX11_fits (wsV RX11 220 RX2 yX2_survey wsX2_survey) := goodIn_app (goodIn_of _ (by decide +kernel)) ggX11_fits_X2_survey
set_option maxRecDepth 20000 in
theorem ggX11_fits_X2_bestMinute : GoodIn wsX11_fits wsX2_bestMinute := goodIn_r _ [117, 19, 22, 85, 86, 49, 87, 151, 152, 153, 154, 155, 156, 157, 158, 159, 160, 161, 162, 163, 164] (by decide +kernel) (by decide +kernel)
set_option maxRecDepth 20000 in
theorem gX11_fits_X2_bestMinute : GoodIn wsX11_fits (wsV RX11 227 RX2 yX2_bestMinute wsX2_bestMinute) := goodIn_app (goodIn_of _ (by decide +kernel)) ggX11_fits_X2_bestMinute
set_option maxRecDepth 20000 in
theorem ggX11_fits_X2_mayBeFull : GoodIn wsX11_fits wsX2_mayBeFull := goodIn_r _ [121, 26, 21, 27, 122, 123, 124, 171, 172, 173, 174, 151, 152, 153, 154, 155, 156, 157, 158, 159, 160, 161, 162, 163, 164] (by decide +kernel) (by decide +kernel)
set_option maxRecDepth 20000 in
theorem gX11_fits_X2_mayBeFull : GoodIn wsX11_fits (wsV RX11 230 RX2 yX2_mayBeFull wsX2_mayBeFull) := goodIn_app (goodIn_of _ (by decide +kernel)) ggX11_fits_X2_mayBeFull
set_option maxRecDepth 20000 in
theorem ggX11_fits_X2_mayBeEmpty : GoodIn wsX11_fits wsX2_mayBeEmpty := goodIn_r _ [128, 26, 21, 122, 123, 124, 171, 172, 173, 174, 151, 152, 153, 154, 155, 156, 157, 158, 159, 160, 161, 162, 163, 164] (by decide +kernel) (by decide +kernel)
set_option maxRecDepth 20000 in
theorem gX11_fits_X2_mayBeEmpty : GoodIn wsX11_fits (wsV RX11 234 RX2 yX2_mayBeEmpty wsX2_mayBeEmpty) := goodIn_app (goodIn_of _ (by decide +kernel)) ggX11_fits_X2_mayBeEmpty
set_option maxRecDepth 20000 in
theorem ggX11_fits_X2_sureTop : GoodIn wsX11_fits wsX2_sureTop := goodIn_r _ [132, 21, 133, 134, 135, 136, 137, 138, 139, 140, 123, 141, 142, 122, 124, 151, 152, 153, 154, 155, 156, 157, 158, 159, 160, 161, 162, 163, 164] (by decide +kernel) (by decide +kernel)
set_option maxRecDepth 20000 in
theorem gX11_fits_X2_sureTop : GoodIn wsX11_fits (wsV RX11 237 RX2 yX2_sureTop wsX2_sureTop) := goodIn_app (goodIn_of _ (by decide +kernel)) ggX11_fits_X2_sureTop
theorem dX11_fits_0 : decode cX11_fits 0 = .ok (.aload_n 0, 1) := by decide +kernel
theorem dX11_fits_1 : decode cX11_fits 1 = .ok (.getfield 10, 3) := by decide +kernel
theorem dX11_fits_4 : decode cX11_fits 4 = .ok (.iconst 0, 1) := by decide +kernel
theorem dX11_fits_5 : decode cX11_fits 5 = .ok (.iload_n 1, 1) := by decide +kernel
theorem dX11_fits_6 : decode cX11_fits 6 = .ok (.invokevirtual 99, 3) := by decide +kernel
theorem dX11_fits_9 : decode cX11_fits 9 = .ok (.astore 5, 2) := by decide +kernel
theorem dX11_fits_11 : decode cX11_fits 11 = .ok (.aload_n 0, 1) := by decide +kernel
theorem dX11_fits_12 : decode cX11_fits 12 = .ok (.getfield 10, 3) := by decide +kernel
theorem dX11_fits_15 : decode cX11_fits 15 = .ok (.iconst 1, 1) := by decide +kernel
theorem dX11_fits_16 : decode cX11_fits 16 = .ok (.iload_n 2, 1) := by decide +kernel
theorem dX11_fits_17 : decode cX11_fits 17 = .ok (.invokevirtual 99, 3) := by decide +kernel
theorem dX11_fits_20 : decode cX11_fits 20 = .ok (.astore 6, 2) := by decide +kernel
theorem dX11_fits_22 : decode cX11_fits 22 = .ok (.aload_n 0, 1) := by decide +kernel
theorem dX11_fits_23 : decode cX11_fits 23 = .ok (.getfield 10, 3) := by decide +kernel
theorem dX11_fits_26 : decode cX11_fits 26 = .ok (.iconst 2, 1) := by decide +kernel
theorem dX11_fits_27 : decode cX11_fits 27 = .ok (.iload_n 3, 1) := by decide +kernel
theorem dX11_fits_28 : decode cX11_fits 28 = .ok (.invokevirtual 99, 3) := by decide +kernel
theorem dX11_fits_31 : decode cX11_fits 31 = .ok (.astore 7, 2) := by decide +kernel
theorem dX11_fits_33 : decode cX11_fits 33 = .ok (.aload 5, 2) := by decide +kernel
theorem dX11_fits_35 : decode cX11_fits 35 = .ok (.ifnull 32, 3) := by decide +kernel
theorem dX11_fits_38 : decode cX11_fits 38 = .ok (.aload 6, 2) := by decide +kernel
theorem dX11_fits_40 : decode cX11_fits 40 = .ok (.ifnull 27, 3) := by decide +kernel
theorem dX11_fits_43 : decode cX11_fits 43 = .ok (.aload 7, 2) := by decide +kernel
theorem dX11_fits_45 : decode cX11_fits 45 = .ok (.ifnull 22, 3) := by decide +kernel
theorem dX11_fits_48 : decode cX11_fits 48 = .ok (.iload 4, 2) := by decide +kernel
theorem dX11_fits_50 : decode cX11_fits 50 = .ok (.ifCond .lt 17, 3) := by decide +kernel
theorem dX11_fits_53 : decode cX11_fits 53 = .ok (.iload 4, 2) := by decide +kernel
theorem dX11_fits_55 : decode cX11_fits 55 = .ok (.bipush 8, 2) := by decide +kernel
theorem dX11_fits_57 : decode cX11_fits 57 = .ok (.if_icmp .eq 10, 3) := by decide +kernel
theorem dX11_fits_60 : decode cX11_fits 60 = .ok (.iload 4, 2) := by decide +kernel
theorem dX11_fits_62 : decode cX11_fits 62 = .ok (.bipush 9, 2) := by decide +kernel
theorem dX11_fits_64 : decode cX11_fits 64 = .ok (.if_icmp .ne 6, 3) := by decide +kernel
theorem dX11_fits_67 : decode cX11_fits 67 = .ok (.bipush (-2), 2) := by decide +kernel
theorem dX11_fits_69 : decode cX11_fits 69 = .ok (.ireturn, 1) := by decide +kernel
theorem dX11_fits_70 : decode cX11_fits 70 = .ok (.aload_n 0, 1) := by decide +kernel
theorem dX11_fits_71 : decode cX11_fits 71 = .ok (.getfield 37, 3) := by decide +kernel
theorem dX11_fits_74 : decode cX11_fits 74 = .ok (.aload 5, 2) := by decide +kernel
theorem dX11_fits_76 : decode cX11_fits 76 = .ok (.aload 6, 2) := by decide +kernel
theorem dX11_fits_78 : decode cX11_fits 78 = .ok (.aload 7, 2) := by decide +kernel
theorem dX11_fits_80 : decode cX11_fits 80 = .ok (.iload 4, 2) := by decide +kernel
theorem dX11_fits_82 : decode cX11_fits 82 = .ok (.bipush 10, 2) := by decide +kernel
theorem dX11_fits_84 : decode cX11_fits 84 = .ok (.if_icmp .ge 7, 3) := by decide +kernel
theorem dX11_fits_87 : decode cX11_fits 87 = .ok (.iconst (-1), 1) := by decide +kernel
theorem dX11_fits_88 : decode cX11_fits 88 = .ok (.goto 8, 3) := by decide +kernel
theorem dX11_fits_91 : decode cX11_fits 91 = .ok (.iload 4, 2) := by decide +kernel
theorem dX11_fits_93 : decode cX11_fits 93 = .ok (.bipush 10, 2) := by decide +kernel
theorem dX11_fits_95 : decode cX11_fits 95 = .ok (.isub, 1) := by decide +kernel
theorem dX11_fits_96 : decode cX11_fits 96 = .ok (.invokevirtual 220, 3) := by decide +kernel
theorem dX11_fits_99 : decode cX11_fits 99 = .ok (.iload 4, 2) := by decide +kernel
theorem dX11_fits_101 : decode cX11_fits 101 = .ok (.tableswitch 67 0 3 #[31, 39, 47, 57], 31) := by decide +kernel
theorem dX11_fits_132 : decode cX11_fits 132 = .ok (.aload_n 0, 1) := by decide +kernel
theorem dX11_fits_133 : decode cX11_fits 133 = .ok (.getfield 37, 3) := by decide +kernel
theorem dX11_fits_136 : decode cX11_fits 136 = .ok (.getfield 224, 3) := by decide +kernel
theorem dX11_fits_139 : decode cX11_fits 139 = .ok (.ireturn, 1) := by decide +kernel
theorem dX11_fits_140 : decode cX11_fits 140 = .ok (.aload_n 0, 1) := by decide +kernel
theorem dX11_fits_141 : decode cX11_fits 141 = .ok (.getfield 37, 3) := by decide +kernel
theorem dX11_fits_144 : decode cX11_fits 144 = .ok (.invokevirtual 227, 3) := by decide +kernel
theorem dX11_fits_147 : decode cX11_fits 147 = .ok (.ireturn, 1) := by decide +kernel
theorem dX11_fits_148 : decode cX11_fits 148 = .ok (.aload_n 0, 1) := by decide +kernel
theorem dX11_fits_149 : decode cX11_fits 149 = .ok (.getfield 37, 3) := by decide +kernel
theorem dX11_fits_152 : decode cX11_fits 152 = .ok (.aload 5, 2) := by decide +kernel
theorem dX11_fits_154 : decode cX11_fits 154 = .ok (.invokevirtual 230, 3) := by decide +kernel
theorem dX11_fits_157 : decode cX11_fits 157 = .ok (.ireturn, 1) := by decide +kernel
theorem dX11_fits_158 : decode cX11_fits 158 = .ok (.aload_n 0, 1) := by decide +kernel
theorem dX11_fits_159 : decode cX11_fits 159 = .ok (.getfield 37, 3) := by decide +kernel
theorem dX11_fits_162 : decode cX11_fits 162 = .ok (.aload 5, 2) := by decide +kernel
theorem dX11_fits_164 : decode cX11_fits 164 = .ok (.invokevirtual 234, 3) := by decide +kernel
theorem dX11_fits_167 : decode cX11_fits 167 = .ok (.ireturn, 1) := by decide +kernel
theorem dX11_fits_168 : decode cX11_fits 168 = .ok (.iload 4, 2) := by decide +kernel
theorem dX11_fits_170 : decode cX11_fits 170 = .ok (.bipush 10, 2) := by decide +kernel
theorem dX11_fits_172 : decode cX11_fits 172 = .ok (.if_icmp .ge 17, 3) := by decide +kernel
theorem dX11_fits_175 : decode cX11_fits 175 = .ok (.aload_n 0, 1) := by decide +kernel
theorem dX11_fits_176 : decode cX11_fits 176 = .ok (.getfield 37, 3) := by decide +kernel
theorem dX11_fits_179 : decode cX11_fits 179 = .ok (.iload 4, 2) := by decide +kernel
theorem dX11_fits_181 : decode cX11_fits 181 = .ok (.iconst 4, 1) := by decide +kernel
theorem dX11_fits_182 : decode cX11_fits 182 = .ok (.isub, 1) := by decide +kernel
theorem dX11_fits_183 : decode cX11_fits 183 = .ok (.invokevirtual 237, 3) := by decide +kernel
theorem dX11_fits_186 : decode cX11_fits 186 = .ok (.goto 10, 3) := by decide +kernel
theorem dX11_fits_189 : decode cX11_fits 189 = .ok (.aload_n 0, 1) := by decide +kernel
theorem dX11_fits_190 : decode cX11_fits 190 = .ok (.getfield 37, 3) := by decide +kernel
theorem dX11_fits_193 : decode cX11_fits 193 = .ok (.getfield 240, 3) := by decide +kernel
theorem dX11_fits_196 : decode cX11_fits 196 = .ok (.ireturn, 1) := by decide +kernel
set_option maxRecDepth 20000 in
theorem ggX11_drawn_X9_find : GoodIn wsX11_drawn wsX9_find := goodIn_r _ [7, 8, 9, 103, 104, 105, 106, 107, 108] (by decide +kernel) (by decide +kernel)
set_option maxRecDepth 20000 in
theorem gX11_drawn_X9_find : GoodIn wsX11_drawn (wsV RX11 99 RX9 yX9_find wsX9_find) := goodIn_app (goodIn_of _ (by decide +kernel)) ggX11_drawn_X9_find
set_option maxRecDepth 20000 in
theorem ggX11_drawn_X0_begin : GoodIn wsX11_drawn wsX0_begin := goodIn_r _ [14, 15, 16, 17, 18, 19, 20, 21, 22, 23, 24, 25, 26, 27, 28, 29, 30, 31, 32, 33, 34, 35, 36, 37, 38, 109, 110, 111, 112, 113, 114, 115, 116, 117, 118, 119, 120, 121, 122, 123, 124, 125] (by decide +kernel) (by decide +kernel)
set_option maxRecDepth 20000 in
theorem gX11_drawn_X0_begin : GoodIn wsX11_drawn (wsV RX11 125 RX0 yX0_begin wsX0_begin) := goodIn_app (goodIn_of _ (by decide +kernel)) ggX11_drawn_X0_begin
set_option maxRecDepth 20000 in
theorem ggX11_drawn_X0_playDrawn : GoodIn wsX11_drawn wsX0_playDrawn := goodIn_r _ [42, 43, 20, 44, 45, 46, 13, 47, 48, 49, 50, 18, 51, 52, 53, 54, 55, 56, 57, 58, 24, 21, 29, 59, 60, 61, 62, 28, 26, 25, 27, 63, 64, 65, 33, 66, 37, 36, 67, 68, 69, 70, 38, 71, 72, 73, 74, 35, 75, 76, 77, 78, 113, 114, 115, 116, 117, 118, 119, 120, 121, 122, 123, 124, 125] (by decide +kernel) (by decide +kernel)
set_option maxRecDepth 20000 in
theorem gX11_drawn_X0_playDrawn : GoodIn wsX11_drawn (wsV RX11 243 RX0 yX0_playDrawn wsX0_playDrawn) := goodIn_app (goodIn_of _ (by decide +kernel)) ggX11_drawn_X0_playDrawn
set_option maxRecDepth 20000 in
theorem ggX11_drawn_X0_look : GoodIn wsX11_drawn wsX0_look := goodIn_r _ [82, 24, 25, 29, 83, 84, 85, 13, 86, 20, 21, 87, 88, 89, 90, 91, 92, 93, 94, 113, 114, 115, 116, 117, 118, 119, 120, 121, 122, 123, 124, 125] (by decide +kernel) (by decide +kernel)
set_option maxRecDepth 20000 in
theorem gX11_drawn_X0_look : GoodIn wsX11_drawn (wsV RX11 133 RX0 yX0_look wsX0_look) := goodIn_app (goodIn_of _ (by decide +kernel)) ggX11_drawn_X0_look
theorem dX11_drawn_0 : decode cX11_drawn 0 = .ok (.aload_n 0, 1) := by decide +kernel
theorem dX11_drawn_1 : decode cX11_drawn 1 = .ok (.getfield 10, 3) := by decide +kernel
theorem dX11_drawn_4 : decode cX11_drawn 4 = .ok (.iconst 0, 1) := by decide +kernel
theorem dX11_drawn_5 : decode cX11_drawn 5 = .ok (.iload_n 1, 1) := by decide +kernel
theorem dX11_drawn_6 : decode cX11_drawn 6 = .ok (.invokevirtual 99, 3) := by decide +kernel
theorem dX11_drawn_9 : decode cX11_drawn 9 = .ok (.astore 5, 2) := by decide +kernel
theorem dX11_drawn_11 : decode cX11_drawn 11 = .ok (.aload 5, 2) := by decide +kernel
theorem dX11_drawn_13 : decode cX11_drawn 13 = .ok (.ifnull 13, 3) := by decide +kernel
theorem dX11_drawn_16 : decode cX11_drawn 16 = .ok (.iload_n 3, 1) := by decide +kernel
theorem dX11_drawn_17 : decode cX11_drawn 17 = .ok (.ifCond .lt 9, 3) := by decide +kernel
theorem dX11_drawn_20 : decode cX11_drawn 20 = .ok (.iload_n 3, 1) := by decide +kernel
theorem dX11_drawn_21 : decode cX11_drawn 21 = .ok (.bipush 60, 2) := by decide +kernel
theorem dX11_drawn_23 : decode cX11_drawn 23 = .ok (.if_icmp .le 5, 3) := by decide +kernel
theorem dX11_drawn_26 : decode cX11_drawn 26 = .ok (.iconst (-1), 1) := by decide +kernel
theorem dX11_drawn_27 : decode cX11_drawn 27 = .ok (.ireturn, 1) := by decide +kernel
theorem dX11_drawn_28 : decode cX11_drawn 28 = .ok (.aload_n 0, 1) := by decide +kernel
theorem dX11_drawn_29 : decode cX11_drawn 29 = .ok (.getfield 30, 3) := by decide +kernel
theorem dX11_drawn_32 : decode cX11_drawn 32 = .ok (.aload 5, 2) := by decide +kernel
theorem dX11_drawn_34 : decode cX11_drawn 34 = .ok (.invokevirtual 125, 3) := by decide +kernel
theorem dX11_drawn_37 : decode cX11_drawn 37 = .ok (.aload_n 0, 1) := by decide +kernel
theorem dX11_drawn_38 : decode cX11_drawn 38 = .ok (.getfield 30, 3) := by decide +kernel
theorem dX11_drawn_41 : decode cX11_drawn 41 = .ok (.iload_n 2, 1) := by decide +kernel
theorem dX11_drawn_42 : decode cX11_drawn 42 = .ok (.iload_n 3, 1) := by decide +kernel
theorem dX11_drawn_43 : decode cX11_drawn 43 = .ok (.invokevirtual 243, 3) := by decide +kernel
theorem dX11_drawn_46 : decode cX11_drawn 46 = .ok (.aload_n 0, 1) := by decide +kernel
theorem dX11_drawn_47 : decode cX11_drawn 47 = .ok (.getfield 30, 3) := by decide +kernel
theorem dX11_drawn_50 : decode cX11_drawn 50 = .ok (.iload 4, 2) := by decide +kernel
theorem dX11_drawn_52 : decode cX11_drawn 52 = .ok (.invokevirtual 133, 3) := by decide +kernel
theorem dX11_drawn_55 : decode cX11_drawn 55 = .ok (.ireturn, 1) := by decide +kernel
set_option maxRecDepth 20000 in
theorem ggX11_times_X9_find : GoodIn wsX11_times wsX9_find := goodIn_r _ [6, 7, 8, 252, 253, 254, 255, 256, 257] (by decide +kernel) (by decide +kernel)
set_option maxRecDepth 20000 in
theorem gX11_times_X9_find : GoodIn wsX11_times (wsV RX11 99 RX9 yX9_find wsX9_find) := goodIn_app (goodIn_of _ (by decide +kernel)) ggX11_times_X9_find
set_option maxRecDepth 20000 in
theorem ggX11_times_X11_ofShelf : GoodIn wsX11_times wsX11_ofShelf := goodIn_r _ [12, 13, 14, 15, 16, 17, 18, 19, 20, 21, 11, 22, 23, 24, 25, 258, 259, 260, 261] (by decide +kernel) (by decide +kernel)
set_option maxRecDepth 20000 in
theorem gX11_times_X11_ofShelf : GoodIn wsX11_times (va_wsS RX11 247 yX11_ofShelf wsX11_ofShelf) := goodIn_app (goodIn_of _ (by decide +kernel)) ggX11_times_X11_ofShelf
set_option maxRecDepth 20000 in
theorem ggX11_times_X11_bookOf : GoodIn wsX11_times wsX11_bookOf := goodIn_r _ [29, 30, 13, 31, 32, 33, 34, 35, 36, 37, 38, 39, 40, 41, 42, 18, 43, 44, 17, 19, 45, 46, 47, 48, 49, 50, 51, 52, 53, 54, 55, 56, 57, 58, 59, 60, 61, 62, 63, 64, 65, 66, 67, 68, 69, 70, 71, 72, 73, 74, 75, 76, 77, 78, 79, 80, 81, 82, 83, 84, 85, 86, 87, 88, 89, 90, 91, 92, 93, 94, 95, 96, 97, 98, 99, 100, 101, 102, 103, 104, 105, 106, 107, 11, 108, 109, 110, 111, 112, 113, 114, 115, 116, 117, 118, 119, 120, 121, 122, 123, 124, 125, 126, 127, 128, 129, 130, 131, 132, 133, 134, 135, 136, 137, 138, 139, 140, 141, 142, 143, 144, 145, 146, 147, 148, 149, 150, 151, 152, 153, 154, 155, 156, 157, 158, 159, 160, 244, 245, 246, 247, 248, 249, 250, 251, 258, 259, 260, 261, 262, 263, 264, 265, 266, 267, 268, 269, 270, 271, 272, 273, 274, 275, 276, 277, 278, 279, 280, 281, 282, 283, 284, 285, 286, 287, 288, 289, 290, 291, 292, 293, 294, 295, 296, 297] (by decide +kernel) (by decide +kernel)
set_option maxRecDepth 20000 in
theorem gX11_times_X11_bookOf : GoodIn wsX11_times (wsV RX11 141 RX11 yX11_bookOf wsX11_bookOf) := goodIn_app (goodIn_of _ (by decide +kernel)) ggX11_times_X11_bookOf
set_option maxRecDepth 20000 in
theorem ggX11_times_X11_ofTimes : GoodIn wsX11_times wsX11_ofTimes := goodIn_r _ [163, 164, 165, 166, 167, 33, 168, 106, 169, 170, 171, 172, 39, 173, 174, 175, 176, 11, 177, 178, 179, 180, 181, 182, 183, 184, 185, 186, 16, 17, 18, 19, 187, 188, 189, 190, 191, 192, 193, 194, 103, 52, 195, 196, 197, 198, 66, 199, 200, 105, 54, 201, 41, 42, 43, 202, 203, 204, 205, 206, 207, 208, 109, 110, 111, 112, 209, 210, 211, 65, 212, 87, 213, 214, 215, 216, 91, 89, 217, 218, 219, 220, 221, 86, 90, 222, 223, 224, 225, 226, 227, 228, 229, 230, 262, 263, 264, 265, 266, 267, 268, 269, 270, 271, 272, 273, 274, 275, 276, 277, 278, 279, 280, 281, 282, 283, 284, 285, 286, 287, 288, 289, 290, 291, 292, 293, 294, 295] (by decide +kernel) (by decide +kernel)
set_option maxRecDepth 20000 in
theorem gX11_times_X11_ofTimes : GoodIn wsX11_times (va_wsS RX11 250 yX11_ofTimes wsX11_ofTimes) := goodIn_app (goodIn_of _ (by decide +kernel)) ggX11_times_X11_ofTimes
set_option maxRecDepth 20000 in
theorem ggX11_times_X1_longestStill : GoodIn wsX11_times wsX1_longestStill := goodIn_r _ [234, 39, 173, 235, 174, 236, 44, 17, 18, 19, 262, 263, 264, 265, 266, 267, 268, 269, 270, 271, 272, 273, 274, 275, 276, 277, 278, 279, 280, 281, 282, 283, 284, 285, 286, 287, 288, 289, 290] (by decide +kernel) (by decide +kernel)
set_option maxRecDepth 20000 in
theorem gX11_times_X1_longestStill : GoodIn wsX11_times (wsV RX11 254 RX1 yX1_longestStill wsX1_longestStill) := goodIn_app (goodIn_of _ (by decide +kernel)) ggX11_times_X1_longestStill
set_option maxRecDepth 20000 in
theorem ggX11_times_X11_isGlass : GoodIn wsX11_times wsX11_isGlass := goodIn_r _ [239, 13, 258, 259, 260, 261] (by decide +kernel) (by decide +kernel)
set_option maxRecDepth 20000 in
theorem gX11_times_X11_isGlass : GoodIn wsX11_times (va_wsS RX11 108 yX11_isGlass wsX11_isGlass) := goodIn_app (goodIn_of _ (by decide +kernel)) ggX11_times_X11_isGlass
set_option maxRecDepth 20000 in
theorem ggX11_times_X1_toldBy : GoodIn wsX11_times wsX1_toldBy := goodIn_r _ [243, 106, 55, 62, 58, 99, 113, 114, 115, 33, 116, 100, 117, 118, 119, 61, 120, 121, 75, 42, 18, 43, 122, 77, 74, 79, 123, 124, 125, 126, 127, 76, 17, 19, 128, 11, 129, 130, 131, 132, 133, 134, 135, 136, 137, 138, 139, 140, 141, 142, 143, 144, 73, 78, 80, 81, 145, 110, 111, 112, 146, 147, 148, 149, 150, 151, 152, 153, 154, 155, 156, 157, 158, 159, 160, 262, 263, 264, 265, 266, 267, 268, 269, 270, 271, 272, 273, 274, 275, 276, 277, 278, 279, 280, 281, 282, 283, 284, 285, 286, 287, 288, 289, 290, 296, 297] (by decide +kernel) (by decide +kernel)
set_option maxRecDepth 20000 in
theorem gX11_times_X1_toldBy : GoodIn wsX11_times (wsV RX11 257 RX1 yX1_toldBy wsX1_toldBy) := goodIn_app (goodIn_of _ (by decide +kernel)) ggX11_times_X1_toldBy
theorem dX11_times_0 : decode cX11_times 0 = .ok (.aload_n 0, 1) := by decide +kernel
theorem dX11_times_1 : decode cX11_times 1 = .ok (.getfield 10, 3) := by decide +kernel
theorem dX11_times_4 : decode cX11_times 4 = .ok (.iconst 0, 1) := by decide +kernel
theorem dX11_times_5 : decode cX11_times 5 = .ok (.iload_n 1, 1) := by decide +kernel
theorem dX11_times_6 : decode cX11_times 6 = .ok (.invokevirtual 99, 3) := by decide +kernel
theorem dX11_times_9 : decode cX11_times 9 = .ok (.astore_n 3, 1) := by decide +kernel
theorem dX11_times_10 : decode cX11_times 10 = .ok (.aload_n 3, 1) := by decide +kernel
theorem dX11_times_11 : decode cX11_times 11 = .ok (.ifnonnull 6, 3) := by decide +kernel
theorem dX11_times_14 : decode cX11_times 14 = .ok (.bipush (-2), 2) := by decide +kernel
theorem dX11_times_16 : decode cX11_times 16 = .ok (.ireturn, 1) := by decide +kernel
theorem dX11_times_17 : decode cX11_times 17 = .ok (.iload_n 2, 1) := by decide +kernel
theorem dX11_times_18 : decode cX11_times 18 = .ok (.bipush 9, 2) := by decide +kernel
theorem dX11_times_20 : decode cX11_times 20 = .ok (.if_icmp .lt 15, 3) := by decide +kernel
theorem dX11_times_23 : decode cX11_times 23 = .ok (.iload_n 2, 1) := by decide +kernel
theorem dX11_times_24 : decode cX11_times 24 = .ok (.bipush 13, 2) := by decide +kernel
theorem dX11_times_26 : decode cX11_times 26 = .ok (.if_icmp .gt 9, 3) := by decide +kernel
theorem dX11_times_29 : decode cX11_times 29 = .ok (.aload_n 3, 1) := by decide +kernel
theorem dX11_times_30 : decode cX11_times 30 = .ok (.iload_n 2, 1) := by decide +kernel
theorem dX11_times_31 : decode cX11_times 31 = .ok (.invokestatic 247, 3) := by decide +kernel
theorem dX11_times_34 : decode cX11_times 34 = .ok (.ireturn, 1) := by decide +kernel
theorem dX11_times_35 : decode cX11_times 35 = .ok (.iload_n 2, 1) := by decide +kernel
theorem dX11_times_36 : decode cX11_times 36 = .ok (.ifCond .lt 20, 3) := by decide +kernel
theorem dX11_times_39 : decode cX11_times 39 = .ok (.iload_n 2, 1) := by decide +kernel
theorem dX11_times_40 : decode cX11_times 40 = .ok (.bipush 8, 2) := by decide +kernel
theorem dX11_times_42 : decode cX11_times 42 = .ok (.if_icmp .gt 14, 3) := by decide +kernel
theorem dX11_times_45 : decode cX11_times 45 = .ok (.aload_n 0, 1) := by decide +kernel
theorem dX11_times_46 : decode cX11_times 46 = .ok (.iload_n 1, 1) := by decide +kernel
theorem dX11_times_47 : decode cX11_times 47 = .ok (.aload_n 3, 1) := by decide +kernel
theorem dX11_times_48 : decode cX11_times 48 = .ok (.invokevirtual 141, 3) := by decide +kernel
theorem dX11_times_51 : decode cX11_times 51 = .ok (.iload_n 2, 1) := by decide +kernel
theorem dX11_times_52 : decode cX11_times 52 = .ok (.invokestatic 250, 3) := by decide +kernel
theorem dX11_times_55 : decode cX11_times 55 = .ok (.ireturn, 1) := by decide +kernel
theorem dX11_times_56 : decode cX11_times 56 = .ok (.iload_n 2, 1) := by decide +kernel
theorem dX11_times_57 : decode cX11_times 57 = .ok (.bipush 14, 2) := by decide +kernel
theorem dX11_times_59 : decode cX11_times 59 = .ok (.if_icmp .ne 13, 3) := by decide +kernel
theorem dX11_times_62 : decode cX11_times 62 = .ok (.aload_n 0, 1) := by decide +kernel
theorem dX11_times_63 : decode cX11_times 63 = .ok (.iload_n 1, 1) := by decide +kernel
theorem dX11_times_64 : decode cX11_times 64 = .ok (.aload_n 3, 1) := by decide +kernel
theorem dX11_times_65 : decode cX11_times 65 = .ok (.invokevirtual 141, 3) := by decide +kernel
theorem dX11_times_68 : decode cX11_times 68 = .ok (.invokevirtual 254, 3) := by decide +kernel
theorem dX11_times_71 : decode cX11_times 71 = .ok (.ireturn, 1) := by decide +kernel
theorem dX11_times_72 : decode cX11_times 72 = .ok (.aload_n 3, 1) := by decide +kernel
theorem dX11_times_73 : decode cX11_times 73 = .ok (.iload_n 2, 1) := by decide +kernel
theorem dX11_times_74 : decode cX11_times 74 = .ok (.bipush 20, 2) := by decide +kernel
theorem dX11_times_76 : decode cX11_times 76 = .ok (.invokestatic 108, 3) := by decide +kernel
theorem dX11_times_79 : decode cX11_times 79 = .ok (.ifCond .eq 21, 3) := by decide +kernel
theorem dX11_times_82 : decode cX11_times 82 = .ok (.aload_n 0, 1) := by decide +kernel
theorem dX11_times_83 : decode cX11_times 83 = .ok (.iload_n 1, 1) := by decide +kernel
theorem dX11_times_84 : decode cX11_times 84 = .ok (.aload_n 3, 1) := by decide +kernel
theorem dX11_times_85 : decode cX11_times 85 = .ok (.invokevirtual 141, 3) := by decide +kernel
theorem dX11_times_88 : decode cX11_times 88 = .ok (.iconst 1, 1) := by decide +kernel
theorem dX11_times_89 : decode cX11_times 89 = .ok (.iload_n 2, 1) := by decide +kernel
theorem dX11_times_90 : decode cX11_times 90 = .ok (.bipush 20, 2) := by decide +kernel
theorem dX11_times_92 : decode cX11_times 92 = .ok (.isub, 1) := by decide +kernel
theorem dX11_times_93 : decode cX11_times 93 = .ok (.ishl, 1) := by decide +kernel
theorem dX11_times_94 : decode cX11_times 94 = .ok (.invokevirtual 257, 3) := by decide +kernel
theorem dX11_times_97 : decode cX11_times 97 = .ok (.goto 5, 3) := by decide +kernel
theorem dX11_times_100 : decode cX11_times 100 = .ok (.bipush (-2), 2) := by decide +kernel
theorem dX11_times_102 : decode cX11_times 102 = .ok (.ireturn, 1) := by decide +kernel
set_option maxRecDepth 20000 in
theorem ggX11_couples_X9_find : GoodIn wsX11_couples wsX9_find := goodIn_r _ [7, 8, 9, 171, 172, 173, 174, 175, 176] (by decide +kernel) (by decide +kernel)
set_option maxRecDepth 20000 in
theorem gX11_couples_X9_find : GoodIn wsX11_couples (wsV RX11 99 RX9 yX9_find wsX9_find) := goodIn_app (goodIn_of _ (by decide +kernel)) ggX11_couples_X9_find
set_option maxRecDepth 20000 in
theorem ggX11_couples_X11_isT : GoodIn wsX11_couples wsX11_isT := goodIn_r _ [13] (by decide +kernel) (by decide +kernel)
set_option maxRecDepth 20000 in
theorem gX11_couples_X11_isT : GoodIn wsX11_couples (va_wsS RX11 137 yX11_isT wsX11_isT) := goodIn_app (goodIn_of _ (by decide +kernel)) ggX11_couples_X11_isT
set_option maxRecDepth 20000 in
theorem ggX11_couples_X11_bookOf : GoodIn wsX11_couples wsX11_bookOf := goodIn_r _ [17, 18, 2, 19, 20, 21, 22, 23, 24, 25, 26, 27, 28, 29, 30, 31, 32, 33, 34, 35, 36, 37, 38, 39, 40, 41, 42, 43, 44, 45, 46, 47, 48, 49, 50, 51, 52, 53, 54, 55, 56, 57, 58, 59, 60, 61, 62, 63, 64, 65, 66, 67, 68, 69, 70, 71, 72, 73, 74, 75, 76, 77, 78, 79, 80, 81, 82, 83, 84, 85, 86, 87, 88, 89, 90, 91, 92, 93, 94, 95, 96, 97, 98, 12, 99, 100, 101, 102, 103, 104, 105, 106, 107, 108, 109, 110, 111, 112, 113, 114, 115, 116, 117, 118, 119, 120, 121, 122, 123, 124, 125, 126, 127, 128, 129, 130, 131, 132, 133, 134, 135, 136, 137, 138, 139, 140, 141, 142, 143, 144, 145, 146, 147, 148, 149, 150, 151, 159, 160, 161, 162, 163, 164, 165, 166, 167, 168, 169, 170, 177, 178, 179, 180, 181, 182, 183, 184, 185, 186, 187, 188, 189, 190, 191, 192, 193, 194, 195, 196, 197, 198, 199, 200, 201, 202, 203, 204, 205, 206, 207, 208, 209, 210, 211, 212] (by decide +kernel) (by decide +kernel)
set_option maxRecDepth 20000 in
theorem gX11_couples_X11_bookOf : GoodIn wsX11_couples (wsV RX11 141 RX11 yX11_bookOf wsX11_bookOf) := goodIn_app (goodIn_of _ (by decide +kernel)) ggX11_couples_X11_bookOf
set_option maxRecDepth 20000 in
theorem ggX11_couples_X1_toldBy : GoodIn wsX11_couples wsX1_toldBy := goodIn_r _ [155, 97, 46, 53, 49, 90, 104, 105, 106, 21, 107, 91, 108, 109, 110, 52, 111, 112, 66, 30, 31, 32, 113, 68, 65, 70, 114, 115, 116, 117, 118, 67, 34, 35, 119, 12, 120, 121, 122, 123, 124, 125, 126, 127, 128, 129, 130, 131, 132, 133, 134, 135, 64, 69, 71, 72, 136, 101, 102, 103, 137, 138, 139, 140, 141, 142, 143, 144, 145, 146, 147, 148, 149, 150, 151, 177, 178, 179, 180, 181, 182, 183, 184, 185, 186, 187, 188, 189, 190, 191, 192, 193, 194, 195, 196, 197, 198, 199, 200, 201, 202, 203, 204, 205, 211, 212] (by decide +kernel) (by decide +kernel)
set_option maxRecDepth 20000 in
theorem gX11_couples_X1_toldBy : GoodIn wsX11_couples (wsV RX11 257 RX1 yX1_toldBy wsX1_toldBy) := goodIn_app (goodIn_of _ (by decide +kernel)) ggX11_couples_X1_toldBy
set_option maxRecDepth 20000 in
theorem ggX11_couples_X11_has : GoodIn wsX11_couples wsX11_has := goodIn_r _ [158] (by decide +kernel) (by decide +kernel)
set_option maxRecDepth 20000 in
theorem gX11_couples_X11_has : GoodIn wsX11_couples (va_wsS RX11 148 yX11_has wsX11_has) := goodIn_app (goodIn_of _ (by decide +kernel)) ggX11_couples_X11_has
theorem dX11_couples_0 : decode cX11_couples 0 = .ok (.aload_n 0, 1) := by decide +kernel
theorem dX11_couples_1 : decode cX11_couples 1 = .ok (.getfield 10, 3) := by decide +kernel
theorem dX11_couples_4 : decode cX11_couples 4 = .ok (.iconst 0, 1) := by decide +kernel
theorem dX11_couples_5 : decode cX11_couples 5 = .ok (.iload_n 1, 1) := by decide +kernel
theorem dX11_couples_6 : decode cX11_couples 6 = .ok (.invokevirtual 99, 3) := by decide +kernel
theorem dX11_couples_9 : decode cX11_couples 9 = .ok (.astore_n 3, 1) := by decide +kernel
theorem dX11_couples_10 : decode cX11_couples 10 = .ok (.aload_n 3, 1) := by decide +kernel
theorem dX11_couples_11 : decode cX11_couples 11 = .ok (.ifnull 10, 3) := by decide +kernel
theorem dX11_couples_14 : decode cX11_couples 14 = .ok (.iload_n 2, 1) := by decide +kernel
theorem dX11_couples_15 : decode cX11_couples 15 = .ok (.invokestatic 137, 3) := by decide +kernel
theorem dX11_couples_18 : decode cX11_couples 18 = .ok (.ifCond .ne 5, 3) := by decide +kernel
theorem dX11_couples_21 : decode cX11_couples 21 = .ok (.iconst (-1), 1) := by decide +kernel
theorem dX11_couples_22 : decode cX11_couples 22 = .ok (.ireturn, 1) := by decide +kernel
theorem dX11_couples_23 : decode cX11_couples 23 = .ok (.aload_n 0, 1) := by decide +kernel
theorem dX11_couples_24 : decode cX11_couples 24 = .ok (.iload_n 1, 1) := by decide +kernel
theorem dX11_couples_25 : decode cX11_couples 25 = .ok (.aload_n 3, 1) := by decide +kernel
theorem dX11_couples_26 : decode cX11_couples 26 = .ok (.invokevirtual 141, 3) := by decide +kernel
theorem dX11_couples_29 : decode cX11_couples 29 = .ok (.astore 4, 2) := by decide +kernel
theorem dX11_couples_31 : decode cX11_couples 31 = .ok (.iconst 0, 1) := by decide +kernel
theorem dX11_couples_32 : decode cX11_couples 32 = .ok (.istore 5, 2) := by decide +kernel
theorem dX11_couples_34 : decode cX11_couples 34 = .ok (.iconst 0, 1) := by decide +kernel
theorem dX11_couples_35 : decode cX11_couples 35 = .ok (.istore 6, 2) := by decide +kernel
theorem dX11_couples_37 : decode cX11_couples 37 = .ok (.iload 6, 2) := by decide +kernel
theorem dX11_couples_39 : decode cX11_couples 39 = .ok (.aload_n 3, 1) := by decide +kernel
theorem dX11_couples_40 : decode cX11_couples 40 = .ok (.getfield 103, 3) := by decide +kernel
theorem dX11_couples_43 : decode cX11_couples 43 = .ok (.if_icmp .ge 54, 3) := by decide +kernel
theorem dX11_couples_46 : decode cX11_couples 46 = .ok (.iload 6, 2) := by decide +kernel
theorem dX11_couples_48 : decode cX11_couples 48 = .ok (.iconst 1, 1) := by decide +kernel
theorem dX11_couples_49 : decode cX11_couples 49 = .ok (.iadd, 1) := by decide +kernel
theorem dX11_couples_50 : decode cX11_couples 50 = .ok (.istore 7, 2) := by decide +kernel
theorem dX11_couples_52 : decode cX11_couples 52 = .ok (.iload 7, 2) := by decide +kernel
theorem dX11_couples_54 : decode cX11_couples 54 = .ok (.aload_n 3, 1) := by decide +kernel
theorem dX11_couples_55 : decode cX11_couples 55 = .ok (.getfield 103, 3) := by decide +kernel
theorem dX11_couples_58 : decode cX11_couples 58 = .ok (.if_icmp .ge 33, 3) := by decide +kernel
theorem dX11_couples_61 : decode cX11_couples 61 = .ok (.aload 4, 2) := by decide +kernel
theorem dX11_couples_63 : decode cX11_couples 63 = .ok (.iconst 1, 1) := by decide +kernel
theorem dX11_couples_64 : decode cX11_couples 64 = .ok (.iload 6, 2) := by decide +kernel
theorem dX11_couples_66 : decode cX11_couples 66 = .ok (.ishl, 1) := by decide +kernel
theorem dX11_couples_67 : decode cX11_couples 67 = .ok (.iconst 1, 1) := by decide +kernel
theorem dX11_couples_68 : decode cX11_couples 68 = .ok (.iload 7, 2) := by decide +kernel
theorem dX11_couples_70 : decode cX11_couples 70 = .ok (.ishl, 1) := by decide +kernel
theorem dX11_couples_71 : decode cX11_couples 71 = .ok (.ior, 1) := by decide +kernel
theorem dX11_couples_72 : decode cX11_couples 72 = .ok (.invokevirtual 257, 3) := by decide +kernel
theorem dX11_couples_75 : decode cX11_couples 75 = .ok (.iload_n 2, 1) := by decide +kernel
theorem dX11_couples_76 : decode cX11_couples 76 = .ok (.invokestatic 148, 3) := by decide +kernel
theorem dX11_couples_79 : decode cX11_couples 79 = .ok (.ifCond .eq 6, 3) := by decide +kernel
theorem dX11_couples_82 : decode cX11_couples 82 = .ok (.iinc 5 1, 3) := by decide +kernel
theorem dX11_couples_85 : decode cX11_couples 85 = .ok (.iinc 7 1, 3) := by decide +kernel
theorem dX11_couples_88 : decode cX11_couples 88 = .ok (.goto (-36), 3) := by decide +kernel
theorem dX11_couples_91 : decode cX11_couples 91 = .ok (.iinc 6 1, 3) := by decide +kernel
theorem dX11_couples_94 : decode cX11_couples 94 = .ok (.goto (-57), 3) := by decide +kernel
theorem dX11_couples_97 : decode cX11_couples 97 = .ok (.iload 5, 2) := by decide +kernel
theorem dX11_couples_99 : decode cX11_couples 99 = .ok (.ireturn, 1) := by decide +kernel
set_option maxRecDepth 20000 in
theorem ggX11_crowd_X9_find : GoodIn wsX11_crowd wsX9_find := goodIn_r _ [6, 7, 8, 163, 164, 165, 166, 167, 168] (by decide +kernel) (by decide +kernel)
set_option maxRecDepth 20000 in
theorem gX11_crowd_X9_find : GoodIn wsX11_crowd (wsV RX11 99 RX9 yX9_find wsX9_find) := goodIn_app (goodIn_of _ (by decide +kernel)) ggX11_crowd_X9_find
set_option maxRecDepth 20000 in
theorem ggX11_crowd_X11_bookOf : GoodIn wsX11_crowd wsX11_bookOf := goodIn_r _ [13, 14, 15, 16, 17, 18, 19, 20, 21, 22, 23, 24, 25, 26, 27, 28, 29, 30, 31, 32, 33, 34, 35, 36, 37, 38, 39, 40, 41, 42, 43, 44, 45, 46, 47, 48, 49, 50, 51, 52, 53, 54, 55, 56, 57, 58, 59, 60, 61, 62, 63, 64, 65, 66, 67, 68, 69, 70, 71, 72, 73, 74, 75, 76, 77, 78, 79, 80, 81, 82, 83, 84, 85, 86, 87, 88, 89, 90, 91, 92, 93, 94, 95, 12, 96, 97, 98, 99, 100, 101, 102, 103, 104, 105, 106, 107, 108, 109, 110, 111, 112, 113, 114, 115, 116, 117, 118, 119, 120, 121, 122, 123, 124, 125, 126, 127, 128, 129, 130, 131, 132, 133, 134, 135, 136, 137, 138, 139, 140, 141, 142, 143, 144, 145, 146, 147, 148, 155, 156, 157, 158, 159, 160, 161, 162, 169, 170, 171, 172, 173, 174, 175, 176, 177, 178, 179, 180, 181, 182, 183, 184, 185, 186, 187, 188, 189, 190, 191, 192, 193, 194, 195, 196, 197, 198, 199, 200, 201, 202, 203, 204, 205, 206, 207, 208] (by decide +kernel) (by decide +kernel)
set_option maxRecDepth 20000 in
theorem gX11_crowd_X11_bookOf : GoodIn wsX11_crowd (wsV RX11 141 RX11 yX11_bookOf wsX11_bookOf) := goodIn_app (goodIn_of _ (by decide +kernel)) ggX11_crowd_X11_bookOf
set_option maxRecDepth 20000 in
theorem ggX11_crowd_X1_rowsWithin : GoodIn wsX11_crowd wsX1_rowsWithin := goodIn_r _ [152, 24, 153, 154, 173, 174, 175, 176, 177, 178, 179, 180, 181, 182, 183, 184, 185, 186, 187, 188, 189, 190, 191, 192, 193, 194, 195, 196, 197, 198, 199, 200, 201] (by decide +kernel) (by decide +kernel)
set_option maxRecDepth 20000 in
theorem gX11_crowd_X1_rowsWithin : GoodIn wsX11_crowd (wsV RX11 260 RX1 yX1_rowsWithin wsX1_rowsWithin) := goodIn_app (goodIn_of _ (by decide +kernel)) ggX11_crowd_X1_rowsWithin
theorem dX11_crowd_0 : decode cX11_crowd 0 = .ok (.aload_n 0, 1) := by decide +kernel
theorem dX11_crowd_1 : decode cX11_crowd 1 = .ok (.getfield 10, 3) := by decide +kernel
theorem dX11_crowd_4 : decode cX11_crowd 4 = .ok (.iconst 0, 1) := by decide +kernel
theorem dX11_crowd_5 : decode cX11_crowd 5 = .ok (.iload_n 1, 1) := by decide +kernel
theorem dX11_crowd_6 : decode cX11_crowd 6 = .ok (.invokevirtual 99, 3) := by decide +kernel
theorem dX11_crowd_9 : decode cX11_crowd 9 = .ok (.astore_n 3, 1) := by decide +kernel
theorem dX11_crowd_10 : decode cX11_crowd 10 = .ok (.aload_n 3, 1) := by decide +kernel
theorem dX11_crowd_11 : decode cX11_crowd 11 = .ok (.ifnull 13, 3) := by decide +kernel
theorem dX11_crowd_14 : decode cX11_crowd 14 = .ok (.iload_n 2, 1) := by decide +kernel
theorem dX11_crowd_15 : decode cX11_crowd 15 = .ok (.ifCond .lt 9, 3) := by decide +kernel
theorem dX11_crowd_18 : decode cX11_crowd 18 = .ok (.iload_n 2, 1) := by decide +kernel
theorem dX11_crowd_19 : decode cX11_crowd 19 = .ok (.bipush 30, 2) := by decide +kernel
theorem dX11_crowd_21 : decode cX11_crowd 21 = .ok (.if_icmp .le 5, 3) := by decide +kernel
theorem dX11_crowd_24 : decode cX11_crowd 24 = .ok (.iconst (-1), 1) := by decide +kernel
theorem dX11_crowd_25 : decode cX11_crowd 25 = .ok (.ireturn, 1) := by decide +kernel
theorem dX11_crowd_26 : decode cX11_crowd 26 = .ok (.aload_n 0, 1) := by decide +kernel
theorem dX11_crowd_27 : decode cX11_crowd 27 = .ok (.iload_n 1, 1) := by decide +kernel
theorem dX11_crowd_28 : decode cX11_crowd 28 = .ok (.aload_n 3, 1) := by decide +kernel
theorem dX11_crowd_29 : decode cX11_crowd 29 = .ok (.invokevirtual 141, 3) := by decide +kernel
theorem dX11_crowd_32 : decode cX11_crowd 32 = .ok (.iconst 1, 1) := by decide +kernel
theorem dX11_crowd_33 : decode cX11_crowd 33 = .ok (.iload_n 2, 1) := by decide +kernel
theorem dX11_crowd_34 : decode cX11_crowd 34 = .ok (.ishl, 1) := by decide +kernel
theorem dX11_crowd_35 : decode cX11_crowd 35 = .ok (.invokevirtual 260, 3) := by decide +kernel
theorem dX11_crowd_38 : decode cX11_crowd 38 = .ok (.ireturn, 1) := by decide +kernel
set_option maxRecDepth 20000 in
theorem ggX11_same_X9_find : GoodIn wsX11_same wsX9_find := goodIn_r _ [7, 8, 9, 58, 59, 60, 61, 62, 63] (by decide +kernel) (by decide +kernel)
set_option maxRecDepth 20000 in
theorem gX11_same_X9_find : GoodIn wsX11_same (wsV RX11 99 RX9 yX9_find wsX9_find) := goodIn_app (goodIn_of _ (by decide +kernel)) ggX11_same_X9_find
set_option maxRecDepth 20000 in
theorem ggX11_same_X11_isT : GoodIn wsX11_same wsX11_isT := goodIn_r _ [13] (by decide +kernel) (by decide +kernel)
set_option maxRecDepth 20000 in
theorem gX11_same_X11_isT : GoodIn wsX11_same (va_wsS RX11 137 yX11_isT wsX11_isT) := goodIn_app (goodIn_of _ (by decide +kernel)) ggX11_same_X11_isT
set_option maxRecDepth 20000 in
theorem ggX11_same_X4_begin : GoodIn wsX11_same wsX4_begin := goodIn_r _ [18, 19, 20, 21, 22, 23, 24, 25, 26, 12, 27, 64, 65, 66, 67, 68, 69, 70, 71, 72, 73, 74, 75] (by decide +kernel) (by decide +kernel)
set_option maxRecDepth 20000 in
theorem gX11_same_X4_begin : GoodIn wsX11_same (wsV RX11 184 RX4 yX4_begin wsX4_begin) := goodIn_app (goodIn_of _ (by decide +kernel)) ggX11_same_X4_begin
set_option maxRecDepth 20000 in
theorem ggX11_same_X4_roundComesTo : GoodIn wsX11_same wsX4_roundComesTo := goodIn_r _ [31, 24, 32, 33, 34, 17, 35, 36, 22, 37, 38, 39, 40, 41, 42, 43, 44, 45, 46, 47, 48, 49, 68, 69, 70, 71, 72, 73, 74, 75, 76, 77] (by decide +kernel) (by decide +kernel)
set_option maxRecDepth 20000 in
theorem gX11_same_X4_roundComesTo : GoodIn wsX11_same (wsV RX11 263 RX4 yX4_roundComesTo wsX4_roundComesTo) := goodIn_app (goodIn_of _ (by decide +kernel)) ggX11_same_X4_roundComesTo
theorem dX11_same_0 : decode cX11_same 0 = .ok (.aload_n 0, 1) := by decide +kernel
theorem dX11_same_1 : decode cX11_same 1 = .ok (.getfield 10, 3) := by decide +kernel
theorem dX11_same_4 : decode cX11_same 4 = .ok (.iconst 0, 1) := by decide +kernel
theorem dX11_same_5 : decode cX11_same 5 = .ok (.iload_n 1, 1) := by decide +kernel
theorem dX11_same_6 : decode cX11_same 6 = .ok (.invokevirtual 99, 3) := by decide +kernel
theorem dX11_same_9 : decode cX11_same 9 = .ok (.astore_n 3, 1) := by decide +kernel
theorem dX11_same_10 : decode cX11_same 10 = .ok (.aload_n 3, 1) := by decide +kernel
theorem dX11_same_11 : decode cX11_same 11 = .ok (.ifnull 10, 3) := by decide +kernel
theorem dX11_same_14 : decode cX11_same 14 = .ok (.iload_n 2, 1) := by decide +kernel
theorem dX11_same_15 : decode cX11_same 15 = .ok (.invokestatic 137, 3) := by decide +kernel
theorem dX11_same_18 : decode cX11_same 18 = .ok (.ifCond .ne 5, 3) := by decide +kernel
theorem dX11_same_21 : decode cX11_same 21 = .ok (.iconst (-1), 1) := by decide +kernel
theorem dX11_same_22 : decode cX11_same 22 = .ok (.ireturn, 1) := by decide +kernel
theorem dX11_same_23 : decode cX11_same 23 = .ok (.aload_n 0, 1) := by decide +kernel
theorem dX11_same_24 : decode cX11_same 24 = .ok (.getfield 53, 3) := by decide +kernel
theorem dX11_same_27 : decode cX11_same 27 = .ok (.aload_n 3, 1) := by decide +kernel
theorem dX11_same_28 : decode cX11_same 28 = .ok (.invokevirtual 184, 3) := by decide +kernel
theorem dX11_same_31 : decode cX11_same 31 = .ok (.aload_n 0, 1) := by decide +kernel
theorem dX11_same_32 : decode cX11_same 32 = .ok (.getfield 53, 3) := by decide +kernel
theorem dX11_same_35 : decode cX11_same 35 = .ok (.iload_n 2, 1) := by decide +kernel
theorem dX11_same_36 : decode cX11_same 36 = .ok (.invokevirtual 263, 3) := by decide +kernel
theorem dX11_same_39 : decode cX11_same 39 = .ok (.ifCond .eq 7, 3) := by decide +kernel
theorem dX11_same_42 : decode cX11_same 42 = .ok (.iconst 1, 1) := by decide +kernel
theorem dX11_same_43 : decode cX11_same 43 = .ok (.goto 4, 3) := by decide +kernel
theorem dX11_same_46 : decode cX11_same 46 = .ok (.iconst 0, 1) := by decide +kernel
theorem dX11_same_47 : decode cX11_same 47 = .ok (.ireturn, 1) := by decide +kernel
set_option maxRecDepth 20000 in
theorem ggX11_early_X9_find : GoodIn wsX11_early wsX9_find := goodIn_r _ [6, 7, 8, 171, 172, 173, 174, 175, 176] (by decide +kernel) (by decide +kernel)
set_option maxRecDepth 20000 in
theorem gX11_early_X9_find : GoodIn wsX11_early (wsV RX11 99 RX9 yX9_find wsX9_find) := goodIn_app (goodIn_of _ (by decide +kernel)) ggX11_early_X9_find
set_option maxRecDepth 20000 in
theorem ggX11_early_X11_bookOf : GoodIn wsX11_early wsX11_bookOf := goodIn_r _ [13, 14, 15, 16, 17, 18, 19, 20, 21, 22, 23, 24, 25, 26, 27, 28, 29, 30, 31, 32, 33, 34, 35, 36, 37, 38, 39, 40, 41, 42, 43, 44, 45, 46, 47, 48, 49, 50, 51, 52, 53, 54, 55, 56, 57, 58, 59, 60, 61, 62, 63, 64, 65, 66, 67, 68, 69, 70, 71, 72, 73, 74, 75, 76, 77, 78, 79, 80, 81, 82, 83, 84, 85, 86, 87, 88, 89, 90, 91, 92, 93, 94, 95, 12, 96, 97, 98, 99, 100, 101, 102, 103, 104, 105, 106, 107, 108, 109, 110, 111, 112, 113, 114, 115, 116, 117, 118, 119, 120, 121, 122, 123, 124, 125, 126, 127, 128, 129, 130, 131, 132, 133, 134, 135, 136, 137, 138, 139, 140, 141, 142, 143, 144, 145, 146, 147, 148, 163, 164, 165, 166, 167, 168, 169, 170, 177, 178, 179, 180, 181, 182, 183, 184, 185, 186, 187, 188, 189, 190, 191, 192, 193, 194, 195, 196, 197, 198, 199, 200, 201, 202, 203, 204, 205, 206, 207, 208, 209, 210, 211, 212, 213, 214, 215, 216] (by decide +kernel) (by decide +kernel)
set_option maxRecDepth 20000 in
theorem gX11_early_X11_bookOf : GoodIn wsX11_early (wsV RX11 141 RX11 yX11_bookOf wsX11_bookOf) := goodIn_app (goodIn_of _ (by decide +kernel)) ggX11_early_X11_bookOf
set_option maxRecDepth 20000 in
theorem ggX11_early_X1_minutesOfEvent : GoodIn wsX11_early wsX1_minutesOfEvent := goodIn_r _ [152, 24, 153, 181, 182, 183, 184, 185, 186, 187, 188, 189, 190, 191, 192, 193, 194, 195, 196, 197, 198, 199, 200, 201, 202, 203, 204, 205, 206, 207, 208, 209] (by decide +kernel) (by decide +kernel)
set_option maxRecDepth 20000 in
theorem gX11_early_X1_minutesOfEvent : GoodIn wsX11_early (wsV RX11 266 RX1 yX1_minutesOfEvent wsX1_minutesOfEvent) := goodIn_app (goodIn_of _ (by decide +kernel)) ggX11_early_X1_minutesOfEvent
set_option maxRecDepth 20000 in
theorem ggX11_early_X11_highest : GoodIn wsX11_early wsX11_highest := goodIn_r _ [156, 157, 158, 12, 159] (by decide +kernel) (by decide +kernel)
set_option maxRecDepth 20000 in
theorem gX11_early_X11_highest : GoodIn wsX11_early (va_wsS RX11 269 yX11_highest wsX11_highest) := goodIn_app (goodIn_of _ (by decide +kernel)) ggX11_early_X11_highest
set_option maxRecDepth 20000 in
theorem ggX11_early_X11_lowest : GoodIn wsX11_early wsX11_lowest := goodIn_r _ [162, 157, 158, 12, 159] (by decide +kernel) (by decide +kernel)
set_option maxRecDepth 20000 in
theorem gX11_early_X11_lowest : GoodIn wsX11_early (va_wsS RX11 272 yX11_lowest wsX11_lowest) := goodIn_app (goodIn_of _ (by decide +kernel)) ggX11_early_X11_lowest
theorem dX11_early_0 : decode cX11_early 0 = .ok (.aload_n 0, 1) := by decide +kernel
theorem dX11_early_1 : decode cX11_early 1 = .ok (.getfield 10, 3) := by decide +kernel
theorem dX11_early_4 : decode cX11_early 4 = .ok (.iconst 0, 1) := by decide +kernel
theorem dX11_early_5 : decode cX11_early 5 = .ok (.iload_n 1, 1) := by decide +kernel
theorem dX11_early_6 : decode cX11_early 6 = .ok (.invokevirtual 99, 3) := by decide +kernel
theorem dX11_early_9 : decode cX11_early 9 = .ok (.astore 4, 2) := by decide +kernel
theorem dX11_early_11 : decode cX11_early 11 = .ok (.aload 4, 2) := by decide +kernel
theorem dX11_early_13 : decode cX11_early 13 = .ok (.ifnull 13, 3) := by decide +kernel
theorem dX11_early_16 : decode cX11_early 16 = .ok (.iload_n 2, 1) := by decide +kernel
theorem dX11_early_17 : decode cX11_early 17 = .ok (.ifCond .lt 9, 3) := by decide +kernel
theorem dX11_early_20 : decode cX11_early 20 = .ok (.iload_n 2, 1) := by decide +kernel
theorem dX11_early_21 : decode cX11_early 21 = .ok (.bipush 20, 2) := by decide +kernel
theorem dX11_early_23 : decode cX11_early 23 = .ok (.if_icmp .le 5, 3) := by decide +kernel
theorem dX11_early_26 : decode cX11_early 26 = .ok (.iconst (-1), 1) := by decide +kernel
theorem dX11_early_27 : decode cX11_early 27 = .ok (.ireturn, 1) := by decide +kernel
theorem dX11_early_28 : decode cX11_early 28 = .ok (.aload_n 0, 1) := by decide +kernel
theorem dX11_early_29 : decode cX11_early 29 = .ok (.iload_n 1, 1) := by decide +kernel
theorem dX11_early_30 : decode cX11_early 30 = .ok (.aload 4, 2) := by decide +kernel
theorem dX11_early_32 : decode cX11_early 32 = .ok (.invokevirtual 141, 3) := by decide +kernel
theorem dX11_early_35 : decode cX11_early 35 = .ok (.iload_n 2, 1) := by decide +kernel
theorem dX11_early_36 : decode cX11_early 36 = .ok (.invokevirtual 266, 3) := by decide +kernel
theorem dX11_early_39 : decode cX11_early 39 = .ok (.istore 5, 2) := by decide +kernel
theorem dX11_early_41 : decode cX11_early 41 = .ok (.iload_n 3, 1) := by decide +kernel
theorem dX11_early_42 : decode cX11_early 42 = .ok (.ifCond .eq 11, 3) := by decide +kernel
theorem dX11_early_45 : decode cX11_early 45 = .ok (.iload 5, 2) := by decide +kernel
theorem dX11_early_47 : decode cX11_early 47 = .ok (.invokestatic 269, 3) := by decide +kernel
theorem dX11_early_50 : decode cX11_early 50 = .ok (.goto 8, 3) := by decide +kernel
theorem dX11_early_53 : decode cX11_early 53 = .ok (.iload 5, 2) := by decide +kernel
theorem dX11_early_55 : decode cX11_early 55 = .ok (.invokestatic 272, 3) := by decide +kernel
theorem dX11_early_58 : decode cX11_early 58 = .ok (.ireturn, 1) := by decide +kernel
set_option maxRecDepth 20000 in
theorem ggX11_after_X9_find : GoodIn wsX11_after wsX9_find := goodIn_r _ [13, 14, 15, 102, 103, 104, 105, 106, 107] (by decide +kernel) (by decide +kernel)
set_option maxRecDepth 20000 in
theorem gX11_after_X9_find : GoodIn wsX11_after (wsV RX11 99 RX9 yX9_find wsX9_find) := goodIn_app (goodIn_of _ (by decide +kernel)) ggX11_after_X9_find
set_option maxRecDepth 20000 in
theorem ggX11_after_X0_begin : GoodIn wsX11_after wsX0_begin := goodIn_r _ [20, 21, 22, 23, 24, 25, 26, 27, 28, 29, 30, 31, 32, 33, 34, 35, 36, 37, 38, 39, 40, 41, 42, 43, 44, 89, 90, 91, 92, 93, 94, 95, 96, 97, 98, 99, 100, 101, 108, 109, 110, 111] (by decide +kernel) (by decide +kernel)
set_option maxRecDepth 20000 in
theorem gX11_after_X0_begin : GoodIn wsX11_after (wsV RX11 125 RX0 yX0_begin wsX0_begin) := goodIn_app (goodIn_of _ (by decide +kernel)) ggX11_after_X0_begin
set_option maxRecDepth 20000 in
theorem ggX11_after_X0_play : GoodIn wsX11_after wsX0_play := goodIn_r _ [48, 21, 28, 29, 22, 23, 24, 25, 49, 50, 51, 19, 52, 30, 26, 27, 35, 53, 54, 55, 56, 34, 32, 31, 33, 57, 58, 59, 60, 61, 62, 39, 63, 43, 42, 64, 65, 66, 67, 44, 68, 69, 70, 71, 41, 72, 73, 74, 75, 89, 90, 91, 92, 93, 94, 95, 96, 97, 98, 99, 100, 101, 108, 109, 110, 111] (by decide +kernel) (by decide +kernel)
set_option maxRecDepth 20000 in
theorem gX11_after_X0_play : GoodIn wsX11_after (wsV RX11 129 RX0 yX0_play wsX0_play) := goodIn_app (goodIn_of _ (by decide +kernel)) ggX11_after_X0_play
set_option maxRecDepth 20000 in
theorem ggX11_after_X0_keenest : GoodIn wsX11_after wsX0_keenest := goodIn_r _ [79, 26, 27, 80, 93, 94, 95, 96, 97, 98, 99, 100, 101, 108, 109, 110, 111] (by decide +kernel) (by decide +kernel)
set_option maxRecDepth 20000 in
theorem gX11_after_X0_keenest : GoodIn wsX11_after (wsV RX11 290 RX0 yX0_keenest wsX0_keenest) := goodIn_app (goodIn_of _ (by decide +kernel)) ggX11_after_X0_keenest
theorem dX11_after_0 : decode cX11_after 0 = .ok (.aload_n 0, 1) := by decide +kernel
theorem dX11_after_1 : decode cX11_after 1 = .ok (.getfield 10, 3) := by decide +kernel
theorem dX11_after_4 : decode cX11_after 4 = .ok (.iconst 0, 1) := by decide +kernel
theorem dX11_after_5 : decode cX11_after 5 = .ok (.iload_n 1, 1) := by decide +kernel
theorem dX11_after_6 : decode cX11_after 6 = .ok (.invokevirtual 99, 3) := by decide +kernel
theorem dX11_after_9 : decode cX11_after 9 = .ok (.astore 4, 2) := by decide +kernel
theorem dX11_after_11 : decode cX11_after 11 = .ok (.aload_n 0, 1) := by decide +kernel
theorem dX11_after_12 : decode cX11_after 12 = .ok (.getfield 10, 3) := by decide +kernel
theorem dX11_after_15 : decode cX11_after 15 = .ok (.iconst 1, 1) := by decide +kernel
theorem dX11_after_16 : decode cX11_after 16 = .ok (.iload_n 2, 1) := by decide +kernel
theorem dX11_after_17 : decode cX11_after 17 = .ok (.invokevirtual 99, 3) := by decide +kernel
theorem dX11_after_20 : decode cX11_after 20 = .ok (.astore 5, 2) := by decide +kernel
theorem dX11_after_22 : decode cX11_after 22 = .ok (.aload 4, 2) := by decide +kernel
theorem dX11_after_24 : decode cX11_after 24 = .ok (.ifnull 8, 3) := by decide +kernel
theorem dX11_after_27 : decode cX11_after 27 = .ok (.aload 5, 2) := by decide +kernel
theorem dX11_after_29 : decode cX11_after 29 = .ok (.ifnonnull 6, 3) := by decide +kernel
theorem dX11_after_32 : decode cX11_after 32 = .ok (.bipush (-2), 2) := by decide +kernel
theorem dX11_after_34 : decode cX11_after 34 = .ok (.ireturn, 1) := by decide +kernel
theorem dX11_after_35 : decode cX11_after 35 = .ok (.aload_n 0, 1) := by decide +kernel
theorem dX11_after_36 : decode cX11_after 36 = .ok (.getfield 30, 3) := by decide +kernel
theorem dX11_after_39 : decode cX11_after 39 = .ok (.aload 4, 2) := by decide +kernel
theorem dX11_after_41 : decode cX11_after 41 = .ok (.invokevirtual 125, 3) := by decide +kernel
theorem dX11_after_44 : decode cX11_after 44 = .ok (.aload_n 0, 1) := by decide +kernel
theorem dX11_after_45 : decode cX11_after 45 = .ok (.getfield 30, 3) := by decide +kernel
theorem dX11_after_48 : decode cX11_after 48 = .ok (.aload 5, 2) := by decide +kernel
theorem dX11_after_50 : decode cX11_after 50 = .ok (.aload 5, 2) := by decide +kernel
theorem dX11_after_52 : decode cX11_after 52 = .ok (.getfield 103, 3) := by decide +kernel
theorem dX11_after_55 : decode cX11_after 55 = .ok (.invokevirtual 129, 3) := by decide +kernel
theorem dX11_after_58 : decode cX11_after 58 = .ok (.pop, 1) := by decide +kernel
theorem dX11_after_59 : decode cX11_after 59 = .ok (.iload_n 3, 1) := by decide +kernel
theorem dX11_after_60 : decode cX11_after 60 = .ok (.tableswitch 88 0 5 #[40, 48, 56, 64, 72, 80], 40) := by decide +kernel
theorem dX11_after_100 : decode cX11_after 100 = .ok (.aload_n 0, 1) := by decide +kernel
theorem dX11_after_101 : decode cX11_after 101 = .ok (.getfield 30, 3) := by decide +kernel
theorem dX11_after_104 : decode cX11_after 104 = .ok (.getfield 275, 3) := by decide +kernel
theorem dX11_after_107 : decode cX11_after 107 = .ok (.ireturn, 1) := by decide +kernel
theorem dX11_after_108 : decode cX11_after 108 = .ok (.aload_n 0, 1) := by decide +kernel
theorem dX11_after_109 : decode cX11_after 109 = .ok (.getfield 30, 3) := by decide +kernel
theorem dX11_after_112 : decode cX11_after 112 = .ok (.getfield 278, 3) := by decide +kernel
theorem dX11_after_115 : decode cX11_after 115 = .ok (.ireturn, 1) := by decide +kernel
theorem dX11_after_116 : decode cX11_after 116 = .ok (.aload_n 0, 1) := by decide +kernel
theorem dX11_after_117 : decode cX11_after 117 = .ok (.getfield 30, 3) := by decide +kernel
theorem dX11_after_120 : decode cX11_after 120 = .ok (.getfield 281, 3) := by decide +kernel
theorem dX11_after_123 : decode cX11_after 123 = .ok (.ireturn, 1) := by decide +kernel
theorem dX11_after_124 : decode cX11_after 124 = .ok (.aload_n 0, 1) := by decide +kernel
theorem dX11_after_125 : decode cX11_after 125 = .ok (.getfield 30, 3) := by decide +kernel
theorem dX11_after_128 : decode cX11_after 128 = .ok (.getfield 284, 3) := by decide +kernel
theorem dX11_after_131 : decode cX11_after 131 = .ok (.ireturn, 1) := by decide +kernel
theorem dX11_after_132 : decode cX11_after 132 = .ok (.aload_n 0, 1) := by decide +kernel
theorem dX11_after_133 : decode cX11_after 133 = .ok (.getfield 30, 3) := by decide +kernel
theorem dX11_after_136 : decode cX11_after 136 = .ok (.getfield 287, 3) := by decide +kernel
theorem dX11_after_139 : decode cX11_after 139 = .ok (.ireturn, 1) := by decide +kernel
theorem dX11_after_140 : decode cX11_after 140 = .ok (.aload_n 0, 1) := by decide +kernel
theorem dX11_after_141 : decode cX11_after 141 = .ok (.getfield 30, 3) := by decide +kernel
theorem dX11_after_144 : decode cX11_after 144 = .ok (.invokevirtual 290, 3) := by decide +kernel
theorem dX11_after_147 : decode cX11_after 147 = .ok (.ireturn, 1) := by decide +kernel
theorem dX11_after_148 : decode cX11_after 148 = .ok (.bipush (-2), 2) := by decide +kernel
theorem dX11_after_150 : decode cX11_after 150 = .ok (.ireturn, 1) := by decide +kernel
theorem dX11_count_0 : decode cX11_count 0 = .ok (.iload_n 1, 1) := by decide +kernel
theorem dX11_count_1 : decode cX11_count 1 = .ok (.ifCond .lt 20, 3) := by decide +kernel
theorem dX11_count_4 : decode cX11_count 4 = .ok (.iload_n 1, 1) := by decide +kernel
theorem dX11_count_5 : decode cX11_count 5 = .ok (.iconst 4, 1) := by decide +kernel
theorem dX11_count_6 : decode cX11_count 6 = .ok (.if_icmp .ge 15, 3) := by decide +kernel
theorem dX11_count_9 : decode cX11_count 9 = .ok (.aload_n 0, 1) := by decide +kernel
theorem dX11_count_10 : decode cX11_count 10 = .ok (.getfield 10, 3) := by decide +kernel
theorem dX11_count_13 : decode cX11_count 13 = .ok (.getfield 293, 3) := by decide +kernel
theorem dX11_count_16 : decode cX11_count 16 = .ok (.iload_n 1, 1) := by decide +kernel
theorem dX11_count_17 : decode cX11_count 17 = .ok (.iaload, 1) := by decide +kernel
theorem dX11_count_18 : decode cX11_count 18 = .ok (.goto 5, 3) := by decide +kernel
theorem dX11_count_21 : decode cX11_count 21 = .ok (.bipush (-2), 2) := by decide +kernel
theorem dX11_count_23 : decode cX11_count 23 = .ok (.ireturn, 1) := by decide +kernel
set_option maxRecDepth 20000 in
theorem ggX11_image_X9_init : GoodIn wsX11_image wsX9_init := goodIn_r _ [8, 9, 10, 11, 12, 13, 14, 15, 16, 17, 18, 19, 20, 21, 22, 23, 24, 25, 26, 55, 56, 57, 58, 59, 60, 61, 62, 63, 64] (by decide +kernel) (by decide +kernel)
set_option maxRecDepth 20000 in
theorem gX11_image_X9_init : GoodIn wsX11_image (wsX9_init) := ggX11_image_X9_init
set_option maxRecDepth 20000 in
theorem ggX11_image_X9_become : GoodIn wsX11_image wsX9_become := goodIn_r _ [30, 13, 31, 32, 33, 34, 35, 36, 14, 15, 17, 37, 38, 39, 19, 40, 41, 24, 42, 43, 44, 45, 46, 25, 26, 55, 56, 57, 58, 59, 60, 61, 62, 63, 64] (by decide +kernel) (by decide +kernel)
set_option maxRecDepth 20000 in
theorem gX11_image_X9_become : GoodIn wsX11_image (wsV RX11 296 RX9 yX9_become wsX9_become) := goodIn_app (goodIn_of _ (by decide +kernel)) ggX11_image_X9_become
theorem dX11_image_0 : decode cX11_image 0 = .ok (.iload_n 1, 1) := by decide +kernel
theorem dX11_image_1 : decode cX11_image 1 = .ok (.ifCond .lt 8, 3) := by decide +kernel
theorem dX11_image_4 : decode cX11_image 4 = .ok (.iload_n 1, 1) := by decide +kernel
theorem dX11_image_5 : decode cX11_image 5 = .ok (.iconst 3, 1) := by decide +kernel
theorem dX11_image_6 : decode cX11_image 6 = .ok (.if_icmp .lt 5, 3) := by decide +kernel
theorem dX11_image_9 : decode cX11_image 9 = .ok (.iconst 0, 1) := by decide +kernel
theorem dX11_image_10 : decode cX11_image 10 = .ok (.ireturn, 1) := by decide +kernel
theorem dX11_image_11 : decode cX11_image 11 = .ok (.aload_n 0, 1) := by decide +kernel
theorem dX11_image_12 : decode cX11_image 12 = .ok (.getfield 16, 3) := by decide +kernel
theorem dX11_image_15 : decode cX11_image 15 = .ok (.iload_n 1, 1) := by decide +kernel
theorem dX11_image_16 : decode cX11_image 16 = .ok (.aaload, 1) := by decide +kernel
theorem dX11_image_17 : decode cX11_image 17 = .ok (.ifnonnull 16, 3) := by decide +kernel
theorem dX11_image_20 : decode cX11_image 20 = .ok (.aload_n 0, 1) := by decide +kernel
theorem dX11_image_21 : decode cX11_image 21 = .ok (.getfield 16, 3) := by decide +kernel
theorem dX11_image_24 : decode cX11_image 24 = .ok (.iload_n 1, 1) := by decide +kernel
theorem dX11_image_25 : decode cX11_image 25 = .ok (.new 7, 3) := by decide +kernel
theorem dX11_image_28 : decode cX11_image 28 = .ok (.dup, 1) := by decide +kernel
theorem dX11_image_29 : decode cX11_image 29 = .ok (.invokespecial 9, 3) := by decide +kernel
theorem dX11_image_32 : decode cX11_image 32 = .ok (.aastore, 1) := by decide +kernel
theorem dX11_image_33 : decode cX11_image 33 = .ok (.aload_n 0, 1) := by decide +kernel
theorem dX11_image_34 : decode cX11_image 34 = .ok (.getfield 16, 3) := by decide +kernel
theorem dX11_image_37 : decode cX11_image 37 = .ok (.iload_n 1, 1) := by decide +kernel
theorem dX11_image_38 : decode cX11_image 38 = .ok (.aaload, 1) := by decide +kernel
theorem dX11_image_39 : decode cX11_image 39 = .ok (.aload_n 0, 1) := by decide +kernel
theorem dX11_image_40 : decode cX11_image 40 = .ok (.getfield 10, 3) := by decide +kernel
theorem dX11_image_43 : decode cX11_image 43 = .ok (.invokevirtual 296, 3) := by decide +kernel
theorem dX11_image_46 : decode cX11_image 46 = .ok (.iconst 1, 1) := by decide +kernel
theorem dX11_image_47 : decode cX11_image 47 = .ok (.ireturn, 1) := by decide +kernel
set_option maxRecDepth 20000 in
theorem ggX11_again_X9_become : GoodIn wsX11_again wsX9_become := goodIn_r _ [7, 8, 9, 10, 11, 12, 13, 14, 15, 16, 17, 18, 19, 20, 21, 22, 23, 24, 25, 26, 27, 28, 29, 30, 31, 40, 41, 42, 43, 44, 45, 46, 47, 48, 49] (by decide +kernel) (by decide +kernel)
set_option maxRecDepth 20000 in
theorem gX11_again_X9_become : GoodIn wsX11_again (wsV RX11 296 RX9 yX9_become wsX9_become) := goodIn_app (goodIn_of _ (by decide +kernel)) ggX11_again_X9_become
theorem dX11_again_0 : decode cX11_again 0 = .ok (.iload_n 1, 1) := by decide +kernel
theorem dX11_again_1 : decode cX11_again 1 = .ok (.ifCond .lt 17, 3) := by decide +kernel
theorem dX11_again_4 : decode cX11_again 4 = .ok (.iload_n 1, 1) := by decide +kernel
theorem dX11_again_5 : decode cX11_again 5 = .ok (.iconst 3, 1) := by decide +kernel
theorem dX11_again_6 : decode cX11_again 6 = .ok (.if_icmp .ge 12, 3) := by decide +kernel
theorem dX11_again_9 : decode cX11_again 9 = .ok (.aload_n 0, 1) := by decide +kernel
theorem dX11_again_10 : decode cX11_again 10 = .ok (.getfield 16, 3) := by decide +kernel
theorem dX11_again_13 : decode cX11_again 13 = .ok (.iload_n 1, 1) := by decide +kernel
theorem dX11_again_14 : decode cX11_again 14 = .ok (.aaload, 1) := by decide +kernel
theorem dX11_again_15 : decode cX11_again 15 = .ok (.ifnonnull 5, 3) := by decide +kernel
theorem dX11_again_18 : decode cX11_again 18 = .ok (.iconst 0, 1) := by decide +kernel
theorem dX11_again_19 : decode cX11_again 19 = .ok (.ireturn, 1) := by decide +kernel
theorem dX11_again_20 : decode cX11_again 20 = .ok (.aload_n 0, 1) := by decide +kernel
theorem dX11_again_21 : decode cX11_again 21 = .ok (.getfield 10, 3) := by decide +kernel
theorem dX11_again_24 : decode cX11_again 24 = .ok (.aload_n 0, 1) := by decide +kernel
theorem dX11_again_25 : decode cX11_again 25 = .ok (.getfield 16, 3) := by decide +kernel
theorem dX11_again_28 : decode cX11_again 28 = .ok (.iload_n 1, 1) := by decide +kernel
theorem dX11_again_29 : decode cX11_again 29 = .ok (.aaload, 1) := by decide +kernel
theorem dX11_again_30 : decode cX11_again 30 = .ok (.invokevirtual 296, 3) := by decide +kernel
theorem dX11_again_33 : decode cX11_again 33 = .ok (.iconst 1, 1) := by decide +kernel
theorem dX11_again_34 : decode cX11_again 34 = .ok (.ireturn, 1) := by decide +kernel
set_option maxRecDepth 20000 in
theorem ggX11_bookOf_X1_hasRoomFor : GoodIn wsX11_bookOf wsX1_hasRoomFor := goodIn_r _ [10, 11, 12, 13, 14, 15, 16, 17, 18, 19, 149, 150, 151, 152, 153, 154, 155, 156, 157, 158, 159, 160, 161, 162, 163, 164, 165, 166, 167, 168, 169, 170, 171, 172, 173, 174, 175, 176, 177] (by decide +kernel) (by decide +kernel)
set_option maxRecDepth 20000 in
theorem gX11_bookOf_X1_hasRoomFor : GoodIn wsX11_bookOf (wsV RX11 300 RX1 yX1_hasRoomFor wsX1_hasRoomFor) := goodIn_app (goodIn_of _ (by decide +kernel)) ggX11_bookOf_X1_hasRoomFor
set_option maxRecDepth 20000 in
theorem ggX11_bookOf_X1_init : GoodIn wsX11_bookOf wsX1_init := goodIn_r _ [22, 23, 24, 25, 26, 27, 28, 29, 30, 31, 32, 33, 34, 35, 36, 11, 37, 38, 39, 40, 41, 12, 42, 43, 44, 45, 46, 47, 48, 49, 50, 14, 15, 16, 51, 18, 19, 52, 53, 54, 55, 56, 57, 58, 59, 60, 61, 62, 63, 64, 65, 66, 149, 150, 151, 152, 153, 154, 155, 156, 157, 158, 159, 160, 161, 162, 163, 164, 165, 166, 167, 168, 169, 170, 171, 172, 173, 174, 175, 176, 177, 178, 179, 180, 181, 182] (by decide +kernel) (by decide +kernel)
set_option maxRecDepth 20000 in
theorem gX11_bookOf_X1_init : GoodIn wsX11_bookOf (wsX1_init) := ggX11_bookOf_X1_init
set_option maxRecDepth 20000 in
theorem ggX11_bookOf_X1_open : GoodIn wsX11_bookOf wsX1_open := goodIn_r _ [70, 71, 72, 73, 33, 74, 75, 76, 77, 78, 79, 80, 30, 11, 81, 82, 83, 84, 85, 86, 87, 88, 89, 90, 91, 5, 92, 93, 94, 95, 36, 96, 97, 50, 14, 15, 16, 98, 52, 49, 54, 99, 100, 101, 102, 103, 51, 18, 19, 104, 105, 106, 107, 108, 109, 110, 111, 112, 113, 114, 115, 116, 117, 118, 119, 120, 48, 53, 55, 56, 121, 122, 123, 124, 125, 126, 127, 128, 129, 130, 131, 132, 133, 134, 135, 136, 145, 146, 147, 148, 149, 150, 151, 152, 153, 154, 155, 156, 157, 158, 159, 160, 161, 162, 163, 164, 165, 166, 167, 168, 169, 170, 171, 172, 173, 174, 175, 176, 177, 183, 184] (by decide +kernel) (by decide +kernel)
set_option maxRecDepth 20000 in
theorem gX11_bookOf_X1_open : GoodIn wsX11_bookOf (wsV RX11 306 RX1 yX1_open wsX1_open) := goodIn_app (goodIn_of _ (by decide +kernel)) ggX11_bookOf_X1_open
theorem dX11_bookOf_0 : decode cX11_bookOf 0 = .ok (.iload_n 1, 1) := by decide +kernel
theorem dX11_bookOf_1 : decode cX11_bookOf 1 = .ok (.ifCond .ne 7, 3) := by decide +kernel
theorem dX11_bookOf_4 : decode cX11_bookOf 4 = .ok (.iconst 0, 1) := by decide +kernel
theorem dX11_bookOf_5 : decode cX11_bookOf 5 = .ok (.goto 4, 3) := by decide +kernel
theorem dX11_bookOf_8 : decode cX11_bookOf 8 = .ok (.iconst 1, 1) := by decide +kernel
theorem dX11_bookOf_9 : decode cX11_bookOf 9 = .ok (.istore_n 3, 1) := by decide +kernel
theorem dX11_bookOf_10 : decode cX11_bookOf 10 = .ok (.aload_n 0, 1) := by decide +kernel
theorem dX11_bookOf_11 : decode cX11_bookOf 11 = .ok (.getfield 59, 3) := by decide +kernel
theorem dX11_bookOf_14 : decode cX11_bookOf 14 = .ok (.iload_n 3, 1) := by decide +kernel
theorem dX11_bookOf_15 : decode cX11_bookOf 15 = .ok (.aaload, 1) := by decide +kernel
theorem dX11_bookOf_16 : decode cX11_bookOf 16 = .ok (.ifnull 19, 3) := by decide +kernel
theorem dX11_bookOf_19 : decode cX11_bookOf 19 = .ok (.aload_n 0, 1) := by decide +kernel
theorem dX11_bookOf_20 : decode cX11_bookOf 20 = .ok (.getfield 59, 3) := by decide +kernel
theorem dX11_bookOf_23 : decode cX11_bookOf 23 = .ok (.iload_n 3, 1) := by decide +kernel
theorem dX11_bookOf_24 : decode cX11_bookOf 24 = .ok (.aaload, 1) := by decide +kernel
theorem dX11_bookOf_25 : decode cX11_bookOf 25 = .ok (.aload_n 2, 1) := by decide +kernel
theorem dX11_bookOf_26 : decode cX11_bookOf 26 = .ok (.getfield 103, 3) := by decide +kernel
theorem dX11_bookOf_29 : decode cX11_bookOf 29 = .ok (.invokevirtual 300, 3) := by decide +kernel
theorem dX11_bookOf_32 : decode cX11_bookOf 32 = .ok (.ifCond .ne 24, 3) := by decide +kernel
theorem dX11_bookOf_35 : decode cX11_bookOf 35 = .ok (.aload_n 0, 1) := by decide +kernel
theorem dX11_bookOf_36 : decode cX11_bookOf 36 = .ok (.getfield 59, 3) := by decide +kernel
theorem dX11_bookOf_39 : decode cX11_bookOf 39 = .ok (.iload_n 3, 1) := by decide +kernel
theorem dX11_bookOf_40 : decode cX11_bookOf 40 = .ok (.new 57, 3) := by decide +kernel
theorem dX11_bookOf_43 : decode cX11_bookOf 43 = .ok (.dup, 1) := by decide +kernel
theorem dX11_bookOf_44 : decode cX11_bookOf 44 = .ok (.aload_n 0, 1) := by decide +kernel
theorem dX11_bookOf_45 : decode cX11_bookOf 45 = .ok (.getfield 44, 3) := by decide +kernel
theorem dX11_bookOf_48 : decode cX11_bookOf 48 = .ok (.aload_n 2, 1) := by decide +kernel
theorem dX11_bookOf_49 : decode cX11_bookOf 49 = .ok (.getfield 103, 3) := by decide +kernel
theorem dX11_bookOf_52 : decode cX11_bookOf 52 = .ok (.invokespecial 303, 3) := by decide +kernel
theorem dX11_bookOf_55 : decode cX11_bookOf 55 = .ok (.aastore, 1) := by decide +kernel
theorem dX11_bookOf_56 : decode cX11_bookOf 56 = .ok (.aload_n 0, 1) := by decide +kernel
theorem dX11_bookOf_57 : decode cX11_bookOf 57 = .ok (.getfield 59, 3) := by decide +kernel
theorem dX11_bookOf_60 : decode cX11_bookOf 60 = .ok (.iload_n 3, 1) := by decide +kernel
theorem dX11_bookOf_61 : decode cX11_bookOf 61 = .ok (.aaload, 1) := by decide +kernel
theorem dX11_bookOf_62 : decode cX11_bookOf 62 = .ok (.aload_n 2, 1) := by decide +kernel
theorem dX11_bookOf_63 : decode cX11_bookOf 63 = .ok (.invokevirtual 306, 3) := by decide +kernel
theorem dX11_bookOf_66 : decode cX11_bookOf 66 = .ok (.aload_n 0, 1) := by decide +kernel
theorem dX11_bookOf_67 : decode cX11_bookOf 67 = .ok (.getfield 59, 3) := by decide +kernel
theorem dX11_bookOf_70 : decode cX11_bookOf 70 = .ok (.iload_n 3, 1) := by decide +kernel
theorem dX11_bookOf_71 : decode cX11_bookOf 71 = .ok (.aaload, 1) := by decide +kernel
theorem dX11_bookOf_72 : decode cX11_bookOf 72 = .ok (.areturn, 1) := by decide +kernel
theorem dX11_lineOf_0 : decode cX11_lineOf 0 = .ok (.aload_n 0, 1) := by decide +kernel
theorem dX11_lineOf_1 : decode cX11_lineOf 1 = .ok (.ifnonnull 6, 3) := by decide +kernel
theorem dX11_lineOf_4 : decode cX11_lineOf 4 = .ok (.bipush (-2), 2) := by decide +kernel
theorem dX11_lineOf_6 : decode cX11_lineOf 6 = .ok (.ireturn, 1) := by decide +kernel
theorem dX11_lineOf_7 : decode cX11_lineOf 7 = .ok (.iload_n 1, 1) := by decide +kernel
theorem dX11_lineOf_8 : decode cX11_lineOf 8 = .ok (.iconst (-1), 1) := by decide +kernel
theorem dX11_lineOf_9 : decode cX11_lineOf 9 = .ok (.if_icmp .ne 17, 3) := by decide +kernel
theorem dX11_lineOf_12 : decode cX11_lineOf 12 = .ok (.iload_n 2, 1) := by decide +kernel
theorem dX11_lineOf_13 : decode cX11_lineOf 13 = .ok (.ifCond .ne 10, 3) := by decide +kernel
theorem dX11_lineOf_16 : decode cX11_lineOf 16 = .ok (.aload_n 0, 1) := by decide +kernel
theorem dX11_lineOf_17 : decode cX11_lineOf 17 = .ok (.getfield 103, 3) := by decide +kernel
theorem dX11_lineOf_20 : decode cX11_lineOf 20 = .ok (.goto 5, 3) := by decide +kernel
theorem dX11_lineOf_23 : decode cX11_lineOf 23 = .ok (.bipush (-2), 2) := by decide +kernel
theorem dX11_lineOf_25 : decode cX11_lineOf 25 = .ok (.ireturn, 1) := by decide +kernel
theorem dX11_lineOf_26 : decode cX11_lineOf 26 = .ok (.iload_n 1, 1) := by decide +kernel
theorem dX11_lineOf_27 : decode cX11_lineOf 27 = .ok (.ifCond .lt 11, 3) := by decide +kernel
theorem dX11_lineOf_30 : decode cX11_lineOf 30 = .ok (.iload_n 1, 1) := by decide +kernel
theorem dX11_lineOf_31 : decode cX11_lineOf 31 = .ok (.aload_n 0, 1) := by decide +kernel
theorem dX11_lineOf_32 : decode cX11_lineOf 32 = .ok (.getfield 103, 3) := by decide +kernel
theorem dX11_lineOf_35 : decode cX11_lineOf 35 = .ok (.if_icmp .lt 6, 3) := by decide +kernel
theorem dX11_lineOf_38 : decode cX11_lineOf 38 = .ok (.bipush (-2), 2) := by decide +kernel
theorem dX11_lineOf_40 : decode cX11_lineOf 40 = .ok (.ireturn, 1) := by decide +kernel
theorem dX11_lineOf_41 : decode cX11_lineOf 41 = .ok (.iload_n 2, 1) := by decide +kernel
theorem dX11_lineOf_42 : decode cX11_lineOf 42 = .ok (.lookupswitch 40 #[(0, 26), (1, 33)], 26) := by decide +kernel
theorem dX11_lineOf_68 : decode cX11_lineOf 68 = .ok (.aload_n 0, 1) := by decide +kernel
theorem dX11_lineOf_69 : decode cX11_lineOf 69 = .ok (.getfield 112, 3) := by decide +kernel
theorem dX11_lineOf_72 : decode cX11_lineOf 72 = .ok (.iload_n 1, 1) := by decide +kernel
theorem dX11_lineOf_73 : decode cX11_lineOf 73 = .ok (.iaload, 1) := by decide +kernel
theorem dX11_lineOf_74 : decode cX11_lineOf 74 = .ok (.ireturn, 1) := by decide +kernel
theorem dX11_lineOf_75 : decode cX11_lineOf 75 = .ok (.aload_n 0, 1) := by decide +kernel
theorem dX11_lineOf_76 : decode cX11_lineOf 76 = .ok (.getfield 115, 3) := by decide +kernel
theorem dX11_lineOf_79 : decode cX11_lineOf 79 = .ok (.iload_n 1, 1) := by decide +kernel
theorem dX11_lineOf_80 : decode cX11_lineOf 80 = .ok (.iaload, 1) := by decide +kernel
theorem dX11_lineOf_81 : decode cX11_lineOf 81 = .ok (.ireturn, 1) := by decide +kernel
theorem dX11_lineOf_82 : decode cX11_lineOf 82 = .ok (.bipush (-2), 2) := by decide +kernel
theorem dX11_lineOf_84 : decode cX11_lineOf 84 = .ok (.ireturn, 1) := by decide +kernel
set_option maxRecDepth 20000 in
theorem ggX11_ofTimes_X1_told : GoodIn wsX11_ofTimes wsX1_told := goodIn_r _ [6, 7, 94, 95, 96, 97, 98, 99, 100, 101, 102, 103, 104, 105, 106, 107, 108, 109, 110, 111, 112, 113] (by decide +kernel) (by decide +kernel)
set_option maxRecDepth 20000 in
theorem gX11_ofTimes_X1_told : GoodIn wsX11_ofTimes (wsV RX11 145 RX1 yX1_told wsX1_told) := goodIn_app (goodIn_of _ (by decide +kernel)) ggX11_ofTimes_X1_told
set_option maxRecDepth 20000 in
theorem ggX11_ofTimes_X1_rowsWithin : GoodIn wsX11_ofTimes wsX1_rowsWithin := goodIn_r _ [11, 12, 13, 14, 94, 95, 96, 97, 98, 99, 100, 101, 102, 103, 104, 105, 106, 107, 108, 109, 110, 111, 112, 113, 114, 115, 116, 117, 118, 119, 120, 121, 122] (by decide +kernel) (by decide +kernel)
set_option maxRecDepth 20000 in
theorem gX11_ofTimes_X1_rowsWithin : GoodIn wsX11_ofTimes (wsV RX11 260 RX1 yX1_rowsWithin wsX1_rowsWithin) := goodIn_app (goodIn_of _ (by decide +kernel)) ggX11_ofTimes_X1_rowsWithin
set_option maxRecDepth 20000 in
theorem ggX11_ofTimes_X11_lowest : GoodIn wsX11_ofTimes wsX11_lowest := goodIn_r _ [18, 19, 20, 17, 21] (by decide +kernel) (by decide +kernel)
set_option maxRecDepth 20000 in
theorem gX11_ofTimes_X11_lowest : GoodIn wsX11_ofTimes (va_wsS RX11 272 yX11_lowest wsX11_lowest) := goodIn_app (goodIn_of _ (by decide +kernel)) ggX11_ofTimes_X11_lowest
set_option maxRecDepth 20000 in
theorem ggX11_ofTimes_X11_highest : GoodIn wsX11_ofTimes wsX11_highest := goodIn_r _ [24, 19, 20, 17, 21] (by decide +kernel) (by decide +kernel)
set_option maxRecDepth 20000 in
theorem gX11_ofTimes_X11_highest : GoodIn wsX11_ofTimes (va_wsS RX11 269 yX11_highest wsX11_highest) := goodIn_app (goodIn_of _ (by decide +kernel)) ggX11_ofTimes_X11_highest
set_option maxRecDepth 20000 in
theorem ggX11_ofTimes_X11_longestRow : GoodIn wsX11_ofTimes wsX11_longestRow := goodIn_r _ [27, 28, 29, 30, 31, 19, 20, 17, 21] (by decide +kernel) (by decide +kernel)
set_option maxRecDepth 20000 in
theorem gX11_ofTimes_X11_longestRow : GoodIn wsX11_ofTimes (va_wsS RX11 310 yX11_longestRow wsX11_longestRow) := goodIn_app (goodIn_of _ (by decide +kernel)) ggX11_ofTimes_X11_longestRow
set_option maxRecDepth 20000 in
theorem ggX11_ofTimes_X1_dearest : GoodIn wsX11_ofTimes wsX1_dearest := goodIn_r _ [35, 7, 20, 17, 21, 36, 37, 38, 5, 39, 40, 41, 42, 43, 44, 45, 46, 47, 48, 49, 50, 51, 12, 13, 14, 52, 53, 30, 54, 55, 56, 57, 58, 59, 60, 61, 62, 63, 64, 65, 66, 67, 68, 69, 70, 71, 72, 73, 74, 75, 76, 77, 78, 79, 80, 81, 82, 83, 84, 85, 86, 87, 88, 16, 18, 19, 94, 95, 96, 97, 98, 99, 100, 101, 102, 103, 104, 105, 106, 107, 108, 109, 110, 111, 112, 113, 123, 124, 125, 126, 127, 114, 115, 116, 117, 118, 119, 120, 121, 122] (by decide +kernel) (by decide +kernel)
set_option maxRecDepth 20000 in
theorem gX11_ofTimes_X1_dearest : GoodIn wsX11_ofTimes (wsV RX11 313 RX1 yX1_dearest wsX1_dearest) := goodIn_app (goodIn_of _ (by decide +kernel)) ggX11_ofTimes_X1_dearest
set_option maxRecDepth 20000 in
theorem ggX11_ofTimes_X1_fewestTurns : GoodIn wsX11_ofTimes wsX1_fewestTurns := goodIn_r _ [39, 40, 41, 42, 43, 44, 5, 45, 46, 47, 48, 49, 50, 51, 12, 13, 14, 52, 53, 30, 54, 55, 56, 57, 58, 59, 60, 61, 62, 63, 64, 65, 66, 67, 68, 69, 70, 71, 72, 73, 74, 75, 76, 77, 78, 79, 80, 81, 82, 83, 84, 85, 86, 87, 88, 16, 17, 18, 19, 20, 21, 94, 95, 96, 97, 98, 99, 100, 101, 102, 103, 104, 105, 106, 107, 108, 109, 110, 111, 112, 113, 123, 124, 125, 126, 127, 114, 115, 116, 117, 118, 119, 120, 121, 122] (by decide +kernel) (by decide +kernel)
set_option maxRecDepth 20000 in
theorem gX11_ofTimes_X1_fewestTurns : GoodIn wsX11_ofTimes (wsV RX11 152 RX1 yX1_fewestTurns wsX1_fewestTurns) := goodIn_app (goodIn_of _ (by decide +kernel)) ggX11_ofTimes_X1_fewestTurns
set_option maxRecDepth 20000 in
theorem ggX11_ofTimes_X1_toldFree : GoodIn wsX11_ofTimes wsX1_toldFree := goodIn_r _ [93, 7, 20, 17, 21, 36, 37, 38, 5, 39, 40, 41, 42, 43, 44, 45, 46, 47, 48, 49, 50, 51, 12, 13, 14, 52, 53, 30, 54, 55, 56, 57, 58, 59, 60, 61, 62, 63, 64, 65, 66, 67, 68, 69, 70, 71, 72, 73, 74, 75, 76, 77, 78, 79, 80, 81, 82, 83, 84, 85, 86, 87, 88, 16, 18, 19, 94, 95, 96, 97, 98, 99, 100, 101, 102, 103, 104, 105, 106, 107, 108, 109, 110, 111, 112, 113, 123, 124, 125, 126, 127, 114, 115, 116, 117, 118, 119, 120, 121, 122] (by decide +kernel) (by decide +kernel)
set_option maxRecDepth 20000 in
theorem gX11_ofTimes_X1_toldFree : GoodIn wsX11_ofTimes (wsV RX11 316 RX1 yX1_toldFree wsX1_toldFree) := goodIn_app (goodIn_of _ (by decide +kernel)) ggX11_ofTimes_X1_toldFree
theorem dX11_ofTimes_0 : decode cX11_ofTimes 0 = .ok (.aload_n 0, 1) := by decide +kernel
theorem dX11_ofTimes_1 : decode cX11_ofTimes 1 = .ok (.invokevirtual 145, 3) := by decide +kernel
theorem dX11_ofTimes_4 : decode cX11_ofTimes 4 = .ok (.istore_n 2, 1) := by decide +kernel
theorem dX11_ofTimes_5 : decode cX11_ofTimes 5 = .ok (.iload_n 1, 1) := by decide +kernel
theorem dX11_ofTimes_6 : decode cX11_ofTimes 6 = .ok (.tableswitch 111 0 7 #[46, 48, 56, 61, 66, 80, 85, 90], 46) := by decide +kernel
theorem dX11_ofTimes_52 : decode cX11_ofTimes 52 = .ok (.iload_n 2, 1) := by decide +kernel
theorem dX11_ofTimes_53 : decode cX11_ofTimes 53 = .ok (.ireturn, 1) := by decide +kernel
theorem dX11_ofTimes_54 : decode cX11_ofTimes 54 = .ok (.aload_n 0, 1) := by decide +kernel
theorem dX11_ofTimes_55 : decode cX11_ofTimes 55 = .ok (.ldc_w 309, 3) := by decide +kernel
theorem dX11_ofTimes_58 : decode cX11_ofTimes 58 = .ok (.invokevirtual 260, 3) := by decide +kernel
theorem dX11_ofTimes_61 : decode cX11_ofTimes 61 = .ok (.ireturn, 1) := by decide +kernel
theorem dX11_ofTimes_62 : decode cX11_ofTimes 62 = .ok (.iload_n 2, 1) := by decide +kernel
theorem dX11_ofTimes_63 : decode cX11_ofTimes 63 = .ok (.invokestatic 272, 3) := by decide +kernel
theorem dX11_ofTimes_66 : decode cX11_ofTimes 66 = .ok (.ireturn, 1) := by decide +kernel
theorem dX11_ofTimes_67 : decode cX11_ofTimes 67 = .ok (.iload_n 2, 1) := by decide +kernel
theorem dX11_ofTimes_68 : decode cX11_ofTimes 68 = .ok (.invokestatic 269, 3) := by decide +kernel
theorem dX11_ofTimes_71 : decode cX11_ofTimes 71 = .ok (.ireturn, 1) := by decide +kernel
theorem dX11_ofTimes_72 : decode cX11_ofTimes 72 = .ok (.ldc_w 309, 3) := by decide +kernel
theorem dX11_ofTimes_75 : decode cX11_ofTimes 75 = .ok (.iload_n 2, 1) := by decide +kernel
theorem dX11_ofTimes_76 : decode cX11_ofTimes 76 = .ok (.iconst (-1), 1) := by decide +kernel
theorem dX11_ofTimes_77 : decode cX11_ofTimes 77 = .ok (.ixor, 1) := by decide +kernel
theorem dX11_ofTimes_78 : decode cX11_ofTimes 78 = .ok (.iand, 1) := by decide +kernel
theorem dX11_ofTimes_79 : decode cX11_ofTimes 79 = .ok (.bipush (-2), 2) := by decide +kernel
theorem dX11_ofTimes_81 : decode cX11_ofTimes 81 = .ok (.iand, 1) := by decide +kernel
theorem dX11_ofTimes_82 : decode cX11_ofTimes 82 = .ok (.invokestatic 272, 3) := by decide +kernel
theorem dX11_ofTimes_85 : decode cX11_ofTimes 85 = .ok (.ireturn, 1) := by decide +kernel
theorem dX11_ofTimes_86 : decode cX11_ofTimes 86 = .ok (.iload_n 2, 1) := by decide +kernel
theorem dX11_ofTimes_87 : decode cX11_ofTimes 87 = .ok (.invokestatic 310, 3) := by decide +kernel
theorem dX11_ofTimes_90 : decode cX11_ofTimes 90 = .ok (.ireturn, 1) := by decide +kernel
theorem dX11_ofTimes_91 : decode cX11_ofTimes 91 = .ok (.aload_n 0, 1) := by decide +kernel
theorem dX11_ofTimes_92 : decode cX11_ofTimes 92 = .ok (.invokevirtual 313, 3) := by decide +kernel
theorem dX11_ofTimes_95 : decode cX11_ofTimes 95 = .ok (.ireturn, 1) := by decide +kernel
theorem dX11_ofTimes_96 : decode cX11_ofTimes 96 = .ok (.aload_n 0, 1) := by decide +kernel
theorem dX11_ofTimes_97 : decode cX11_ofTimes 97 = .ok (.invokevirtual 313, 3) := by decide +kernel
theorem dX11_ofTimes_100 : decode cX11_ofTimes 100 = .ok (.iconst (-1), 1) := by decide +kernel
theorem dX11_ofTimes_101 : decode cX11_ofTimes 101 = .ok (.if_icmp .ne 7, 3) := by decide +kernel
theorem dX11_ofTimes_104 : decode cX11_ofTimes 104 = .ok (.iconst 0, 1) := by decide +kernel
theorem dX11_ofTimes_105 : decode cX11_ofTimes 105 = .ok (.goto 11, 3) := by decide +kernel
theorem dX11_ofTimes_108 : decode cX11_ofTimes 108 = .ok (.aload_n 0, 1) := by decide +kernel
theorem dX11_ofTimes_109 : decode cX11_ofTimes 109 = .ok (.aload_n 0, 1) := by decide +kernel
theorem dX11_ofTimes_110 : decode cX11_ofTimes 110 = .ok (.invokevirtual 313, 3) := by decide +kernel
theorem dX11_ofTimes_113 : decode cX11_ofTimes 113 = .ok (.invokevirtual 152, 3) := by decide +kernel
theorem dX11_ofTimes_116 : decode cX11_ofTimes 116 = .ok (.ireturn, 1) := by decide +kernel
theorem dX11_ofTimes_117 : decode cX11_ofTimes 117 = .ok (.aload_n 0, 1) := by decide +kernel
theorem dX11_ofTimes_118 : decode cX11_ofTimes 118 = .ok (.invokevirtual 316, 3) := by decide +kernel
theorem dX11_ofTimes_121 : decode cX11_ofTimes 121 = .ok (.ireturn, 1) := by decide +kernel
set_option maxRecDepth 20000 in
theorem ggX11_ofShelf_X11_common : GoodIn wsX11_ofShelf wsX11_common := goodIn_r _ [11] (by decide +kernel) (by decide +kernel)
set_option maxRecDepth 20000 in
theorem gX11_ofShelf_X11_common : GoodIn wsX11_ofShelf (va_wsS RX11 203 yX11_common wsX11_common) := goodIn_app (goodIn_of _ (by decide +kernel)) ggX11_ofShelf_X11_common
set_option maxRecDepth 20000 in
theorem ggX11_ofShelf_X11_alikeCouples : GoodIn wsX11_ofShelf wsX11_alikeCouples := goodIn_r _ [14, 1, 3, 2, 15, 16, 17, 18] (by decide +kernel) (by decide +kernel)
set_option maxRecDepth 20000 in
theorem gX11_ofShelf_X11_alikeCouples : GoodIn wsX11_ofShelf (va_wsS RX11 319 yX11_alikeCouples wsX11_alikeCouples) := goodIn_app (goodIn_of _ (by decide +kernel)) ggX11_ofShelf_X11_alikeCouples
theorem dX11_ofShelf_0 : decode cX11_ofShelf 0 = .ok (.iconst 0, 1) := by decide +kernel
theorem dX11_ofShelf_1 : decode cX11_ofShelf 1 = .ok (.istore_n 2, 1) := by decide +kernel
theorem dX11_ofShelf_2 : decode cX11_ofShelf 2 = .ok (.iconst 0, 1) := by decide +kernel
theorem dX11_ofShelf_3 : decode cX11_ofShelf 3 = .ok (.istore_n 3, 1) := by decide +kernel
theorem dX11_ofShelf_4 : decode cX11_ofShelf 4 = .ok (.iconst 0, 1) := by decide +kernel
theorem dX11_ofShelf_5 : decode cX11_ofShelf 5 = .ok (.istore 4, 2) := by decide +kernel
theorem dX11_ofShelf_7 : decode cX11_ofShelf 7 = .ok (.iconst 0, 1) := by decide +kernel
theorem dX11_ofShelf_8 : decode cX11_ofShelf 8 = .ok (.istore 5, 2) := by decide +kernel
theorem dX11_ofShelf_10 : decode cX11_ofShelf 10 = .ok (.iconst 0, 1) := by decide +kernel
theorem dX11_ofShelf_11 : decode cX11_ofShelf 11 = .ok (.istore 6, 2) := by decide +kernel
theorem dX11_ofShelf_13 : decode cX11_ofShelf 13 = .ok (.iload 6, 2) := by decide +kernel
theorem dX11_ofShelf_15 : decode cX11_ofShelf 15 = .ok (.aload_n 0, 1) := by decide +kernel
theorem dX11_ofShelf_16 : decode cX11_ofShelf 16 = .ok (.getfield 103, 3) := by decide +kernel
theorem dX11_ofShelf_19 : decode cX11_ofShelf 19 = .ok (.if_icmp .ge 74, 3) := by decide +kernel
theorem dX11_ofShelf_22 : decode cX11_ofShelf 22 = .ok (.aload_n 0, 1) := by decide +kernel
theorem dX11_ofShelf_23 : decode cX11_ofShelf 23 = .ok (.getfield 115, 3) := by decide +kernel
theorem dX11_ofShelf_26 : decode cX11_ofShelf 26 = .ok (.iload 6, 2) := by decide +kernel
theorem dX11_ofShelf_28 : decode cX11_ofShelf 28 = .ok (.iaload, 1) := by decide +kernel
theorem dX11_ofShelf_29 : decode cX11_ofShelf 29 = .ok (.istore 7, 2) := by decide +kernel
theorem dX11_ofShelf_31 : decode cX11_ofShelf 31 = .ok (.iload_n 2, 1) := by decide +kernel
theorem dX11_ofShelf_32 : decode cX11_ofShelf 32 = .ok (.i2l, 1) := by decide +kernel
theorem dX11_ofShelf_33 : decode cX11_ofShelf 33 = .ok (.aload_n 0, 1) := by decide +kernel
theorem dX11_ofShelf_34 : decode cX11_ofShelf 34 = .ok (.getfield 112, 3) := by decide +kernel
theorem dX11_ofShelf_37 : decode cX11_ofShelf 37 = .ok (.iload 6, 2) := by decide +kernel
theorem dX11_ofShelf_39 : decode cX11_ofShelf 39 = .ok (.iaload, 1) := by decide +kernel
theorem dX11_ofShelf_40 : decode cX11_ofShelf 40 = .ok (.i2l, 1) := by decide +kernel
theorem dX11_ofShelf_41 : decode cX11_ofShelf 41 = .ok (.invokestatic 203, 3) := by decide +kernel
theorem dX11_ofShelf_44 : decode cX11_ofShelf 44 = .ok (.l2i, 1) := by decide +kernel
theorem dX11_ofShelf_45 : decode cX11_ofShelf 45 = .ok (.istore_n 2, 1) := by decide +kernel
theorem dX11_ofShelf_46 : decode cX11_ofShelf 46 = .ok (.iload_n 3, 1) := by decide +kernel
theorem dX11_ofShelf_47 : decode cX11_ofShelf 47 = .ok (.iload 7, 2) := by decide +kernel
theorem dX11_ofShelf_49 : decode cX11_ofShelf 49 = .ok (.iadd, 1) := by decide +kernel
theorem dX11_ofShelf_50 : decode cX11_ofShelf 50 = .ok (.istore_n 3, 1) := by decide +kernel
theorem dX11_ofShelf_51 : decode cX11_ofShelf 51 = .ok (.iload 4, 2) := by decide +kernel
theorem dX11_ofShelf_53 : decode cX11_ofShelf 53 = .ok (.iload 7, 2) := by decide +kernel
theorem dX11_ofShelf_55 : decode cX11_ofShelf 55 = .ok (.iconst 2, 1) := by decide +kernel
theorem dX11_ofShelf_56 : decode cX11_ofShelf 56 = .ok (.imul, 1) := by decide +kernel
theorem dX11_ofShelf_57 : decode cX11_ofShelf 57 = .ok (.aload_n 0, 1) := by decide +kernel
theorem dX11_ofShelf_58 : decode cX11_ofShelf 58 = .ok (.getfield 112, 3) := by decide +kernel
theorem dX11_ofShelf_61 : decode cX11_ofShelf 61 = .ok (.iload 6, 2) := by decide +kernel
theorem dX11_ofShelf_63 : decode cX11_ofShelf 63 = .ok (.iaload, 1) := by decide +kernel
theorem dX11_ofShelf_64 : decode cX11_ofShelf 64 = .ok (.if_icmp .ne 10, 3) := by decide +kernel
theorem dX11_ofShelf_67 : decode cX11_ofShelf 67 = .ok (.iconst 1, 1) := by decide +kernel
theorem dX11_ofShelf_68 : decode cX11_ofShelf 68 = .ok (.iload 6, 2) := by decide +kernel
theorem dX11_ofShelf_70 : decode cX11_ofShelf 70 = .ok (.ishl, 1) := by decide +kernel
theorem dX11_ofShelf_71 : decode cX11_ofShelf 71 = .ok (.goto 4, 3) := by decide +kernel
theorem dX11_ofShelf_74 : decode cX11_ofShelf 74 = .ok (.iconst 0, 1) := by decide +kernel
theorem dX11_ofShelf_75 : decode cX11_ofShelf 75 = .ok (.ior, 1) := by decide +kernel
theorem dX11_ofShelf_76 : decode cX11_ofShelf 76 = .ok (.istore 4, 2) := by decide +kernel
theorem dX11_ofShelf_78 : decode cX11_ofShelf 78 = .ok (.iload 5, 2) := by decide +kernel
theorem dX11_ofShelf_80 : decode cX11_ofShelf 80 = .ok (.iload 7, 2) := by decide +kernel
theorem dX11_ofShelf_82 : decode cX11_ofShelf 82 = .ok (.invokestatic 218, 3) := by decide +kernel
theorem dX11_ofShelf_85 : decode cX11_ofShelf 85 = .ok (.istore 5, 2) := by decide +kernel
theorem dX11_ofShelf_87 : decode cX11_ofShelf 87 = .ok (.iinc 6 1, 3) := by decide +kernel
theorem dX11_ofShelf_90 : decode cX11_ofShelf 90 = .ok (.goto (-77), 3) := by decide +kernel
theorem dX11_ofShelf_93 : decode cX11_ofShelf 93 = .ok (.iload_n 1, 1) := by decide +kernel
theorem dX11_ofShelf_94 : decode cX11_ofShelf 94 = .ok (.tableswitch 40 9 12 #[30, 32, 34, 37], 30) := by decide +kernel
theorem dX11_ofShelf_124 : decode cX11_ofShelf 124 = .ok (.iload_n 2, 1) := by decide +kernel
theorem dX11_ofShelf_125 : decode cX11_ofShelf 125 = .ok (.ireturn, 1) := by decide +kernel
theorem dX11_ofShelf_126 : decode cX11_ofShelf 126 = .ok (.iload_n 3, 1) := by decide +kernel
theorem dX11_ofShelf_127 : decode cX11_ofShelf 127 = .ok (.ireturn, 1) := by decide +kernel
theorem dX11_ofShelf_128 : decode cX11_ofShelf 128 = .ok (.iload 4, 2) := by decide +kernel
theorem dX11_ofShelf_130 : decode cX11_ofShelf 130 = .ok (.ireturn, 1) := by decide +kernel
theorem dX11_ofShelf_131 : decode cX11_ofShelf 131 = .ok (.iload 5, 2) := by decide +kernel
theorem dX11_ofShelf_133 : decode cX11_ofShelf 133 = .ok (.ireturn, 1) := by decide +kernel
theorem dX11_ofShelf_134 : decode cX11_ofShelf 134 = .ok (.aload_n 0, 1) := by decide +kernel
theorem dX11_ofShelf_135 : decode cX11_ofShelf 135 = .ok (.invokestatic 319, 3) := by decide +kernel
theorem dX11_ofShelf_138 : decode cX11_ofShelf 138 = .ok (.ireturn, 1) := by decide +kernel
theorem dX11_alikeCouples_0 : decode cX11_alikeCouples 0 = .ok (.iconst 0, 1) := by decide +kernel
theorem dX11_alikeCouples_1 : decode cX11_alikeCouples 1 = .ok (.istore_n 1, 1) := by decide +kernel
theorem dX11_alikeCouples_2 : decode cX11_alikeCouples 2 = .ok (.iconst 0, 1) := by decide +kernel
theorem dX11_alikeCouples_3 : decode cX11_alikeCouples 3 = .ok (.istore_n 2, 1) := by decide +kernel
theorem dX11_alikeCouples_4 : decode cX11_alikeCouples 4 = .ok (.iload_n 2, 1) := by decide +kernel
theorem dX11_alikeCouples_5 : decode cX11_alikeCouples 5 = .ok (.aload_n 0, 1) := by decide +kernel
theorem dX11_alikeCouples_6 : decode cX11_alikeCouples 6 = .ok (.getfield 103, 3) := by decide +kernel
theorem dX11_alikeCouples_9 : decode cX11_alikeCouples 9 = .ok (.if_icmp .ge 60, 3) := by decide +kernel
theorem dX11_alikeCouples_12 : decode cX11_alikeCouples 12 = .ok (.iload_n 2, 1) := by decide +kernel
theorem dX11_alikeCouples_13 : decode cX11_alikeCouples 13 = .ok (.iconst 1, 1) := by decide +kernel
theorem dX11_alikeCouples_14 : decode cX11_alikeCouples 14 = .ok (.iadd, 1) := by decide +kernel
theorem dX11_alikeCouples_15 : decode cX11_alikeCouples 15 = .ok (.istore_n 3, 1) := by decide +kernel
theorem dX11_alikeCouples_16 : decode cX11_alikeCouples 16 = .ok (.iload_n 3, 1) := by decide +kernel
theorem dX11_alikeCouples_17 : decode cX11_alikeCouples 17 = .ok (.aload_n 0, 1) := by decide +kernel
theorem dX11_alikeCouples_18 : decode cX11_alikeCouples 18 = .ok (.getfield 103, 3) := by decide +kernel
theorem dX11_alikeCouples_21 : decode cX11_alikeCouples 21 = .ok (.if_icmp .ge 42, 3) := by decide +kernel
theorem dX11_alikeCouples_24 : decode cX11_alikeCouples 24 = .ok (.aload_n 0, 1) := by decide +kernel
theorem dX11_alikeCouples_25 : decode cX11_alikeCouples 25 = .ok (.getfield 112, 3) := by decide +kernel
theorem dX11_alikeCouples_28 : decode cX11_alikeCouples 28 = .ok (.iload_n 2, 1) := by decide +kernel
theorem dX11_alikeCouples_29 : decode cX11_alikeCouples 29 = .ok (.iaload, 1) := by decide +kernel
theorem dX11_alikeCouples_30 : decode cX11_alikeCouples 30 = .ok (.aload_n 0, 1) := by decide +kernel
theorem dX11_alikeCouples_31 : decode cX11_alikeCouples 31 = .ok (.getfield 112, 3) := by decide +kernel
theorem dX11_alikeCouples_34 : decode cX11_alikeCouples 34 = .ok (.iload_n 3, 1) := by decide +kernel
theorem dX11_alikeCouples_35 : decode cX11_alikeCouples 35 = .ok (.iaload, 1) := by decide +kernel
theorem dX11_alikeCouples_36 : decode cX11_alikeCouples 36 = .ok (.if_icmp .ne 21, 3) := by decide +kernel
theorem dX11_alikeCouples_39 : decode cX11_alikeCouples 39 = .ok (.aload_n 0, 1) := by decide +kernel
theorem dX11_alikeCouples_40 : decode cX11_alikeCouples 40 = .ok (.getfield 115, 3) := by decide +kernel
theorem dX11_alikeCouples_43 : decode cX11_alikeCouples 43 = .ok (.iload_n 2, 1) := by decide +kernel
theorem dX11_alikeCouples_44 : decode cX11_alikeCouples 44 = .ok (.iaload, 1) := by decide +kernel
theorem dX11_alikeCouples_45 : decode cX11_alikeCouples 45 = .ok (.aload_n 0, 1) := by decide +kernel
theorem dX11_alikeCouples_46 : decode cX11_alikeCouples 46 = .ok (.getfield 115, 3) := by decide +kernel
theorem dX11_alikeCouples_49 : decode cX11_alikeCouples 49 = .ok (.iload_n 3, 1) := by decide +kernel
theorem dX11_alikeCouples_50 : decode cX11_alikeCouples 50 = .ok (.iaload, 1) := by decide +kernel
theorem dX11_alikeCouples_51 : decode cX11_alikeCouples 51 = .ok (.if_icmp .ne 6, 3) := by decide +kernel
theorem dX11_alikeCouples_54 : decode cX11_alikeCouples 54 = .ok (.iinc 1 1, 3) := by decide +kernel
theorem dX11_alikeCouples_57 : decode cX11_alikeCouples 57 = .ok (.iinc 3 1, 3) := by decide +kernel
theorem dX11_alikeCouples_60 : decode cX11_alikeCouples 60 = .ok (.goto (-44), 3) := by decide +kernel
theorem dX11_alikeCouples_63 : decode cX11_alikeCouples 63 = .ok (.iinc 2 1, 3) := by decide +kernel
theorem dX11_alikeCouples_66 : decode cX11_alikeCouples 66 = .ok (.goto (-62), 3) := by decide +kernel
theorem dX11_alikeCouples_69 : decode cX11_alikeCouples 69 = .ok (.iload_n 1, 1) := by decide +kernel
theorem dX11_alikeCouples_70 : decode cX11_alikeCouples 70 = .ok (.ireturn, 1) := by decide +kernel
theorem dX11_isT_0 : decode cX11_isT 0 = .ok (.iload_n 0, 1) := by decide +kernel
theorem dX11_isT_1 : decode cX11_isT 1 = .ok (.iconst 1, 1) := by decide +kernel
theorem dX11_isT_2 : decode cX11_isT 2 = .ok (.if_icmp .lt 13, 3) := by decide +kernel
theorem dX11_isT_5 : decode cX11_isT 5 = .ok (.iload_n 0, 1) := by decide +kernel
theorem dX11_isT_6 : decode cX11_isT 6 = .ok (.bipush 30, 2) := by decide +kernel
theorem dX11_isT_8 : decode cX11_isT 8 = .ok (.if_icmp .gt 7, 3) := by decide +kernel
theorem dX11_isT_11 : decode cX11_isT 11 = .ok (.iconst 1, 1) := by decide +kernel
theorem dX11_isT_12 : decode cX11_isT 12 = .ok (.goto 4, 3) := by decide +kernel
theorem dX11_isT_15 : decode cX11_isT 15 = .ok (.iconst 0, 1) := by decide +kernel
theorem dX11_isT_16 : decode cX11_isT 16 = .ok (.ireturn, 1) := by decide +kernel
theorem dX11_isGlass_0 : decode cX11_isGlass 0 = .ok (.iload_n 1, 1) := by decide +kernel
theorem dX11_isGlass_1 : decode cX11_isGlass 1 = .ok (.iload_n 2, 1) := by decide +kernel
theorem dX11_isGlass_2 : decode cX11_isGlass 2 = .ok (.if_icmp .lt 17, 3) := by decide +kernel
theorem dX11_isGlass_5 : decode cX11_isGlass 5 = .ok (.iload_n 1, 1) := by decide +kernel
theorem dX11_isGlass_6 : decode cX11_isGlass 6 = .ok (.iload_n 2, 1) := by decide +kernel
theorem dX11_isGlass_7 : decode cX11_isGlass 7 = .ok (.aload_n 0, 1) := by decide +kernel
theorem dX11_isGlass_8 : decode cX11_isGlass 8 = .ok (.getfield 103, 3) := by decide +kernel
theorem dX11_isGlass_11 : decode cX11_isGlass 11 = .ok (.iadd, 1) := by decide +kernel
theorem dX11_isGlass_12 : decode cX11_isGlass 12 = .ok (.if_icmp .ge 7, 3) := by decide +kernel
theorem dX11_isGlass_15 : decode cX11_isGlass 15 = .ok (.iconst 1, 1) := by decide +kernel
theorem dX11_isGlass_16 : decode cX11_isGlass 16 = .ok (.goto 4, 3) := by decide +kernel
theorem dX11_isGlass_19 : decode cX11_isGlass 19 = .ok (.iconst 0, 1) := by decide +kernel
theorem dX11_isGlass_20 : decode cX11_isGlass 20 = .ok (.ireturn, 1) := by decide +kernel
theorem dX11_has_0 : decode cX11_has 0 = .ok (.iload_n 0, 1) := by decide +kernel
theorem dX11_has_1 : decode cX11_has 1 = .ok (.iload_n 1, 1) := by decide +kernel
theorem dX11_has_2 : decode cX11_has 2 = .ok (.ishr, 1) := by decide +kernel
theorem dX11_has_3 : decode cX11_has 3 = .ok (.iconst 1, 1) := by decide +kernel
theorem dX11_has_4 : decode cX11_has 4 = .ok (.iand, 1) := by decide +kernel
theorem dX11_has_5 : decode cX11_has 5 = .ok (.iconst 1, 1) := by decide +kernel
theorem dX11_has_6 : decode cX11_has 6 = .ok (.if_icmp .ne 7, 3) := by decide +kernel
theorem dX11_has_9 : decode cX11_has 9 = .ok (.iconst 1, 1) := by decide +kernel
theorem dX11_has_10 : decode cX11_has 10 = .ok (.goto 4, 3) := by decide +kernel
theorem dX11_has_13 : decode cX11_has 13 = .ok (.iconst 0, 1) := by decide +kernel
theorem dX11_has_14 : decode cX11_has 14 = .ok (.ireturn, 1) := by decide +kernel
set_option maxRecDepth 20000 in
theorem ggX11_lowest_X11_has : GoodIn wsX11_lowest wsX11_has := goodIn_r _ [4] (by decide +kernel) (by decide +kernel)
set_option maxRecDepth 20000 in
theorem gX11_lowest_X11_has : GoodIn wsX11_lowest (va_wsS RX11 148 yX11_has wsX11_has) := goodIn_app (goodIn_of _ (by decide +kernel)) ggX11_lowest_X11_has
theorem dX11_lowest_0 : decode cX11_lowest 0 = .ok (.iconst 0, 1) := by decide +kernel
theorem dX11_lowest_1 : decode cX11_lowest 1 = .ok (.istore_n 1, 1) := by decide +kernel
theorem dX11_lowest_2 : decode cX11_lowest 2 = .ok (.iload_n 1, 1) := by decide +kernel
theorem dX11_lowest_3 : decode cX11_lowest 3 = .ok (.bipush 30, 2) := by decide +kernel
theorem dX11_lowest_5 : decode cX11_lowest 5 = .ok (.if_icmp .gt 19, 3) := by decide +kernel
theorem dX11_lowest_8 : decode cX11_lowest 8 = .ok (.iload_n 0, 1) := by decide +kernel
theorem dX11_lowest_9 : decode cX11_lowest 9 = .ok (.iload_n 1, 1) := by decide +kernel
theorem dX11_lowest_10 : decode cX11_lowest 10 = .ok (.invokestatic 148, 3) := by decide +kernel
theorem dX11_lowest_13 : decode cX11_lowest 13 = .ok (.ifCond .eq 5, 3) := by decide +kernel
theorem dX11_lowest_16 : decode cX11_lowest 16 = .ok (.iload_n 1, 1) := by decide +kernel
theorem dX11_lowest_17 : decode cX11_lowest 17 = .ok (.ireturn, 1) := by decide +kernel
theorem dX11_lowest_18 : decode cX11_lowest 18 = .ok (.iinc 1 1, 3) := by decide +kernel
theorem dX11_lowest_21 : decode cX11_lowest 21 = .ok (.goto (-19), 3) := by decide +kernel
theorem dX11_lowest_24 : decode cX11_lowest 24 = .ok (.iconst (-1), 1) := by decide +kernel
theorem dX11_lowest_25 : decode cX11_lowest 25 = .ok (.ireturn, 1) := by decide +kernel
set_option maxRecDepth 20000 in
theorem ggX11_highest_X11_has : GoodIn wsX11_highest wsX11_has := goodIn_r _ [4] (by decide +kernel) (by decide +kernel)
set_option maxRecDepth 20000 in
theorem gX11_highest_X11_has : GoodIn wsX11_highest (va_wsS RX11 148 yX11_has wsX11_has) := goodIn_app (goodIn_of _ (by decide +kernel)) ggX11_highest_X11_has
theorem dX11_highest_0 : decode cX11_highest 0 = .ok (.bipush 30, 2) := by decide +kernel
theorem dX11_highest_2 : decode cX11_highest 2 = .ok (.istore_n 1, 1) := by decide +kernel
theorem dX11_highest_3 : decode cX11_highest 3 = .ok (.iload_n 1, 1) := by decide +kernel
theorem dX11_highest_4 : decode cX11_highest 4 = .ok (.ifCond .lt 19, 3) := by decide +kernel
theorem dX11_highest_7 : decode cX11_highest 7 = .ok (.iload_n 0, 1) := by decide +kernel
theorem dX11_highest_8 : decode cX11_highest 8 = .ok (.iload_n 1, 1) := by decide +kernel
theorem dX11_highest_9 : decode cX11_highest 9 = .ok (.invokestatic 148, 3) := by decide +kernel
theorem dX11_highest_12 : decode cX11_highest 12 = .ok (.ifCond .eq 5, 3) := by decide +kernel
theorem dX11_highest_15 : decode cX11_highest 15 = .ok (.iload_n 1, 1) := by decide +kernel
theorem dX11_highest_16 : decode cX11_highest 16 = .ok (.ireturn, 1) := by decide +kernel
theorem dX11_highest_17 : decode cX11_highest 17 = .ok (.iinc 1 (-1), 3) := by decide +kernel
theorem dX11_highest_20 : decode cX11_highest 20 = .ok (.goto (-17), 3) := by decide +kernel
theorem dX11_highest_23 : decode cX11_highest 23 = .ok (.iconst (-1), 1) := by decide +kernel
theorem dX11_highest_24 : decode cX11_highest 24 = .ok (.ireturn, 1) := by decide +kernel
set_option maxRecDepth 20000 in
theorem ggX11_longestRow_X11_has : GoodIn wsX11_longestRow wsX11_has := goodIn_r _ [8] (by decide +kernel) (by decide +kernel)
set_option maxRecDepth 20000 in
theorem gX11_longestRow_X11_has : GoodIn wsX11_longestRow (va_wsS RX11 148 yX11_has wsX11_has) := goodIn_app (goodIn_of _ (by decide +kernel)) ggX11_longestRow_X11_has
theorem dX11_longestRow_0 : decode cX11_longestRow 0 = .ok (.iconst 0, 1) := by decide +kernel
theorem dX11_longestRow_1 : decode cX11_longestRow 1 = .ok (.istore_n 1, 1) := by decide +kernel
theorem dX11_longestRow_2 : decode cX11_longestRow 2 = .ok (.iconst 0, 1) := by decide +kernel
theorem dX11_longestRow_3 : decode cX11_longestRow 3 = .ok (.istore_n 2, 1) := by decide +kernel
theorem dX11_longestRow_4 : decode cX11_longestRow 4 = .ok (.iconst 0, 1) := by decide +kernel
theorem dX11_longestRow_5 : decode cX11_longestRow 5 = .ok (.istore_n 3, 1) := by decide +kernel
theorem dX11_longestRow_6 : decode cX11_longestRow 6 = .ok (.iload_n 3, 1) := by decide +kernel
theorem dX11_longestRow_7 : decode cX11_longestRow 7 = .ok (.bipush 30, 2) := by decide +kernel
theorem dX11_longestRow_9 : decode cX11_longestRow 9 = .ok (.if_icmp .gt 31, 3) := by decide +kernel
theorem dX11_longestRow_12 : decode cX11_longestRow 12 = .ok (.iload_n 0, 1) := by decide +kernel
theorem dX11_longestRow_13 : decode cX11_longestRow 13 = .ok (.iload_n 3, 1) := by decide +kernel
theorem dX11_longestRow_14 : decode cX11_longestRow 14 = .ok (.invokestatic 148, 3) := by decide +kernel
theorem dX11_longestRow_17 : decode cX11_longestRow 17 = .ok (.ifCond .eq 9, 3) := by decide +kernel
theorem dX11_longestRow_20 : decode cX11_longestRow 20 = .ok (.iload_n 2, 1) := by decide +kernel
theorem dX11_longestRow_21 : decode cX11_longestRow 21 = .ok (.iconst 1, 1) := by decide +kernel
theorem dX11_longestRow_22 : decode cX11_longestRow 22 = .ok (.iadd, 1) := by decide +kernel
theorem dX11_longestRow_23 : decode cX11_longestRow 23 = .ok (.goto 4, 3) := by decide +kernel
theorem dX11_longestRow_26 : decode cX11_longestRow 26 = .ok (.iconst 0, 1) := by decide +kernel
theorem dX11_longestRow_27 : decode cX11_longestRow 27 = .ok (.istore_n 2, 1) := by decide +kernel
theorem dX11_longestRow_28 : decode cX11_longestRow 28 = .ok (.iload_n 1, 1) := by decide +kernel
theorem dX11_longestRow_29 : decode cX11_longestRow 29 = .ok (.iload_n 2, 1) := by decide +kernel
theorem dX11_longestRow_30 : decode cX11_longestRow 30 = .ok (.invokestatic 218, 3) := by decide +kernel
theorem dX11_longestRow_33 : decode cX11_longestRow 33 = .ok (.istore_n 1, 1) := by decide +kernel
theorem dX11_longestRow_34 : decode cX11_longestRow 34 = .ok (.iinc 3 1, 3) := by decide +kernel
theorem dX11_longestRow_37 : decode cX11_longestRow 37 = .ok (.goto (-31), 3) := by decide +kernel
theorem dX11_longestRow_40 : decode cX11_longestRow 40 = .ok (.iload_n 1, 1) := by decide +kernel
theorem dX11_longestRow_41 : decode cX11_longestRow 41 = .ok (.ireturn, 1) := by decide +kernel
theorem dX11_common_0 : decode cX11_common 0 = .ok (.lload_n 0, 1) := by decide +kernel
theorem dX11_common_1 : decode cX11_common 1 = .ok (.lstore 4, 2) := by decide +kernel
theorem dX11_common_3 : decode cX11_common 3 = .ok (.lload_n 2, 1) := by decide +kernel
theorem dX11_common_4 : decode cX11_common 4 = .ok (.lstore 6, 2) := by decide +kernel
theorem dX11_common_6 : decode cX11_common 6 = .ok (.iconst 0, 1) := by decide +kernel
theorem dX11_common_7 : decode cX11_common 7 = .ok (.istore 8, 2) := by decide +kernel
theorem dX11_common_9 : decode cX11_common 9 = .ok (.iload 8, 2) := by decide +kernel
theorem dX11_common_11 : decode cX11_common 11 = .ok (.sipush 200, 3) := by decide +kernel
theorem dX11_common_14 : decode cX11_common 14 = .ok (.if_icmp .ge 31, 3) := by decide +kernel
theorem dX11_common_17 : decode cX11_common 17 = .ok (.lload 6, 2) := by decide +kernel
theorem dX11_common_19 : decode cX11_common 19 = .ok (.lconst 0, 1) := by decide +kernel
theorem dX11_common_20 : decode cX11_common 20 = .ok (.lcmp, 1) := by decide +kernel
theorem dX11_common_21 : decode cX11_common 21 = .ok (.ifCond .eq 24, 3) := by decide +kernel
theorem dX11_common_24 : decode cX11_common 24 = .ok (.lload 4, 2) := by decide +kernel
theorem dX11_common_26 : decode cX11_common 26 = .ok (.lload 6, 2) := by decide +kernel
theorem dX11_common_28 : decode cX11_common 28 = .ok (.lrem, 1) := by decide +kernel
theorem dX11_common_29 : decode cX11_common 29 = .ok (.lstore 9, 2) := by decide +kernel
theorem dX11_common_31 : decode cX11_common 31 = .ok (.lload 6, 2) := by decide +kernel
theorem dX11_common_33 : decode cX11_common 33 = .ok (.lstore 4, 2) := by decide +kernel
theorem dX11_common_35 : decode cX11_common 35 = .ok (.lload 9, 2) := by decide +kernel
theorem dX11_common_37 : decode cX11_common 37 = .ok (.lstore 6, 2) := by decide +kernel
theorem dX11_common_39 : decode cX11_common 39 = .ok (.iinc 8 1, 3) := by decide +kernel
theorem dX11_common_42 : decode cX11_common 42 = .ok (.goto (-33), 3) := by decide +kernel
theorem dX11_common_45 : decode cX11_common 45 = .ok (.lload 4, 2) := by decide +kernel
theorem dX11_common_47 : decode cX11_common 47 = .ok (.lreturn, 1) := by decide +kernel
theorem dX11_turned_0 : decode cX11_turned 0 = .ok (.getstatic 322, 3) := by decide +kernel
theorem dX11_turned_3 : decode cX11_turned 3 = .ok (.iload_n 2, 1) := by decide +kernel
theorem dX11_turned_4 : decode cX11_turned 4 = .ok (.bipush 15, 2) := by decide +kernel
theorem dX11_turned_6 : decode cX11_turned 6 = .ok (.iand, 1) := by decide +kernel
theorem dX11_turned_7 : decode cX11_turned 7 = .ok (.iaload, 1) := by decide +kernel
theorem dX11_turned_8 : decode cX11_turned 8 = .ok (.istore_n 3, 1) := by decide +kernel
theorem dX11_turned_9 : decode cX11_turned 9 = .ok (.iload_n 1, 1) := by decide +kernel
theorem dX11_turned_10 : decode cX11_turned 10 = .ok (.iload_n 3, 1) := by decide +kernel
theorem dX11_turned_11 : decode cX11_turned 11 = .ok (.iconst (-1), 1) := by decide +kernel
theorem dX11_turned_12 : decode cX11_turned 12 = .ok (.ixor, 1) := by decide +kernel
theorem dX11_turned_13 : decode cX11_turned 13 = .ok (.iand, 1) := by decide +kernel
theorem dX11_turned_14 : decode cX11_turned 14 = .ok (.iload_n 0, 1) := by decide +kernel
theorem dX11_turned_15 : decode cX11_turned 15 = .ok (.iload_n 1, 1) := by decide +kernel
theorem dX11_turned_16 : decode cX11_turned 16 = .ok (.isub, 1) := by decide +kernel
theorem dX11_turned_17 : decode cX11_turned 17 = .ok (.iload_n 3, 1) := by decide +kernel
theorem dX11_turned_18 : decode cX11_turned 18 = .ok (.iand, 1) := by decide +kernel
theorem dX11_turned_19 : decode cX11_turned 19 = .ok (.ior, 1) := by decide +kernel
theorem dX11_turned_20 : decode cX11_turned 20 = .ok (.ireturn, 1) := by decide +kernel
theorem dX11_codeOf_0 : decode cX11_codeOf 0 = .ok (.iconst 0, 1) := by decide +kernel
theorem dX11_codeOf_1 : decode cX11_codeOf 1 = .ok (.istore_n 2, 1) := by decide +kernel
theorem dX11_codeOf_2 : decode cX11_codeOf 2 = .ok (.iconst 0, 1) := by decide +kernel
theorem dX11_codeOf_3 : decode cX11_codeOf 3 = .ok (.istore_n 3, 1) := by decide +kernel
theorem dX11_codeOf_4 : decode cX11_codeOf 4 = .ok (.iload_n 3, 1) := by decide +kernel
theorem dX11_codeOf_5 : decode cX11_codeOf 5 = .ok (.iload_n 1, 1) := by decide +kernel
theorem dX11_codeOf_6 : decode cX11_codeOf 6 = .ok (.if_icmp .ge 25, 3) := by decide +kernel
theorem dX11_codeOf_9 : decode cX11_codeOf 9 = .ok (.iload_n 3, 1) := by decide +kernel
theorem dX11_codeOf_10 : decode cX11_codeOf 10 = .ok (.aload_n 0, 1) := by decide +kernel
theorem dX11_codeOf_11 : decode cX11_codeOf 11 = .ok (.arraylength, 1) := by decide +kernel
theorem dX11_codeOf_12 : decode cX11_codeOf 12 = .ok (.if_icmp .ge 19, 3) := by decide +kernel
theorem dX11_codeOf_15 : decode cX11_codeOf 15 = .ok (.iload_n 2, 1) := by decide +kernel
theorem dX11_codeOf_16 : decode cX11_codeOf 16 = .ok (.aload_n 0, 1) := by decide +kernel
theorem dX11_codeOf_17 : decode cX11_codeOf 17 = .ok (.iload_n 3, 1) := by decide +kernel
theorem dX11_codeOf_18 : decode cX11_codeOf 18 = .ok (.iaload, 1) := by decide +kernel
theorem dX11_codeOf_19 : decode cX11_codeOf 19 = .ok (.iconst 3, 1) := by decide +kernel
theorem dX11_codeOf_20 : decode cX11_codeOf 20 = .ok (.iload_n 3, 1) := by decide +kernel
theorem dX11_codeOf_21 : decode cX11_codeOf 21 = .ok (.imul, 1) := by decide +kernel
theorem dX11_codeOf_22 : decode cX11_codeOf 22 = .ok (.ishl, 1) := by decide +kernel
theorem dX11_codeOf_23 : decode cX11_codeOf 23 = .ok (.ior, 1) := by decide +kernel
theorem dX11_codeOf_24 : decode cX11_codeOf 24 = .ok (.istore_n 2, 1) := by decide +kernel
theorem dX11_codeOf_25 : decode cX11_codeOf 25 = .ok (.iinc 3 1, 3) := by decide +kernel
theorem dX11_codeOf_28 : decode cX11_codeOf 28 = .ok (.goto (-24), 3) := by decide +kernel
theorem dX11_codeOf_31 : decode cX11_codeOf 31 = .ok (.iload_n 2, 1) := by decide +kernel
theorem dX11_codeOf_32 : decode cX11_codeOf 32 = .ok (.ireturn, 1) := by decide +kernel
theorem dJ6_bitCount_0f7a4_0 : decode cJ6_bitCount_0f7a4 0 = .ok (.iload_n 0, 1) := by decide +kernel
theorem dJ6_bitCount_0f7a4_1 : decode cJ6_bitCount_0f7a4 1 = .ok (.iload_n 0, 1) := by decide +kernel
theorem dJ6_bitCount_0f7a4_2 : decode cJ6_bitCount_0f7a4 2 = .ok (.iconst 1, 1) := by decide +kernel
theorem dJ6_bitCount_0f7a4_3 : decode cJ6_bitCount_0f7a4 3 = .ok (.iushr, 1) := by decide +kernel
theorem dJ6_bitCount_0f7a4_4 : decode cJ6_bitCount_0f7a4 4 = .ok (.ldc_w 265, 3) := by decide +kernel
theorem dJ6_bitCount_0f7a4_7 : decode cJ6_bitCount_0f7a4 7 = .ok (.iand, 1) := by decide +kernel
theorem dJ6_bitCount_0f7a4_8 : decode cJ6_bitCount_0f7a4 8 = .ok (.isub, 1) := by decide +kernel
theorem dJ6_bitCount_0f7a4_9 : decode cJ6_bitCount_0f7a4 9 = .ok (.istore_n 0, 1) := by decide +kernel
theorem dJ6_bitCount_0f7a4_10 : decode cJ6_bitCount_0f7a4 10 = .ok (.iload_n 0, 1) := by decide +kernel
theorem dJ6_bitCount_0f7a4_11 : decode cJ6_bitCount_0f7a4 11 = .ok (.ldc_w 266, 3) := by decide +kernel
theorem dJ6_bitCount_0f7a4_14 : decode cJ6_bitCount_0f7a4 14 = .ok (.iand, 1) := by decide +kernel
theorem dJ6_bitCount_0f7a4_15 : decode cJ6_bitCount_0f7a4 15 = .ok (.iload_n 0, 1) := by decide +kernel
theorem dJ6_bitCount_0f7a4_16 : decode cJ6_bitCount_0f7a4 16 = .ok (.iconst 2, 1) := by decide +kernel
theorem dJ6_bitCount_0f7a4_17 : decode cJ6_bitCount_0f7a4 17 = .ok (.iushr, 1) := by decide +kernel
theorem dJ6_bitCount_0f7a4_18 : decode cJ6_bitCount_0f7a4 18 = .ok (.ldc_w 266, 3) := by decide +kernel
theorem dJ6_bitCount_0f7a4_21 : decode cJ6_bitCount_0f7a4 21 = .ok (.iand, 1) := by decide +kernel
theorem dJ6_bitCount_0f7a4_22 : decode cJ6_bitCount_0f7a4 22 = .ok (.iadd, 1) := by decide +kernel
theorem dJ6_bitCount_0f7a4_23 : decode cJ6_bitCount_0f7a4 23 = .ok (.istore_n 0, 1) := by decide +kernel
theorem dJ6_bitCount_0f7a4_24 : decode cJ6_bitCount_0f7a4 24 = .ok (.iload_n 0, 1) := by decide +kernel
theorem dJ6_bitCount_0f7a4_25 : decode cJ6_bitCount_0f7a4 25 = .ok (.iload_n 0, 1) := by decide +kernel
theorem dJ6_bitCount_0f7a4_26 : decode cJ6_bitCount_0f7a4 26 = .ok (.iconst 4, 1) := by decide +kernel
theorem dJ6_bitCount_0f7a4_27 : decode cJ6_bitCount_0f7a4 27 = .ok (.iushr, 1) := by decide +kernel
theorem dJ6_bitCount_0f7a4_28 : decode cJ6_bitCount_0f7a4 28 = .ok (.iadd, 1) := by decide +kernel
theorem dJ6_bitCount_0f7a4_29 : decode cJ6_bitCount_0f7a4 29 = .ok (.ldc_w 267, 3) := by decide +kernel
theorem dJ6_bitCount_0f7a4_32 : decode cJ6_bitCount_0f7a4 32 = .ok (.iand, 1) := by decide +kernel
theorem dJ6_bitCount_0f7a4_33 : decode cJ6_bitCount_0f7a4 33 = .ok (.istore_n 0, 1) := by decide +kernel
theorem dJ6_bitCount_0f7a4_34 : decode cJ6_bitCount_0f7a4 34 = .ok (.iload_n 0, 1) := by decide +kernel
theorem dJ6_bitCount_0f7a4_35 : decode cJ6_bitCount_0f7a4 35 = .ok (.iload_n 0, 1) := by decide +kernel
theorem dJ6_bitCount_0f7a4_36 : decode cJ6_bitCount_0f7a4 36 = .ok (.bipush 8, 2) := by decide +kernel
theorem dJ6_bitCount_0f7a4_38 : decode cJ6_bitCount_0f7a4 38 = .ok (.iushr, 1) := by decide +kernel
theorem dJ6_bitCount_0f7a4_39 : decode cJ6_bitCount_0f7a4 39 = .ok (.iadd, 1) := by decide +kernel
theorem dJ6_bitCount_0f7a4_40 : decode cJ6_bitCount_0f7a4 40 = .ok (.istore_n 0, 1) := by decide +kernel
theorem dJ6_bitCount_0f7a4_41 : decode cJ6_bitCount_0f7a4 41 = .ok (.iload_n 0, 1) := by decide +kernel
theorem dJ6_bitCount_0f7a4_42 : decode cJ6_bitCount_0f7a4 42 = .ok (.iload_n 0, 1) := by decide +kernel
theorem dJ6_bitCount_0f7a4_43 : decode cJ6_bitCount_0f7a4 43 = .ok (.bipush 16, 2) := by decide +kernel
theorem dJ6_bitCount_0f7a4_45 : decode cJ6_bitCount_0f7a4 45 = .ok (.iushr, 1) := by decide +kernel
theorem dJ6_bitCount_0f7a4_46 : decode cJ6_bitCount_0f7a4 46 = .ok (.iadd, 1) := by decide +kernel
theorem dJ6_bitCount_0f7a4_47 : decode cJ6_bitCount_0f7a4 47 = .ok (.istore_n 0, 1) := by decide +kernel
theorem dJ6_bitCount_0f7a4_48 : decode cJ6_bitCount_0f7a4 48 = .ok (.iload_n 0, 1) := by decide +kernel
theorem dJ6_bitCount_0f7a4_49 : decode cJ6_bitCount_0f7a4 49 = .ok (.bipush 63, 2) := by decide +kernel
theorem dJ6_bitCount_0f7a4_51 : decode cJ6_bitCount_0f7a4 51 = .ok (.iand, 1) := by decide +kernel
theorem dJ6_bitCount_0f7a4_52 : decode cJ6_bitCount_0f7a4 52 = .ok (.ireturn, 1) := by decide +kernel
theorem dJ9_max_7cf53_0 : decode cJ9_max_7cf53 0 = .ok (.iload_n 0, 1) := by decide +kernel
theorem dJ9_max_7cf53_1 : decode cJ9_max_7cf53 1 = .ok (.iload_n 1, 1) := by decide +kernel
theorem dJ9_max_7cf53_2 : decode cJ9_max_7cf53 2 = .ok (.if_icmp .lt 7, 3) := by decide +kernel
theorem dJ9_max_7cf53_5 : decode cJ9_max_7cf53 5 = .ok (.iload_n 0, 1) := by decide +kernel
theorem dJ9_max_7cf53_6 : decode cJ9_max_7cf53 6 = .ok (.goto 4, 3) := by decide +kernel
theorem dJ9_max_7cf53_9 : decode cJ9_max_7cf53 9 = .ok (.iload_n 1, 1) := by decide +kernel
theorem dJ9_max_7cf53_10 : decode cJ9_max_7cf53 10 = .ok (.ireturn, 1) := by decide +kernel
theorem dJ9_max_f86c9_0 : decode cJ9_max_f86c9 0 = .ok (.lload_n 0, 1) := by decide +kernel
theorem dJ9_max_f86c9_1 : decode cJ9_max_f86c9 1 = .ok (.lload_n 2, 1) := by decide +kernel
theorem dJ9_max_f86c9_2 : decode cJ9_max_f86c9 2 = .ok (.lcmp, 1) := by decide +kernel
theorem dJ9_max_f86c9_3 : decode cJ9_max_f86c9 3 = .ok (.ifCond .lt 7, 3) := by decide +kernel
theorem dJ9_max_f86c9_6 : decode cJ9_max_f86c9 6 = .ok (.lload_n 0, 1) := by decide +kernel
theorem dJ9_max_f86c9_7 : decode cJ9_max_f86c9 7 = .ok (.goto 4, 3) := by decide +kernel
theorem dJ9_max_f86c9_10 : decode cJ9_max_f86c9 10 = .ok (.lload_n 2, 1) := by decide +kernel
theorem dJ9_max_f86c9_11 : decode cJ9_max_f86c9 11 = .ok (.lreturn, 1) := by decide +kernel
theorem dJ9_min_7cf53_0 : decode cJ9_min_7cf53 0 = .ok (.iload_n 0, 1) := by decide +kernel
theorem dJ9_min_7cf53_1 : decode cJ9_min_7cf53 1 = .ok (.iload_n 1, 1) := by decide +kernel
theorem dJ9_min_7cf53_2 : decode cJ9_min_7cf53 2 = .ok (.if_icmp .gt 7, 3) := by decide +kernel
theorem dJ9_min_7cf53_5 : decode cJ9_min_7cf53 5 = .ok (.iload_n 0, 1) := by decide +kernel
theorem dJ9_min_7cf53_6 : decode cJ9_min_7cf53 6 = .ok (.goto 4, 3) := by decide +kernel
theorem dJ9_min_7cf53_9 : decode cJ9_min_7cf53 9 = .ok (.iload_n 1, 1) := by decide +kernel
theorem dJ9_min_7cf53_10 : decode cJ9_min_7cf53 10 = .ok (.ireturn, 1) := by decide +kernel
set_option maxRecDepth 20000 in
theorem ggJ0_length_8abf5_J0_coder_7d493 : GoodIn wsJ0_length_8abf5 wsJ0_coder_7d493 := goodIn_r _ [6, 7, 8] (by decide +kernel) (by decide +kernel)
set_option maxRecDepth 20000 in
theorem gJ0_length_8abf5_J0_coder_7d493 : GoodIn wsJ0_length_8abf5 (wsV RJ0 335 RJ0 yJ0_coder_7d493 wsJ0_coder_7d493) := goodIn_app (goodIn_of _ (by decide +kernel)) ggJ0_length_8abf5_J0_coder_7d493
theorem dJ0_length_8abf5_0 : decode cJ0_length_8abf5 0 = .ok (.aload_n 0, 1) := by decide +kernel
theorem dJ0_length_8abf5_1 : decode cJ0_length_8abf5 1 = .ok (.getfield 9, 3) := by decide +kernel
theorem dJ0_length_8abf5_4 : decode cJ0_length_8abf5 4 = .ok (.arraylength, 1) := by decide +kernel
theorem dJ0_length_8abf5_5 : decode cJ0_length_8abf5 5 = .ok (.aload_n 0, 1) := by decide +kernel
theorem dJ0_length_8abf5_6 : decode cJ0_length_8abf5 6 = .ok (.invokevirtual 335, 3) := by decide +kernel
theorem dJ0_length_8abf5_9 : decode cJ0_length_8abf5 9 = .ok (.ishr, 1) := by decide +kernel
theorem dJ0_length_8abf5_10 : decode cJ0_length_8abf5 10 = .ok (.ireturn, 1) := by decide +kernel
set_option maxRecDepth 20000 in
theorem ggJ0_charAt_5068e_J0_isLatin1_aae02 : GoodIn wsJ0_charAt_5068e wsJ0_isLatin1_aae02 := goodIn_r _ [6, 7, 8] (by decide +kernel) (by decide +kernel)
set_option maxRecDepth 20000 in
theorem gJ0_charAt_5068e_J0_isLatin1_aae02 : GoodIn wsJ0_charAt_5068e (wsV RJ0 492 RJ0 yJ0_isLatin1_aae02 wsJ0_isLatin1_aae02) := goodIn_app (goodIn_of _ (by decide +kernel)) ggJ0_charAt_5068e_J0_isLatin1_aae02
set_option maxRecDepth 20000 in
theorem ggJ0_charAt_5068e_J1_charAt_3b067 : GoodIn wsJ0_charAt_5068e wsJ1_charAt_3b067 := goodIn_r _ [12, 13, 14, 5, 15, 16, 17, 18, 19, 20] (by decide +kernel) (by decide +kernel)
set_option maxRecDepth 20000 in
theorem gJ0_charAt_5068e_J1_charAt_3b067 : GoodIn wsJ0_charAt_5068e (va_wsS RJ0 495 yJ1_charAt_3b067 wsJ1_charAt_3b067) := goodIn_app (goodIn_of _ (by decide +kernel)) ggJ0_charAt_5068e_J1_charAt_3b067
set_option maxRecDepth 20000 in
theorem ggJ0_charAt_5068e_J2_charAt_3b067 : GoodIn wsJ0_charAt_5068e wsJ2_charAt_3b067 := goodIn_r _ [24, 25, 26, 23, 27, 28, 29, 30, 31, 14, 5, 15, 16, 17, 18, 19, 20, 32, 33, 34, 35, 36, 37] (by decide +kernel) (by decide +kernel)
set_option maxRecDepth 20000 in
theorem gJ0_charAt_5068e_J2_charAt_3b067 : GoodIn wsJ0_charAt_5068e (va_wsS RJ0 498 yJ2_charAt_3b067 wsJ2_charAt_3b067) := goodIn_app (goodIn_of _ (by decide +kernel)) ggJ0_charAt_5068e_J2_charAt_3b067
theorem dJ0_charAt_5068e_0 : decode cJ0_charAt_5068e 0 = .ok (.aload_n 0, 1) := by decide +kernel
theorem dJ0_charAt_5068e_1 : decode cJ0_charAt_5068e 1 = .ok (.invokevirtual 492, 3) := by decide +kernel
theorem dJ0_charAt_5068e_4 : decode cJ0_charAt_5068e 4 = .ok (.ifCond .eq 12, 3) := by decide +kernel
theorem dJ0_charAt_5068e_7 : decode cJ0_charAt_5068e 7 = .ok (.aload_n 0, 1) := by decide +kernel
theorem dJ0_charAt_5068e_8 : decode cJ0_charAt_5068e 8 = .ok (.getfield 9, 3) := by decide +kernel
theorem dJ0_charAt_5068e_11 : decode cJ0_charAt_5068e 11 = .ok (.iload_n 1, 1) := by decide +kernel
theorem dJ0_charAt_5068e_12 : decode cJ0_charAt_5068e 12 = .ok (.invokestatic 495, 3) := by decide +kernel
theorem dJ0_charAt_5068e_15 : decode cJ0_charAt_5068e 15 = .ok (.ireturn, 1) := by decide +kernel
theorem dJ0_charAt_5068e_16 : decode cJ0_charAt_5068e 16 = .ok (.aload_n 0, 1) := by decide +kernel
theorem dJ0_charAt_5068e_17 : decode cJ0_charAt_5068e 17 = .ok (.getfield 9, 3) := by decide +kernel
theorem dJ0_charAt_5068e_20 : decode cJ0_charAt_5068e 20 = .ok (.iload_n 1, 1) := by decide +kernel
theorem dJ0_charAt_5068e_21 : decode cJ0_charAt_5068e 21 = .ok (.invokestatic 498, 3) := by decide +kernel
theorem dJ0_charAt_5068e_24 : decode cJ0_charAt_5068e 24 = .ok (.ireturn, 1) := by decide +kernel
theorem dJ0_coder_7d493_0 : decode cJ0_coder_7d493 0 = .ok (.getstatic 38, 3) := by decide +kernel
theorem dJ0_coder_7d493_3 : decode cJ0_coder_7d493 3 = .ok (.ifCond .eq 10, 3) := by decide +kernel
theorem dJ0_coder_7d493_6 : decode cJ0_coder_7d493 6 = .ok (.aload_n 0, 1) := by decide +kernel
theorem dJ0_coder_7d493_7 : decode cJ0_coder_7d493 7 = .ok (.getfield 15, 3) := by decide +kernel
theorem dJ0_coder_7d493_10 : decode cJ0_coder_7d493 10 = .ok (.goto 4, 3) := by decide +kernel
theorem dJ0_coder_7d493_13 : decode cJ0_coder_7d493 13 = .ok (.iconst 1, 1) := by decide +kernel
theorem dJ0_coder_7d493_14 : decode cJ0_coder_7d493 14 = .ok (.ireturn, 1) := by decide +kernel
theorem dJ0_isLatin1_aae02_0 : decode cJ0_isLatin1_aae02 0 = .ok (.getstatic 38, 3) := by decide +kernel
theorem dJ0_isLatin1_aae02_3 : decode cJ0_isLatin1_aae02 3 = .ok (.ifCond .eq 14, 3) := by decide +kernel
theorem dJ0_isLatin1_aae02_6 : decode cJ0_isLatin1_aae02 6 = .ok (.aload_n 0, 1) := by decide +kernel
theorem dJ0_isLatin1_aae02_7 : decode cJ0_isLatin1_aae02 7 = .ok (.getfield 15, 3) := by decide +kernel
theorem dJ0_isLatin1_aae02_10 : decode cJ0_isLatin1_aae02 10 = .ok (.ifCond .ne 7, 3) := by decide +kernel
theorem dJ0_isLatin1_aae02_13 : decode cJ0_isLatin1_aae02 13 = .ok (.iconst 1, 1) := by decide +kernel
theorem dJ0_isLatin1_aae02_14 : decode cJ0_isLatin1_aae02 14 = .ok (.goto 4, 3) := by decide +kernel
theorem dJ0_isLatin1_aae02_17 : decode cJ0_isLatin1_aae02 17 = .ok (.iconst 0, 1) := by decide +kernel
theorem dJ0_isLatin1_aae02_18 : decode cJ0_isLatin1_aae02 18 = .ok (.ireturn, 1) := by decide +kernel
set_option maxRecDepth 20000 in
theorem ggJ0_checkIndex_df160_J3_checkIndex_8e157 : GoodIn wsJ0_checkIndex_df160 wsJ3_checkIndex_8e157 := goodIn_r _ [5] (by decide +kernel) (by decide +kernel)
set_option maxRecDepth 20000 in
theorem gJ0_checkIndex_df160_J3_checkIndex_8e157 : GoodIn wsJ0_checkIndex_df160 (va_wsS RJ0 1059 yJ3_checkIndex_8e157 wsJ3_checkIndex_8e157) := goodIn_app (goodIn_of _ (by decide +kernel)) ggJ0_checkIndex_df160_J3_checkIndex_8e157
theorem dJ0_checkIndex_df160_0 : decode cJ0_checkIndex_df160 0 = .ok (.iload_n 0, 1) := by decide +kernel
theorem dJ0_checkIndex_df160_1 : decode cJ0_checkIndex_df160 1 = .ok (.iload_n 1, 1) := by decide +kernel
theorem dJ0_checkIndex_df160_2 : decode cJ0_checkIndex_df160 2 = .ok (.getstatic 1053, 3) := by decide +kernel
theorem dJ0_checkIndex_df160_5 : decode cJ0_checkIndex_df160 5 = .ok (.invokestatic 1059, 3) := by decide +kernel
theorem dJ0_checkIndex_df160_8 : decode cJ0_checkIndex_df160 8 = .ok (.pop, 1) := by decide +kernel
theorem dJ0_checkIndex_df160_9 : decode cJ0_checkIndex_df160 9 = .ok (.return_, 1) := by decide +kernel
set_option maxRecDepth 20000 in
theorem ggJ1_charAt_3b067_J0_checkIndex_df160 : GoodIn wsJ1_charAt_3b067 wsJ0_checkIndex_df160 := goodIn_r _ [4, 5, 6, 7, 8, 9] (by decide +kernel) (by decide +kernel)
set_option maxRecDepth 20000 in
theorem gJ1_charAt_3b067_J0_checkIndex_df160 : GoodIn wsJ1_charAt_3b067 (va_wsS RJ1 9 yJ0_checkIndex_df160 wsJ0_checkIndex_df160) := goodIn_app (goodIn_of _ (by decide +kernel)) ggJ1_charAt_3b067_J0_checkIndex_df160
theorem dJ1_charAt_3b067_0 : decode cJ1_charAt_3b067 0 = .ok (.iload_n 1, 1) := by decide +kernel
theorem dJ1_charAt_3b067_1 : decode cJ1_charAt_3b067 1 = .ok (.aload_n 0, 1) := by decide +kernel
theorem dJ1_charAt_3b067_2 : decode cJ1_charAt_3b067 2 = .ok (.arraylength, 1) := by decide +kernel
theorem dJ1_charAt_3b067_3 : decode cJ1_charAt_3b067 3 = .ok (.invokestatic 9, 3) := by decide +kernel
theorem dJ1_charAt_3b067_6 : decode cJ1_charAt_3b067 6 = .ok (.aload_n 0, 1) := by decide +kernel
theorem dJ1_charAt_3b067_7 : decode cJ1_charAt_3b067 7 = .ok (.iload_n 1, 1) := by decide +kernel
theorem dJ1_charAt_3b067_8 : decode cJ1_charAt_3b067 8 = .ok (.baload, 1) := by decide +kernel
theorem dJ1_charAt_3b067_9 : decode cJ1_charAt_3b067 9 = .ok (.sipush 255, 3) := by decide +kernel
theorem dJ1_charAt_3b067_12 : decode cJ1_charAt_3b067 12 = .ok (.iand, 1) := by decide +kernel
theorem dJ1_charAt_3b067_13 : decode cJ1_charAt_3b067 13 = .ok (.i2c, 1) := by decide +kernel
theorem dJ1_charAt_3b067_14 : decode cJ1_charAt_3b067 14 = .ok (.ireturn, 1) := by decide +kernel
set_option maxRecDepth 20000 in
theorem ggJ2_getChar_3b067_J2_length_9d52b : GoodIn wsJ2_getChar_3b067 wsJ2_length_9d52b := goodIn_r _ [7] (by decide +kernel) (by decide +kernel)
set_option maxRecDepth 20000 in
theorem gJ2_getChar_3b067_J2_length_9d52b : GoodIn wsJ2_getChar_3b067 (va_wsS RJ2 48 yJ2_length_9d52b wsJ2_length_9d52b) := goodIn_app (goodIn_of _ (by decide +kernel)) ggJ2_getChar_3b067_J2_length_9d52b
theorem dJ2_getChar_3b067_0 : decode cJ2_getChar_3b067 0 = .ok (.getstatic 44, 3) := by decide +kernel
theorem dJ2_getChar_3b067_3 : decode cJ2_getChar_3b067 3 = .ok (.ifCond .ne 25, 3) := by decide +kernel
theorem dJ2_getChar_3b067_6 : decode cJ2_getChar_3b067 6 = .ok (.iload_n 1, 1) := by decide +kernel
theorem dJ2_getChar_3b067_7 : decode cJ2_getChar_3b067 7 = .ok (.ifCond .lt 11, 3) := by decide +kernel
theorem dJ2_getChar_3b067_10 : decode cJ2_getChar_3b067 10 = .ok (.iload_n 1, 1) := by decide +kernel
theorem dJ2_getChar_3b067_11 : decode cJ2_getChar_3b067 11 = .ok (.aload_n 0, 1) := by decide +kernel
theorem dJ2_getChar_3b067_12 : decode cJ2_getChar_3b067 12 = .ok (.invokestatic 48, 3) := by decide +kernel
theorem dJ2_getChar_3b067_15 : decode cJ2_getChar_3b067 15 = .ok (.if_icmp .lt 13, 3) := by decide +kernel
theorem dJ2_getChar_3b067_18 : decode cJ2_getChar_3b067 18 = .ok (.new 52, 3) := by decide +kernel
theorem dJ2_getChar_3b067_21 : decode cJ2_getChar_3b067 21 = .ok (.dup, 1) := by decide +kernel
theorem dJ2_getChar_3b067_22 : decode cJ2_getChar_3b067 22 = .ok (.ldc 54, 2) := by decide +kernel
theorem dJ2_getChar_3b067_24 : decode cJ2_getChar_3b067 24 = .ok (.invokespecial 56, 3) := by decide +kernel
theorem dJ2_getChar_3b067_27 : decode cJ2_getChar_3b067 27 = .ok (.athrow, 1) := by decide +kernel
theorem dJ2_getChar_3b067_28 : decode cJ2_getChar_3b067 28 = .ok (.iload_n 1, 1) := by decide +kernel
theorem dJ2_getChar_3b067_29 : decode cJ2_getChar_3b067 29 = .ok (.iconst 1, 1) := by decide +kernel
theorem dJ2_getChar_3b067_30 : decode cJ2_getChar_3b067 30 = .ok (.ishl, 1) := by decide +kernel
theorem dJ2_getChar_3b067_31 : decode cJ2_getChar_3b067 31 = .ok (.istore_n 1, 1) := by decide +kernel
theorem dJ2_getChar_3b067_32 : decode cJ2_getChar_3b067 32 = .ok (.aload_n 0, 1) := by decide +kernel
theorem dJ2_getChar_3b067_33 : decode cJ2_getChar_3b067 33 = .ok (.iload_n 1, 1) := by decide +kernel
theorem dJ2_getChar_3b067_34 : decode cJ2_getChar_3b067 34 = .ok (.iinc 1 1, 3) := by decide +kernel
theorem dJ2_getChar_3b067_37 : decode cJ2_getChar_3b067 37 = .ok (.baload, 1) := by decide +kernel
theorem dJ2_getChar_3b067_38 : decode cJ2_getChar_3b067 38 = .ok (.sipush 255, 3) := by decide +kernel
theorem dJ2_getChar_3b067_41 : decode cJ2_getChar_3b067 41 = .ok (.iand, 1) := by decide +kernel
theorem dJ2_getChar_3b067_42 : decode cJ2_getChar_3b067 42 = .ok (.getstatic 59, 3) := by decide +kernel
theorem dJ2_getChar_3b067_45 : decode cJ2_getChar_3b067 45 = .ok (.ishl, 1) := by decide +kernel
theorem dJ2_getChar_3b067_46 : decode cJ2_getChar_3b067 46 = .ok (.aload_n 0, 1) := by decide +kernel
theorem dJ2_getChar_3b067_47 : decode cJ2_getChar_3b067 47 = .ok (.iload_n 1, 1) := by decide +kernel
theorem dJ2_getChar_3b067_48 : decode cJ2_getChar_3b067 48 = .ok (.baload, 1) := by decide +kernel
theorem dJ2_getChar_3b067_49 : decode cJ2_getChar_3b067 49 = .ok (.sipush 255, 3) := by decide +kernel
theorem dJ2_getChar_3b067_52 : decode cJ2_getChar_3b067 52 = .ok (.iand, 1) := by decide +kernel
theorem dJ2_getChar_3b067_53 : decode cJ2_getChar_3b067 53 = .ok (.getstatic 63, 3) := by decide +kernel
theorem dJ2_getChar_3b067_56 : decode cJ2_getChar_3b067 56 = .ok (.ishl, 1) := by decide +kernel
theorem dJ2_getChar_3b067_57 : decode cJ2_getChar_3b067 57 = .ok (.ior, 1) := by decide +kernel
theorem dJ2_getChar_3b067_58 : decode cJ2_getChar_3b067 58 = .ok (.i2c, 1) := by decide +kernel
theorem dJ2_getChar_3b067_59 : decode cJ2_getChar_3b067 59 = .ok (.ireturn, 1) := by decide +kernel
theorem dJ2_length_9d52b_0 : decode cJ2_length_9d52b 0 = .ok (.aload_n 0, 1) := by decide +kernel
theorem dJ2_length_9d52b_1 : decode cJ2_length_9d52b 1 = .ok (.arraylength, 1) := by decide +kernel
theorem dJ2_length_9d52b_2 : decode cJ2_length_9d52b 2 = .ok (.iconst 1, 1) := by decide +kernel
theorem dJ2_length_9d52b_3 : decode cJ2_length_9d52b 3 = .ok (.ishr, 1) := by decide +kernel
theorem dJ2_length_9d52b_4 : decode cJ2_length_9d52b 4 = .ok (.ireturn, 1) := by decide +kernel
set_option maxRecDepth 20000 in
theorem ggJ2_charAt_3b067_J2_checkIndex_2214a : GoodIn wsJ2_charAt_3b067 wsJ2_checkIndex_2214a := goodIn_r _ [4, 5, 6, 3, 7, 8, 9, 10, 11, 12, 13, 14, 15, 16] (by decide +kernel) (by decide +kernel)
set_option maxRecDepth 20000 in
theorem gJ2_charAt_3b067_J2_checkIndex_2214a : GoodIn wsJ2_charAt_3b067 (va_wsS RJ2 67 yJ2_checkIndex_2214a wsJ2_checkIndex_2214a) := goodIn_app (goodIn_of _ (by decide +kernel)) ggJ2_charAt_3b067_J2_checkIndex_2214a
set_option maxRecDepth 20000 in
theorem ggJ2_charAt_3b067_J2_getChar_3b067 : GoodIn wsJ2_charAt_3b067 wsJ2_getChar_3b067 := goodIn_r _ [19, 20, 21, 22, 5, 6, 3, 7] (by decide +kernel) (by decide +kernel)
set_option maxRecDepth 20000 in
theorem gJ2_charAt_3b067_J2_getChar_3b067 : GoodIn wsJ2_charAt_3b067 (va_wsS RJ2 71 yJ2_getChar_3b067 wsJ2_getChar_3b067) := goodIn_app (goodIn_of _ (by decide +kernel)) ggJ2_charAt_3b067_J2_getChar_3b067
theorem dJ2_charAt_3b067_0 : decode cJ2_charAt_3b067 0 = .ok (.iload_n 1, 1) := by decide +kernel
theorem dJ2_charAt_3b067_1 : decode cJ2_charAt_3b067 1 = .ok (.aload_n 0, 1) := by decide +kernel
theorem dJ2_charAt_3b067_2 : decode cJ2_charAt_3b067 2 = .ok (.invokestatic 67, 3) := by decide +kernel
theorem dJ2_charAt_3b067_5 : decode cJ2_charAt_3b067 5 = .ok (.aload_n 0, 1) := by decide +kernel
theorem dJ2_charAt_3b067_6 : decode cJ2_charAt_3b067 6 = .ok (.iload_n 1, 1) := by decide +kernel
theorem dJ2_charAt_3b067_7 : decode cJ2_charAt_3b067 7 = .ok (.invokestatic 71, 3) := by decide +kernel
theorem dJ2_charAt_3b067_10 : decode cJ2_charAt_3b067 10 = .ok (.ireturn, 1) := by decide +kernel
set_option maxRecDepth 20000 in
theorem ggJ2_checkIndex_2214a_J2_length_9d52b : GoodIn wsJ2_checkIndex_2214a wsJ2_length_9d52b := goodIn_r _ [4] (by decide +kernel) (by decide +kernel)
set_option maxRecDepth 20000 in
theorem gJ2_checkIndex_2214a_J2_length_9d52b : GoodIn wsJ2_checkIndex_2214a (va_wsS RJ2 48 yJ2_length_9d52b wsJ2_length_9d52b) := goodIn_app (goodIn_of _ (by decide +kernel)) ggJ2_checkIndex_2214a_J2_length_9d52b
set_option maxRecDepth 20000 in
theorem ggJ2_checkIndex_2214a_J0_checkIndex_df160 : GoodIn wsJ2_checkIndex_2214a wsJ0_checkIndex_df160 := goodIn_r _ [8, 9, 10, 11, 12, 13] (by decide +kernel) (by decide +kernel)
set_option maxRecDepth 20000 in
theorem gJ2_checkIndex_2214a_J0_checkIndex_df160 : GoodIn wsJ2_checkIndex_2214a (va_wsS RJ2 414 yJ0_checkIndex_df160 wsJ0_checkIndex_df160) := goodIn_app (goodIn_of _ (by decide +kernel)) ggJ2_checkIndex_2214a_J0_checkIndex_df160
theorem dJ2_checkIndex_2214a_0 : decode cJ2_checkIndex_2214a 0 = .ok (.iload_n 0, 1) := by decide +kernel
theorem dJ2_checkIndex_2214a_1 : decode cJ2_checkIndex_2214a 1 = .ok (.aload_n 1, 1) := by decide +kernel
theorem dJ2_checkIndex_2214a_2 : decode cJ2_checkIndex_2214a 2 = .ok (.invokestatic 48, 3) := by decide +kernel
theorem dJ2_checkIndex_2214a_5 : decode cJ2_checkIndex_2214a 5 = .ok (.invokestatic 414, 3) := by decide +kernel
theorem dJ2_checkIndex_2214a_8 : decode cJ2_checkIndex_2214a 8 = .ok (.return_, 1) := by decide +kernel
theorem dJ7_rangeCheck_23922_0 : decode cJ7_rangeCheck_23922 0 = .ok (.iload_n 1, 1) := by decide +kernel
theorem dJ7_rangeCheck_23922_1 : decode cJ7_rangeCheck_23922 1 = .ok (.iload_n 2, 1) := by decide +kernel
theorem dJ7_rangeCheck_23922_2 : decode cJ7_rangeCheck_23922 2 = .ok (.if_icmp .le 44, 3) := by decide +kernel
theorem dJ7_rangeCheck_23922_5 : decode cJ7_rangeCheck_23922 5 = .ok (.new 43, 3) := by decide +kernel
theorem dJ7_rangeCheck_23922_8 : decode cJ7_rangeCheck_23922 8 = .ok (.dup, 1) := by decide +kernel
theorem dJ7_rangeCheck_23922_9 : decode cJ7_rangeCheck_23922 9 = .ok (.new 45, 3) := by decide +kernel
theorem dJ7_rangeCheck_23922_12 : decode cJ7_rangeCheck_23922 12 = .ok (.dup, 1) := by decide +kernel
theorem dJ7_rangeCheck_23922_13 : decode cJ7_rangeCheck_23922 13 = .ok (.invokespecial 47, 3) := by decide +kernel
theorem dJ7_rangeCheck_23922_16 : decode cJ7_rangeCheck_23922 16 = .ok (.ldc 48, 2) := by decide +kernel
theorem dJ7_rangeCheck_23922_18 : decode cJ7_rangeCheck_23922 18 = .ok (.invokevirtual 50, 3) := by decide +kernel
theorem dJ7_rangeCheck_23922_21 : decode cJ7_rangeCheck_23922 21 = .ok (.iload_n 1, 1) := by decide +kernel
theorem dJ7_rangeCheck_23922_22 : decode cJ7_rangeCheck_23922 22 = .ok (.invokevirtual 54, 3) := by decide +kernel
theorem dJ7_rangeCheck_23922_25 : decode cJ7_rangeCheck_23922 25 = .ok (.ldc 57, 2) := by decide +kernel
theorem dJ7_rangeCheck_23922_27 : decode cJ7_rangeCheck_23922 27 = .ok (.invokevirtual 50, 3) := by decide +kernel
theorem dJ7_rangeCheck_23922_30 : decode cJ7_rangeCheck_23922 30 = .ok (.iload_n 2, 1) := by decide +kernel
theorem dJ7_rangeCheck_23922_31 : decode cJ7_rangeCheck_23922 31 = .ok (.invokevirtual 54, 3) := by decide +kernel
theorem dJ7_rangeCheck_23922_34 : decode cJ7_rangeCheck_23922 34 = .ok (.ldc 59, 2) := by decide +kernel
theorem dJ7_rangeCheck_23922_36 : decode cJ7_rangeCheck_23922 36 = .ok (.invokevirtual 50, 3) := by decide +kernel
theorem dJ7_rangeCheck_23922_39 : decode cJ7_rangeCheck_23922 39 = .ok (.invokevirtual 61, 3) := by decide +kernel
theorem dJ7_rangeCheck_23922_42 : decode cJ7_rangeCheck_23922 42 = .ok (.invokespecial 65, 3) := by decide +kernel
theorem dJ7_rangeCheck_23922_45 : decode cJ7_rangeCheck_23922 45 = .ok (.athrow, 1) := by decide +kernel
theorem dJ7_rangeCheck_23922_46 : decode cJ7_rangeCheck_23922 46 = .ok (.iload_n 1, 1) := by decide +kernel
theorem dJ7_rangeCheck_23922_47 : decode cJ7_rangeCheck_23922 47 = .ok (.ifCond .ge 12, 3) := by decide +kernel
theorem dJ7_rangeCheck_23922_50 : decode cJ7_rangeCheck_23922 50 = .ok (.new 68, 3) := by decide +kernel
theorem dJ7_rangeCheck_23922_53 : decode cJ7_rangeCheck_23922 53 = .ok (.dup, 1) := by decide +kernel
theorem dJ7_rangeCheck_23922_54 : decode cJ7_rangeCheck_23922 54 = .ok (.iload_n 1, 1) := by decide +kernel
theorem dJ7_rangeCheck_23922_55 : decode cJ7_rangeCheck_23922 55 = .ok (.invokespecial 70, 3) := by decide +kernel
theorem dJ7_rangeCheck_23922_58 : decode cJ7_rangeCheck_23922 58 = .ok (.athrow, 1) := by decide +kernel
theorem dJ7_rangeCheck_23922_59 : decode cJ7_rangeCheck_23922 59 = .ok (.iload_n 2, 1) := by decide +kernel
theorem dJ7_rangeCheck_23922_60 : decode cJ7_rangeCheck_23922 60 = .ok (.iload_n 0, 1) := by decide +kernel
theorem dJ7_rangeCheck_23922_61 : decode cJ7_rangeCheck_23922 61 = .ok (.if_icmp .le 12, 3) := by decide +kernel
theorem dJ7_rangeCheck_23922_64 : decode cJ7_rangeCheck_23922 64 = .ok (.new 68, 3) := by decide +kernel
theorem dJ7_rangeCheck_23922_67 : decode cJ7_rangeCheck_23922 67 = .ok (.dup, 1) := by decide +kernel
theorem dJ7_rangeCheck_23922_68 : decode cJ7_rangeCheck_23922 68 = .ok (.iload_n 2, 1) := by decide +kernel
theorem dJ7_rangeCheck_23922_69 : decode cJ7_rangeCheck_23922 69 = .ok (.invokespecial 70, 3) := by decide +kernel
theorem dJ7_rangeCheck_23922_72 : decode cJ7_rangeCheck_23922 72 = .ok (.athrow, 1) := by decide +kernel
theorem dJ7_rangeCheck_23922_73 : decode cJ7_rangeCheck_23922 73 = .ok (.return_, 1) := by decide +kernel
theorem dJ7_fill_d0a16_0 : decode cJ7_fill_d0a16 0 = .ok (.iconst 0, 1) := by decide +kernel
theorem dJ7_fill_d0a16_1 : decode cJ7_fill_d0a16 1 = .ok (.istore_n 3, 1) := by decide +kernel
theorem dJ7_fill_d0a16_2 : decode cJ7_fill_d0a16 2 = .ok (.aload_n 0, 1) := by decide +kernel
theorem dJ7_fill_d0a16_3 : decode cJ7_fill_d0a16 3 = .ok (.arraylength, 1) := by decide +kernel
theorem dJ7_fill_d0a16_4 : decode cJ7_fill_d0a16 4 = .ok (.istore 4, 2) := by decide +kernel
theorem dJ7_fill_d0a16_6 : decode cJ7_fill_d0a16 6 = .ok (.iload_n 3, 1) := by decide +kernel
theorem dJ7_fill_d0a16_7 : decode cJ7_fill_d0a16 7 = .ok (.iload 4, 2) := by decide +kernel
theorem dJ7_fill_d0a16_9 : decode cJ7_fill_d0a16 9 = .ok (.if_icmp .ge 13, 3) := by decide +kernel
theorem dJ7_fill_d0a16_12 : decode cJ7_fill_d0a16 12 = .ok (.aload_n 0, 1) := by decide +kernel
theorem dJ7_fill_d0a16_13 : decode cJ7_fill_d0a16 13 = .ok (.iload_n 3, 1) := by decide +kernel
theorem dJ7_fill_d0a16_14 : decode cJ7_fill_d0a16 14 = .ok (.lload_n 1, 1) := by decide +kernel
theorem dJ7_fill_d0a16_15 : decode cJ7_fill_d0a16 15 = .ok (.lastore, 1) := by decide +kernel
theorem dJ7_fill_d0a16_16 : decode cJ7_fill_d0a16 16 = .ok (.iinc 3 1, 3) := by decide +kernel
theorem dJ7_fill_d0a16_19 : decode cJ7_fill_d0a16 19 = .ok (.goto (-13), 3) := by decide +kernel
theorem dJ7_fill_d0a16_22 : decode cJ7_fill_d0a16 22 = .ok (.return_, 1) := by decide +kernel
theorem dJ7_fill_53178_0 : decode cJ7_fill_53178 0 = .ok (.iconst 0, 1) := by decide +kernel
theorem dJ7_fill_53178_1 : decode cJ7_fill_53178 1 = .ok (.istore_n 2, 1) := by decide +kernel
theorem dJ7_fill_53178_2 : decode cJ7_fill_53178 2 = .ok (.aload_n 0, 1) := by decide +kernel
theorem dJ7_fill_53178_3 : decode cJ7_fill_53178 3 = .ok (.arraylength, 1) := by decide +kernel
theorem dJ7_fill_53178_4 : decode cJ7_fill_53178 4 = .ok (.istore_n 3, 1) := by decide +kernel
theorem dJ7_fill_53178_5 : decode cJ7_fill_53178 5 = .ok (.iload_n 2, 1) := by decide +kernel
theorem dJ7_fill_53178_6 : decode cJ7_fill_53178 6 = .ok (.iload_n 3, 1) := by decide +kernel
theorem dJ7_fill_53178_7 : decode cJ7_fill_53178 7 = .ok (.if_icmp .ge 13, 3) := by decide +kernel
theorem dJ7_fill_53178_10 : decode cJ7_fill_53178 10 = .ok (.aload_n 0, 1) := by decide +kernel
theorem dJ7_fill_53178_11 : decode cJ7_fill_53178 11 = .ok (.iload_n 2, 1) := by decide +kernel
theorem dJ7_fill_53178_12 : decode cJ7_fill_53178 12 = .ok (.iload_n 1, 1) := by decide +kernel
theorem dJ7_fill_53178_13 : decode cJ7_fill_53178 13 = .ok (.iastore, 1) := by decide +kernel
theorem dJ7_fill_53178_14 : decode cJ7_fill_53178 14 = .ok (.iinc 2 1, 3) := by decide +kernel
theorem dJ7_fill_53178_17 : decode cJ7_fill_53178 17 = .ok (.goto (-12), 3) := by decide +kernel
theorem dJ7_fill_53178_20 : decode cJ7_fill_53178 20 = .ok (.return_, 1) := by decide +kernel
set_option maxRecDepth 20000 in
theorem ggJ7_fill_fda19_J7_rangeCheck_23922 : GoodIn wsJ7_fill_fda19 wsJ7_rangeCheck_23922 := goodIn_r _ [4] (by decide +kernel) (by decide +kernel)
set_option maxRecDepth 20000 in
theorem gJ7_fill_fda19_J7_rangeCheck_23922 : GoodIn wsJ7_fill_fda19 (va_wsS RJ7 13 yJ7_rangeCheck_23922 wsJ7_rangeCheck_23922) := goodIn_app (goodIn_of _ (by decide +kernel)) ggJ7_fill_fda19_J7_rangeCheck_23922
theorem dJ7_fill_fda19_0 : decode cJ7_fill_fda19 0 = .ok (.aload_n 0, 1) := by decide +kernel
theorem dJ7_fill_fda19_1 : decode cJ7_fill_fda19 1 = .ok (.arraylength, 1) := by decide +kernel
theorem dJ7_fill_fda19_2 : decode cJ7_fill_fda19 2 = .ok (.iload_n 1, 1) := by decide +kernel
theorem dJ7_fill_fda19_3 : decode cJ7_fill_fda19 3 = .ok (.iload_n 2, 1) := by decide +kernel
theorem dJ7_fill_fda19_4 : decode cJ7_fill_fda19 4 = .ok (.invokestatic 13, 3) := by decide +kernel
theorem dJ7_fill_fda19_7 : decode cJ7_fill_fda19 7 = .ok (.iload_n 1, 1) := by decide +kernel
theorem dJ7_fill_fda19_8 : decode cJ7_fill_fda19 8 = .ok (.istore 4, 2) := by decide +kernel
theorem dJ7_fill_fda19_10 : decode cJ7_fill_fda19 10 = .ok (.iload 4, 2) := by decide +kernel
theorem dJ7_fill_fda19_12 : decode cJ7_fill_fda19 12 = .ok (.iload_n 2, 1) := by decide +kernel
theorem dJ7_fill_fda19_13 : decode cJ7_fill_fda19 13 = .ok (.if_icmp .ge 14, 3) := by decide +kernel
theorem dJ7_fill_fda19_16 : decode cJ7_fill_fda19 16 = .ok (.aload_n 0, 1) := by decide +kernel
theorem dJ7_fill_fda19_17 : decode cJ7_fill_fda19 17 = .ok (.iload 4, 2) := by decide +kernel
theorem dJ7_fill_fda19_19 : decode cJ7_fill_fda19 19 = .ok (.iload_n 3, 1) := by decide +kernel
theorem dJ7_fill_fda19_20 : decode cJ7_fill_fda19 20 = .ok (.iastore, 1) := by decide +kernel
theorem dJ7_fill_fda19_21 : decode cJ7_fill_fda19 21 = .ok (.iinc 4 1, 3) := by decide +kernel
theorem dJ7_fill_fda19_24 : decode cJ7_fill_fda19 24 = .ok (.goto (-14), 3) := by decide +kernel
theorem dJ7_fill_fda19_27 : decode cJ7_fill_fda19 27 = .ok (.return_, 1) := by decide +kernel
theorem dJ3_checkIndex_8e157_0 : decode cJ3_checkIndex_8e157 0 = .ok (.iload_n 0, 1) := by decide +kernel
theorem dJ3_checkIndex_8e157_1 : decode cJ3_checkIndex_8e157 1 = .ok (.ifCond .lt 8, 3) := by decide +kernel
theorem dJ3_checkIndex_8e157_4 : decode cJ3_checkIndex_8e157 4 = .ok (.iload_n 0, 1) := by decide +kernel
theorem dJ3_checkIndex_8e157_5 : decode cJ3_checkIndex_8e157 5 = .ok (.iload_n 1, 1) := by decide +kernel
theorem dJ3_checkIndex_8e157_6 : decode cJ3_checkIndex_8e157 6 = .ok (.if_icmp .lt 10, 3) := by decide +kernel
theorem dJ3_checkIndex_8e157_9 : decode cJ3_checkIndex_8e157 9 = .ok (.aload_n 2, 1) := by decide +kernel
theorem dJ3_checkIndex_8e157_10 : decode cJ3_checkIndex_8e157 10 = .ok (.iload_n 0, 1) := by decide +kernel
theorem dJ3_checkIndex_8e157_11 : decode cJ3_checkIndex_8e157 11 = .ok (.iload_n 1, 1) := by decide +kernel
theorem dJ3_checkIndex_8e157_12 : decode cJ3_checkIndex_8e157 12 = .ok (.invokestatic 95, 3) := by decide +kernel
theorem dJ3_checkIndex_8e157_15 : decode cJ3_checkIndex_8e157 15 = .ok (.athrow, 1) := by decide +kernel
theorem dJ3_checkIndex_8e157_16 : decode cJ3_checkIndex_8e157 16 = .ok (.iload_n 0, 1) := by decide +kernel
theorem dJ3_checkIndex_8e157_17 : decode cJ3_checkIndex_8e157 17 = .ok (.ireturn, 1) := by decide +kernel
