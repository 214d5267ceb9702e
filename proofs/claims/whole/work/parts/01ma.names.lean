theorem dX12_init_0 : decode cX12_init 0 = .ok (.aload_n 0, 1) := by decide +kernel
theorem dX12_init_1 : decode cX12_init 1 = .ok (.invokespecial 1, 3) := by decide +kernel
theorem dX12_init_4 : decode cX12_init 4 = .ok (.aload_n 0, 1) := by decide +kernel
theorem dX12_init_5 : decode cX12_init 5 = .ok (.sipush 2400, 3) := by decide +kernel
theorem dX12_init_8 : decode cX12_init 8 = .ok (.newarray .byte, 2) := by decide +kernel
theorem dX12_init_10 : decode cX12_init 10 = .ok (.putfield 7, 3) := by decide +kernel
theorem dX12_init_13 : decode cX12_init 13 = .ok (.aload_n 0, 1) := by decide +kernel
theorem dX12_init_14 : decode cX12_init 14 = .ok (.iconst 4, 1) := by decide +kernel
theorem dX12_init_15 : decode cX12_init 15 = .ok (.newarray .int, 2) := by decide +kernel
theorem dX12_init_17 : decode cX12_init 17 = .ok (.putfield 13, 3) := by decide +kernel
theorem dX12_init_20 : decode cX12_init 20 = .ok (.aload_n 0, 1) := by decide +kernel
theorem dX12_init_21 : decode cX12_init 21 = .ok (.iconst 4, 1) := by decide +kernel
theorem dX12_init_22 : decode cX12_init 22 = .ok (.newarray .int, 2) := by decide +kernel
theorem dX12_init_24 : decode cX12_init 24 = .ok (.putfield 17, 3) := by decide +kernel
theorem dX12_init_27 : decode cX12_init 27 = .ok (.aload_n 0, 1) := by decide +kernel
theorem dX12_init_28 : decode cX12_init 28 = .ok (.iconst 4, 1) := by decide +kernel
theorem dX12_init_29 : decode cX12_init 29 = .ok (.newarray .int, 2) := by decide +kernel
theorem dX12_init_31 : decode cX12_init 31 = .ok (.putfield 20, 3) := by decide +kernel
theorem dX12_init_34 : decode cX12_init 34 = .ok (.aload_n 0, 1) := by decide +kernel
theorem dX12_init_35 : decode cX12_init 35 = .ok (.bipush 16, 2) := by decide +kernel
theorem dX12_init_37 : decode cX12_init 37 = .ok (.newarray .int, 2) := by decide +kernel
theorem dX12_init_39 : decode cX12_init 39 = .ok (.putfield 23, 3) := by decide +kernel
theorem dX12_init_42 : decode cX12_init 42 = .ok (.aload_n 0, 1) := by decide +kernel
theorem dX12_init_43 : decode cX12_init 43 = .ok (.bipush 104, 2) := by decide +kernel
theorem dX12_init_45 : decode cX12_init 45 = .ok (.newarray .int, 2) := by decide +kernel
theorem dX12_init_47 : decode cX12_init 47 = .ok (.putfield 26, 3) := by decide +kernel
theorem dX12_init_50 : decode cX12_init 50 = .ok (.aload_n 0, 1) := by decide +kernel
theorem dX12_init_51 : decode cX12_init 51 = .ok (.sipush 648, 3) := by decide +kernel
theorem dX12_init_54 : decode cX12_init 54 = .ok (.newarray .int, 2) := by decide +kernel
theorem dX12_init_56 : decode cX12_init 56 = .ok (.putfield 29, 3) := by decide +kernel
theorem dX12_init_59 : decode cX12_init 59 = .ok (.aload_n 0, 1) := by decide +kernel
theorem dX12_init_60 : decode cX12_init 60 = .ok (.sipush 136, 3) := by decide +kernel
theorem dX12_init_63 : decode cX12_init 63 = .ok (.newarray .int, 2) := by decide +kernel
theorem dX12_init_65 : decode cX12_init 65 = .ok (.putfield 32, 3) := by decide +kernel
theorem dX12_init_68 : decode cX12_init 68 = .ok (.aload_n 0, 1) := by decide +kernel
theorem dX12_init_69 : decode cX12_init 69 = .ok (.bipush 56, 2) := by decide +kernel
theorem dX12_init_71 : decode cX12_init 71 = .ok (.newarray .int, 2) := by decide +kernel
theorem dX12_init_73 : decode cX12_init 73 = .ok (.putfield 35, 3) := by decide +kernel
theorem dX12_init_76 : decode cX12_init 76 = .ok (.aload_n 0, 1) := by decide +kernel
theorem dX12_init_77 : decode cX12_init 77 = .ok (.bipush 81, 2) := by decide +kernel
theorem dX12_init_79 : decode cX12_init 79 = .ok (.newarray .int, 2) := by decide +kernel
theorem dX12_init_81 : decode cX12_init 81 = .ok (.putfield 38, 3) := by decide +kernel
theorem dX12_init_84 : decode cX12_init 84 = .ok (.aload_n 0, 1) := by decide +kernel
theorem dX12_init_85 : decode cX12_init 85 = .ok (.iconst 2, 1) := by decide +kernel
theorem dX12_init_86 : decode cX12_init 86 = .ok (.newarray .int, 2) := by decide +kernel
theorem dX12_init_88 : decode cX12_init 88 = .ok (.putfield 41, 3) := by decide +kernel
theorem dX12_init_91 : decode cX12_init 91 = .ok (.aload_n 0, 1) := by decide +kernel
theorem dX12_init_92 : decode cX12_init 92 = .ok (.iconst 4, 1) := by decide +kernel
theorem dX12_init_93 : decode cX12_init 93 = .ok (.newarray .int, 2) := by decide +kernel
theorem dX12_init_95 : decode cX12_init 95 = .ok (.putfield 44, 3) := by decide +kernel
theorem dX12_init_98 : decode cX12_init 98 = .ok (.aload_n 0, 1) := by decide +kernel
theorem dX12_init_99 : decode cX12_init 99 = .ok (.iconst 4, 1) := by decide +kernel
theorem dX12_init_100 : decode cX12_init 100 = .ok (.newarray .int, 2) := by decide +kernel
theorem dX12_init_102 : decode cX12_init 102 = .ok (.putfield 47, 3) := by decide +kernel
theorem dX12_init_105 : decode cX12_init 105 = .ok (.aload_n 0, 1) := by decide +kernel
theorem dX12_init_106 : decode cX12_init 106 = .ok (.iconst 4, 1) := by decide +kernel
theorem dX12_init_107 : decode cX12_init 107 = .ok (.newarray .int, 2) := by decide +kernel
theorem dX12_init_109 : decode cX12_init 109 = .ok (.putfield 50, 3) := by decide +kernel
theorem dX12_init_112 : decode cX12_init 112 = .ok (.aload_n 0, 1) := by decide +kernel
theorem dX12_init_113 : decode cX12_init 113 = .ok (.bipush 100, 2) := by decide +kernel
theorem dX12_init_115 : decode cX12_init 115 = .ok (.newarray .int, 2) := by decide +kernel
theorem dX12_init_117 : decode cX12_init 117 = .ok (.putfield 53, 3) := by decide +kernel
theorem dX12_init_120 : decode cX12_init 120 = .ok (.aload_n 0, 1) := by decide +kernel
theorem dX12_init_121 : decode cX12_init 121 = .ok (.ldc 56, 2) := by decide +kernel
theorem dX12_init_123 : decode cX12_init 123 = .ok (.newarray .int, 2) := by decide +kernel
theorem dX12_init_125 : decode cX12_init 125 = .ok (.putfield 57, 3) := by decide +kernel
theorem dX12_init_128 : decode cX12_init 128 = .ok (.aload_n 0, 1) := by decide +kernel
theorem dX12_init_129 : decode cX12_init 129 = .ok (.bipush 30, 2) := by decide +kernel
theorem dX12_init_131 : decode cX12_init 131 = .ok (.newarray .int, 2) := by decide +kernel
theorem dX12_init_133 : decode cX12_init 133 = .ok (.putfield 60, 3) := by decide +kernel
theorem dX12_init_136 : decode cX12_init 136 = .ok (.aload_n 0, 1) := by decide +kernel
theorem dX12_init_137 : decode cX12_init 137 = .ok (.bipush 30, 2) := by decide +kernel
theorem dX12_init_139 : decode cX12_init 139 = .ok (.newarray .int, 2) := by decide +kernel
theorem dX12_init_141 : decode cX12_init 141 = .ok (.putfield 63, 3) := by decide +kernel
theorem dX12_init_144 : decode cX12_init 144 = .ok (.aload_n 0, 1) := by decide +kernel
theorem dX12_init_145 : decode cX12_init 145 = .ok (.ldc 56, 2) := by decide +kernel
theorem dX12_init_147 : decode cX12_init 147 = .ok (.newarray .int, 2) := by decide +kernel
theorem dX12_init_149 : decode cX12_init 149 = .ok (.putfield 66, 3) := by decide +kernel
theorem dX12_init_152 : decode cX12_init 152 = .ok (.aload_n 0, 1) := by decide +kernel
theorem dX12_init_153 : decode cX12_init 153 = .ok (.ldc 69, 2) := by decide +kernel
theorem dX12_init_155 : decode cX12_init 155 = .ok (.newarray .int, 2) := by decide +kernel
theorem dX12_init_157 : decode cX12_init 157 = .ok (.putfield 70, 3) := by decide +kernel
theorem dX12_init_160 : decode cX12_init 160 = .ok (.aload_n 0, 1) := by decide +kernel
theorem dX12_init_161 : decode cX12_init 161 = .ok (.sipush 4096, 3) := by decide +kernel
theorem dX12_init_164 : decode cX12_init 164 = .ok (.newarray .int, 2) := by decide +kernel
theorem dX12_init_166 : decode cX12_init 166 = .ok (.putfield 73, 3) := by decide +kernel
theorem dX12_init_169 : decode cX12_init 169 = .ok (.aload_n 0, 1) := by decide +kernel
theorem dX12_init_170 : decode cX12_init 170 = .ok (.sipush 4097, 3) := by decide +kernel
theorem dX12_init_173 : decode cX12_init 173 = .ok (.newarray .int, 2) := by decide +kernel
theorem dX12_init_175 : decode cX12_init 175 = .ok (.putfield 76, 3) := by decide +kernel
theorem dX12_init_178 : decode cX12_init 178 = .ok (.aload_n 0, 1) := by decide +kernel
theorem dX12_init_179 : decode cX12_init 179 = .ok (.ldc 79, 2) := by decide +kernel
theorem dX12_init_181 : decode cX12_init 181 = .ok (.newarray .long, 2) := by decide +kernel
theorem dX12_init_183 : decode cX12_init 183 = .ok (.putfield 80, 3) := by decide +kernel
theorem dX12_init_186 : decode cX12_init 186 = .ok (.aload_n 0, 1) := by decide +kernel
theorem dX12_init_187 : decode cX12_init 187 = .ok (.ldc 84, 2) := by decide +kernel
theorem dX12_init_189 : decode cX12_init 189 = .ok (.newarray .int, 2) := by decide +kernel
theorem dX12_init_191 : decode cX12_init 191 = .ok (.putfield 85, 3) := by decide +kernel
theorem dX12_init_194 : decode cX12_init 194 = .ok (.aload_n 0, 1) := by decide +kernel
theorem dX12_init_195 : decode cX12_init 195 = .ok (.iconst 4, 1) := by decide +kernel
theorem dX12_init_196 : decode cX12_init 196 = .ok (.newarray .int, 2) := by decide +kernel
theorem dX12_init_198 : decode cX12_init 198 = .ok (.putfield 88, 3) := by decide +kernel
theorem dX12_init_201 : decode cX12_init 201 = .ok (.aload_n 0, 1) := by decide +kernel
theorem dX12_init_202 : decode cX12_init 202 = .ok (.bipush 41, 2) := by decide +kernel
theorem dX12_init_204 : decode cX12_init 204 = .ok (.newarray .int, 2) := by decide +kernel
theorem dX12_init_206 : decode cX12_init 206 = .ok (.putfield 91, 3) := by decide +kernel
theorem dX12_init_209 : decode cX12_init 209 = .ok (.aload_n 0, 1) := by decide +kernel
theorem dX12_init_210 : decode cX12_init 210 = .ok (.iconst 3, 1) := by decide +kernel
theorem dX12_init_211 : decode cX12_init 211 = .ok (.newarray .boolean, 2) := by decide +kernel
theorem dX12_init_213 : decode cX12_init 213 = .ok (.putfield 94, 3) := by decide +kernel
theorem dX12_init_216 : decode cX12_init 216 = .ok (.aload_n 0, 1) := by decide +kernel
theorem dX12_init_217 : decode cX12_init 217 = .ok (.getfield 20, 3) := by decide +kernel
theorem dX12_init_220 : decode cX12_init 220 = .ok (.iconst 0, 1) := by decide +kernel
theorem dX12_init_221 : decode cX12_init 221 = .ok (.iconst (-1), 1) := by decide +kernel
theorem dX12_init_222 : decode cX12_init 222 = .ok (.iastore, 1) := by decide +kernel
theorem dX12_init_223 : decode cX12_init 223 = .ok (.return_, 1) := by decide +kernel
theorem dX12_in_0 : decode cX12_in 0 = .ok (.iload_n 0, 1) := by decide +kernel
theorem dX12_in_1 : decode cX12_in 1 = .ok (.iload_n 1, 1) := by decide +kernel
theorem dX12_in_2 : decode cX12_in 2 = .ok (.if_icmp .lt 12, 3) := by decide +kernel
theorem dX12_in_5 : decode cX12_in 5 = .ok (.iload_n 0, 1) := by decide +kernel
theorem dX12_in_6 : decode cX12_in 6 = .ok (.iload_n 2, 1) := by decide +kernel
theorem dX12_in_7 : decode cX12_in 7 = .ok (.if_icmp .gt 7, 3) := by decide +kernel
theorem dX12_in_10 : decode cX12_in 10 = .ok (.iconst 1, 1) := by decide +kernel
theorem dX12_in_11 : decode cX12_in 11 = .ok (.goto 4, 3) := by decide +kernel
theorem dX12_in_14 : decode cX12_in 14 = .ok (.iconst 0, 1) := by decide +kernel
theorem dX12_in_15 : decode cX12_in 15 = .ok (.ireturn, 1) := by decide +kernel
theorem dX12_has_0 : decode cX12_has 0 = .ok (.iload_n 0, 1) := by decide +kernel
theorem dX12_has_1 : decode cX12_has 1 = .ok (.iload_n 1, 1) := by decide +kernel
theorem dX12_has_2 : decode cX12_has 2 = .ok (.ishr, 1) := by decide +kernel
theorem dX12_has_3 : decode cX12_has 3 = .ok (.iconst 1, 1) := by decide +kernel
theorem dX12_has_4 : decode cX12_has 4 = .ok (.iand, 1) := by decide +kernel
theorem dX12_has_5 : decode cX12_has 5 = .ok (.iconst 1, 1) := by decide +kernel
theorem dX12_has_6 : decode cX12_has 6 = .ok (.if_icmp .ne 7, 3) := by decide +kernel
theorem dX12_has_9 : decode cX12_has 9 = .ok (.iconst 1, 1) := by decide +kernel
theorem dX12_has_10 : decode cX12_has 10 = .ok (.goto 4, 3) := by decide +kernel
theorem dX12_has_13 : decode cX12_has 13 = .ok (.iconst 0, 1) := by decide +kernel
theorem dX12_has_14 : decode cX12_has 14 = .ok (.ireturn, 1) := by decide +kernel
theorem dX12_greater_0 : decode cX12_greater 0 = .ok (.iload_n 0, 1) := by decide +kernel
theorem dX12_greater_1 : decode cX12_greater 1 = .ok (.iload_n 1, 1) := by decide +kernel
theorem dX12_greater_2 : decode cX12_greater 2 = .ok (.if_icmp .le 7, 3) := by decide +kernel
theorem dX12_greater_5 : decode cX12_greater 5 = .ok (.iload_n 0, 1) := by decide +kernel
theorem dX12_greater_6 : decode cX12_greater 6 = .ok (.goto 4, 3) := by decide +kernel
theorem dX12_greater_9 : decode cX12_greater 9 = .ok (.iload_n 1, 1) := by decide +kernel
theorem dX12_greater_10 : decode cX12_greater 10 = .ok (.ireturn, 1) := by decide +kernel
theorem dX12_lesser_0 : decode cX12_lesser 0 = .ok (.iload_n 0, 1) := by decide +kernel
theorem dX12_lesser_1 : decode cX12_lesser 1 = .ok (.iload_n 1, 1) := by decide +kernel
theorem dX12_lesser_2 : decode cX12_lesser 2 = .ok (.if_icmp .ge 7, 3) := by decide +kernel
theorem dX12_lesser_5 : decode cX12_lesser 5 = .ok (.iload_n 0, 1) := by decide +kernel
theorem dX12_lesser_6 : decode cX12_lesser 6 = .ok (.goto 4, 3) := by decide +kernel
theorem dX12_lesser_9 : decode cX12_lesser 9 = .ok (.iload_n 1, 1) := by decide +kernel
theorem dX12_lesser_10 : decode cX12_lesser 10 = .ok (.ireturn, 1) := by decide +kernel
set_option maxRecDepth 20000 in
theorem ggX12_ones_X12_has : GoodIn wsX12_ones wsX12_has := goodIn_r _ [4] (by decide +kernel) (by decide +kernel)
set_option maxRecDepth 20000 in
theorem gX12_ones_X12_has : GoodIn wsX12_ones (va_wsS RX12 102 yX12_has wsX12_has) := goodIn_app (goodIn_of _ (by decide +kernel)) ggX12_ones_X12_has
theorem dX12_ones_0 : decode cX12_ones 0 = .ok (.iconst 0, 1) := by decide +kernel
theorem dX12_ones_1 : decode cX12_ones 1 = .ok (.istore_n 1, 1) := by decide +kernel
theorem dX12_ones_2 : decode cX12_ones 2 = .ok (.iconst 0, 1) := by decide +kernel
theorem dX12_ones_3 : decode cX12_ones 3 = .ok (.istore_n 2, 1) := by decide +kernel
theorem dX12_ones_4 : decode cX12_ones 4 = .ok (.iload_n 2, 1) := by decide +kernel
theorem dX12_ones_5 : decode cX12_ones 5 = .ok (.iconst 4, 1) := by decide +kernel
theorem dX12_ones_6 : decode cX12_ones 6 = .ok (.if_icmp .ge 25, 3) := by decide +kernel
theorem dX12_ones_9 : decode cX12_ones 9 = .ok (.iload_n 1, 1) := by decide +kernel
theorem dX12_ones_10 : decode cX12_ones 10 = .ok (.iload_n 0, 1) := by decide +kernel
theorem dX12_ones_11 : decode cX12_ones 11 = .ok (.iload_n 2, 1) := by decide +kernel
theorem dX12_ones_12 : decode cX12_ones 12 = .ok (.invokestatic 102, 3) := by decide +kernel
theorem dX12_ones_15 : decode cX12_ones 15 = .ok (.ifCond .eq 7, 3) := by decide +kernel
theorem dX12_ones_18 : decode cX12_ones 18 = .ok (.iconst 1, 1) := by decide +kernel
theorem dX12_ones_19 : decode cX12_ones 19 = .ok (.goto 4, 3) := by decide +kernel
theorem dX12_ones_22 : decode cX12_ones 22 = .ok (.iconst 0, 1) := by decide +kernel
theorem dX12_ones_23 : decode cX12_ones 23 = .ok (.iadd, 1) := by decide +kernel
theorem dX12_ones_24 : decode cX12_ones 24 = .ok (.istore_n 1, 1) := by decide +kernel
theorem dX12_ones_25 : decode cX12_ones 25 = .ok (.iinc 2 1, 3) := by decide +kernel
theorem dX12_ones_28 : decode cX12_ones 28 = .ok (.goto (-24), 3) := by decide +kernel
theorem dX12_ones_31 : decode cX12_ones 31 = .ok (.iload_n 1, 1) := by decide +kernel
theorem dX12_ones_32 : decode cX12_ones 32 = .ok (.ireturn, 1) := by decide +kernel
theorem dX12_copyRow_0 : decode cX12_copyRow 0 = .ok (.iconst 0, 1) := by decide +kernel
theorem dX12_copyRow_1 : decode cX12_copyRow 1 = .ok (.istore 4, 2) := by decide +kernel
theorem dX12_copyRow_3 : decode cX12_copyRow 3 = .ok (.iload 4, 2) := by decide +kernel
theorem dX12_copyRow_5 : decode cX12_copyRow 5 = .ok (.iload_n 1, 1) := by decide +kernel
theorem dX12_copyRow_6 : decode cX12_copyRow 6 = .ok (.if_icmp .ge 25, 3) := by decide +kernel
theorem dX12_copyRow_9 : decode cX12_copyRow 9 = .ok (.aload_n 0, 1) := by decide +kernel
theorem dX12_copyRow_10 : decode cX12_copyRow 10 = .ok (.iload_n 1, 1) := by decide +kernel
theorem dX12_copyRow_11 : decode cX12_copyRow 11 = .ok (.iload_n 3, 1) := by decide +kernel
theorem dX12_copyRow_12 : decode cX12_copyRow 12 = .ok (.imul, 1) := by decide +kernel
theorem dX12_copyRow_13 : decode cX12_copyRow 13 = .ok (.iload 4, 2) := by decide +kernel
theorem dX12_copyRow_15 : decode cX12_copyRow 15 = .ok (.iadd, 1) := by decide +kernel
theorem dX12_copyRow_16 : decode cX12_copyRow 16 = .ok (.aload_n 0, 1) := by decide +kernel
theorem dX12_copyRow_17 : decode cX12_copyRow 17 = .ok (.iload_n 1, 1) := by decide +kernel
theorem dX12_copyRow_18 : decode cX12_copyRow 18 = .ok (.iload_n 2, 1) := by decide +kernel
theorem dX12_copyRow_19 : decode cX12_copyRow 19 = .ok (.imul, 1) := by decide +kernel
theorem dX12_copyRow_20 : decode cX12_copyRow 20 = .ok (.iload 4, 2) := by decide +kernel
theorem dX12_copyRow_22 : decode cX12_copyRow 22 = .ok (.iadd, 1) := by decide +kernel
theorem dX12_copyRow_23 : decode cX12_copyRow 23 = .ok (.iaload, 1) := by decide +kernel
theorem dX12_copyRow_24 : decode cX12_copyRow 24 = .ok (.iastore, 1) := by decide +kernel
theorem dX12_copyRow_25 : decode cX12_copyRow 25 = .ok (.iinc 4 1, 3) := by decide +kernel
theorem dX12_copyRow_28 : decode cX12_copyRow 28 = .ok (.goto (-25), 3) := by decide +kernel
theorem dX12_copyRow_31 : decode cX12_copyRow 31 = .ok (.return_, 1) := by decide +kernel
set_option maxRecDepth 20000 in
theorem ggX12_copyAll_X12_copyRow : GoodIn wsX12_copyAll wsX12_copyRow := goodIn_r _ [13] (by decide +kernel) (by decide +kernel)
set_option maxRecDepth 20000 in
theorem gX12_copyAll_X12_copyRow : GoodIn wsX12_copyAll (va_wsS RX12 106 yX12_copyRow wsX12_copyRow) := goodIn_app (goodIn_of _ (by decide +kernel)) ggX12_copyAll_X12_copyRow
theorem dX12_copyAll_0 : decode cX12_copyAll 0 = .ok (.iconst 0, 1) := by decide +kernel
theorem dX12_copyAll_1 : decode cX12_copyAll 1 = .ok (.istore_n 3, 1) := by decide +kernel
theorem dX12_copyAll_2 : decode cX12_copyAll 2 = .ok (.iload_n 3, 1) := by decide +kernel
theorem dX12_copyAll_3 : decode cX12_copyAll 3 = .ok (.sipush 600, 3) := by decide +kernel
theorem dX12_copyAll_6 : decode cX12_copyAll 6 = .ok (.if_icmp .ge 33, 3) := by decide +kernel
theorem dX12_copyAll_9 : decode cX12_copyAll 9 = .ok (.aload_n 0, 1) := by decide +kernel
theorem dX12_copyAll_10 : decode cX12_copyAll 10 = .ok (.getfield 7, 3) := by decide +kernel
theorem dX12_copyAll_13 : decode cX12_copyAll 13 = .ok (.sipush 600, 3) := by decide +kernel
theorem dX12_copyAll_16 : decode cX12_copyAll 16 = .ok (.iload_n 2, 1) := by decide +kernel
theorem dX12_copyAll_17 : decode cX12_copyAll 17 = .ok (.imul, 1) := by decide +kernel
theorem dX12_copyAll_18 : decode cX12_copyAll 18 = .ok (.iload_n 3, 1) := by decide +kernel
theorem dX12_copyAll_19 : decode cX12_copyAll 19 = .ok (.iadd, 1) := by decide +kernel
theorem dX12_copyAll_20 : decode cX12_copyAll 20 = .ok (.aload_n 0, 1) := by decide +kernel
theorem dX12_copyAll_21 : decode cX12_copyAll 21 = .ok (.getfield 7, 3) := by decide +kernel
theorem dX12_copyAll_24 : decode cX12_copyAll 24 = .ok (.sipush 600, 3) := by decide +kernel
theorem dX12_copyAll_27 : decode cX12_copyAll 27 = .ok (.iload_n 1, 1) := by decide +kernel
theorem dX12_copyAll_28 : decode cX12_copyAll 28 = .ok (.imul, 1) := by decide +kernel
theorem dX12_copyAll_29 : decode cX12_copyAll 29 = .ok (.iload_n 3, 1) := by decide +kernel
theorem dX12_copyAll_30 : decode cX12_copyAll 30 = .ok (.iadd, 1) := by decide +kernel
theorem dX12_copyAll_31 : decode cX12_copyAll 31 = .ok (.baload, 1) := by decide +kernel
theorem dX12_copyAll_32 : decode cX12_copyAll 32 = .ok (.bastore, 1) := by decide +kernel
theorem dX12_copyAll_33 : decode cX12_copyAll 33 = .ok (.iinc 3 1, 3) := by decide +kernel
theorem dX12_copyAll_36 : decode cX12_copyAll 36 = .ok (.goto (-34), 3) := by decide +kernel
theorem dX12_copyAll_39 : decode cX12_copyAll 39 = .ok (.aload_n 0, 1) := by decide +kernel
theorem dX12_copyAll_40 : decode cX12_copyAll 40 = .ok (.getfield 13, 3) := by decide +kernel
theorem dX12_copyAll_43 : decode cX12_copyAll 43 = .ok (.iconst 1, 1) := by decide +kernel
theorem dX12_copyAll_44 : decode cX12_copyAll 44 = .ok (.iload_n 1, 1) := by decide +kernel
theorem dX12_copyAll_45 : decode cX12_copyAll 45 = .ok (.iload_n 2, 1) := by decide +kernel
theorem dX12_copyAll_46 : decode cX12_copyAll 46 = .ok (.invokestatic 106, 3) := by decide +kernel
theorem dX12_copyAll_49 : decode cX12_copyAll 49 = .ok (.aload_n 0, 1) := by decide +kernel
theorem dX12_copyAll_50 : decode cX12_copyAll 50 = .ok (.getfield 17, 3) := by decide +kernel
theorem dX12_copyAll_53 : decode cX12_copyAll 53 = .ok (.iconst 1, 1) := by decide +kernel
theorem dX12_copyAll_54 : decode cX12_copyAll 54 = .ok (.iload_n 1, 1) := by decide +kernel
theorem dX12_copyAll_55 : decode cX12_copyAll 55 = .ok (.iload_n 2, 1) := by decide +kernel
theorem dX12_copyAll_56 : decode cX12_copyAll 56 = .ok (.invokestatic 106, 3) := by decide +kernel
theorem dX12_copyAll_59 : decode cX12_copyAll 59 = .ok (.aload_n 0, 1) := by decide +kernel
theorem dX12_copyAll_60 : decode cX12_copyAll 60 = .ok (.getfield 20, 3) := by decide +kernel
theorem dX12_copyAll_63 : decode cX12_copyAll 63 = .ok (.iconst 1, 1) := by decide +kernel
theorem dX12_copyAll_64 : decode cX12_copyAll 64 = .ok (.iload_n 1, 1) := by decide +kernel
theorem dX12_copyAll_65 : decode cX12_copyAll 65 = .ok (.iload_n 2, 1) := by decide +kernel
theorem dX12_copyAll_66 : decode cX12_copyAll 66 = .ok (.invokestatic 106, 3) := by decide +kernel
theorem dX12_copyAll_69 : decode cX12_copyAll 69 = .ok (.aload_n 0, 1) := by decide +kernel
theorem dX12_copyAll_70 : decode cX12_copyAll 70 = .ok (.getfield 23, 3) := by decide +kernel
theorem dX12_copyAll_73 : decode cX12_copyAll 73 = .ok (.iconst 4, 1) := by decide +kernel
theorem dX12_copyAll_74 : decode cX12_copyAll 74 = .ok (.iload_n 1, 1) := by decide +kernel
theorem dX12_copyAll_75 : decode cX12_copyAll 75 = .ok (.iload_n 2, 1) := by decide +kernel
theorem dX12_copyAll_76 : decode cX12_copyAll 76 = .ok (.invokestatic 106, 3) := by decide +kernel
theorem dX12_copyAll_79 : decode cX12_copyAll 79 = .ok (.aload_n 0, 1) := by decide +kernel
theorem dX12_copyAll_80 : decode cX12_copyAll 80 = .ok (.getfield 26, 3) := by decide +kernel
theorem dX12_copyAll_83 : decode cX12_copyAll 83 = .ok (.bipush 26, 2) := by decide +kernel
theorem dX12_copyAll_85 : decode cX12_copyAll 85 = .ok (.iload_n 1, 1) := by decide +kernel
theorem dX12_copyAll_86 : decode cX12_copyAll 86 = .ok (.iload_n 2, 1) := by decide +kernel
theorem dX12_copyAll_87 : decode cX12_copyAll 87 = .ok (.invokestatic 106, 3) := by decide +kernel
theorem dX12_copyAll_90 : decode cX12_copyAll 90 = .ok (.aload_n 0, 1) := by decide +kernel
theorem dX12_copyAll_91 : decode cX12_copyAll 91 = .ok (.getfield 29, 3) := by decide +kernel
theorem dX12_copyAll_94 : decode cX12_copyAll 94 = .ok (.sipush 162, 3) := by decide +kernel
theorem dX12_copyAll_97 : decode cX12_copyAll 97 = .ok (.iload_n 1, 1) := by decide +kernel
theorem dX12_copyAll_98 : decode cX12_copyAll 98 = .ok (.iload_n 2, 1) := by decide +kernel
theorem dX12_copyAll_99 : decode cX12_copyAll 99 = .ok (.invokestatic 106, 3) := by decide +kernel
theorem dX12_copyAll_102 : decode cX12_copyAll 102 = .ok (.aload_n 0, 1) := by decide +kernel
theorem dX12_copyAll_103 : decode cX12_copyAll 103 = .ok (.getfield 32, 3) := by decide +kernel
theorem dX12_copyAll_106 : decode cX12_copyAll 106 = .ok (.bipush 34, 2) := by decide +kernel
theorem dX12_copyAll_108 : decode cX12_copyAll 108 = .ok (.iload_n 1, 1) := by decide +kernel
theorem dX12_copyAll_109 : decode cX12_copyAll 109 = .ok (.iload_n 2, 1) := by decide +kernel
theorem dX12_copyAll_110 : decode cX12_copyAll 110 = .ok (.invokestatic 106, 3) := by decide +kernel
theorem dX12_copyAll_113 : decode cX12_copyAll 113 = .ok (.aload_n 0, 1) := by decide +kernel
theorem dX12_copyAll_114 : decode cX12_copyAll 114 = .ok (.getfield 35, 3) := by decide +kernel
theorem dX12_copyAll_117 : decode cX12_copyAll 117 = .ok (.bipush 14, 2) := by decide +kernel
theorem dX12_copyAll_119 : decode cX12_copyAll 119 = .ok (.iload_n 1, 1) := by decide +kernel
theorem dX12_copyAll_120 : decode cX12_copyAll 120 = .ok (.iload_n 2, 1) := by decide +kernel
theorem dX12_copyAll_121 : decode cX12_copyAll 121 = .ok (.invokestatic 106, 3) := by decide +kernel
theorem dX12_copyAll_124 : decode cX12_copyAll 124 = .ok (.return_, 1) := by decide +kernel
set_option maxRecDepth 20000 in
theorem ggX12_is_X12_in : GoodIn wsX12_is wsX12_in := goodIn_r _ [5] (by decide +kernel) (by decide +kernel)
set_option maxRecDepth 20000 in
theorem gX12_is_X12_in : GoodIn wsX12_is (va_wsS RX12 110 yX12_in wsX12_in) := goodIn_app (goodIn_of _ (by decide +kernel)) ggX12_is_X12_in
theorem dX12_is_0 : decode cX12_is 0 = .ok (.iload_n 2, 1) := by decide +kernel
theorem dX12_is_1 : decode cX12_is 1 = .ok (.iconst 0, 1) := by decide +kernel
theorem dX12_is_2 : decode cX12_is 2 = .ok (.aload_n 0, 1) := by decide +kernel
theorem dX12_is_3 : decode cX12_is 3 = .ok (.getfield 23, 3) := by decide +kernel
theorem dX12_is_6 : decode cX12_is 6 = .ok (.iload_n 1, 1) := by decide +kernel
theorem dX12_is_7 : decode cX12_is 7 = .ok (.iaload, 1) := by decide +kernel
theorem dX12_is_8 : decode cX12_is 8 = .ok (.iconst 1, 1) := by decide +kernel
theorem dX12_is_9 : decode cX12_is 9 = .ok (.isub, 1) := by decide +kernel
theorem dX12_is_10 : decode cX12_is 10 = .ok (.invokestatic 110, 3) := by decide +kernel
theorem dX12_is_13 : decode cX12_is 13 = .ok (.ireturn, 1) := by decide +kernel
set_option maxRecDepth 20000 in
theorem ggX12_feed_X12_four : GoodIn wsX12_feed wsX12_four := goodIn_r _ [7, 8, 2, 9, 10, 11, 12, 13, 14, 15, 16, 17, 18, 19, 20, 21, 22, 23, 24, 25, 26, 27, 28, 29, 30, 31, 32, 33, 34, 35, 36, 37, 38, 39, 40, 41, 42, 43, 44, 45, 46, 47, 48, 49, 50, 51, 52, 53, 54, 55, 56, 57, 58, 59, 60, 61, 62, 63, 64, 65, 66, 67, 68, 69] (by decide +kernel) (by decide +kernel)
set_option maxRecDepth 20000 in
theorem gX12_feed_X12_four : GoodIn wsX12_feed (wsV RX12 114 RX12 yX12_four wsX12_four) := goodIn_app (goodIn_of _ (by decide +kernel)) ggX12_feed_X12_four
theorem dX12_feed_0 : decode cX12_feed 0 = .ok (.aload_n 0, 1) := by decide +kernel
theorem dX12_feed_1 : decode cX12_feed 1 = .ok (.iconst 0, 1) := by decide +kernel
theorem dX12_feed_2 : decode cX12_feed 2 = .ok (.putfield 98, 3) := by decide +kernel
theorem dX12_feed_5 : decode cX12_feed 5 = .ok (.aload_n 0, 1) := by decide +kernel
theorem dX12_feed_6 : decode cX12_feed 6 = .ok (.getfield 13, 3) := by decide +kernel
theorem dX12_feed_9 : decode cX12_feed 9 = .ok (.iconst 0, 1) := by decide +kernel
theorem dX12_feed_10 : decode cX12_feed 10 = .ok (.iaload, 1) := by decide +kernel
theorem dX12_feed_11 : decode cX12_feed 11 = .ok (.bipush 20, 2) := by decide +kernel
theorem dX12_feed_13 : decode cX12_feed 13 = .ok (.iadd, 1) := by decide +kernel
theorem dX12_feed_14 : decode cX12_feed 14 = .ok (.sipush 600, 3) := by decide +kernel
theorem dX12_feed_17 : decode cX12_feed 17 = .ok (.if_icmp .le 5, 3) := by decide +kernel
theorem dX12_feed_20 : decode cX12_feed 20 = .ok (.iconst (-1), 1) := by decide +kernel
theorem dX12_feed_21 : decode cX12_feed 21 = .ok (.ireturn, 1) := by decide +kernel
theorem dX12_feed_22 : decode cX12_feed 22 = .ok (.aload_n 0, 1) := by decide +kernel
theorem dX12_feed_23 : decode cX12_feed 23 = .ok (.iload_n 1, 1) := by decide +kernel
theorem dX12_feed_24 : decode cX12_feed 24 = .ok (.invokevirtual 114, 3) := by decide +kernel
theorem dX12_feed_27 : decode cX12_feed 27 = .ok (.aload_n 0, 1) := by decide +kernel
theorem dX12_feed_28 : decode cX12_feed 28 = .ok (.iload_n 2, 1) := by decide +kernel
theorem dX12_feed_29 : decode cX12_feed 29 = .ok (.invokevirtual 114, 3) := by decide +kernel
theorem dX12_feed_32 : decode cX12_feed 32 = .ok (.aload_n 0, 1) := by decide +kernel
theorem dX12_feed_33 : decode cX12_feed 33 = .ok (.iload_n 3, 1) := by decide +kernel
theorem dX12_feed_34 : decode cX12_feed 34 = .ok (.invokevirtual 114, 3) := by decide +kernel
theorem dX12_feed_37 : decode cX12_feed 37 = .ok (.aload_n 0, 1) := by decide +kernel
theorem dX12_feed_38 : decode cX12_feed 38 = .ok (.iload 4, 2) := by decide +kernel
theorem dX12_feed_40 : decode cX12_feed 40 = .ok (.invokevirtual 114, 3) := by decide +kernel
theorem dX12_feed_43 : decode cX12_feed 43 = .ok (.aload_n 0, 1) := by decide +kernel
theorem dX12_feed_44 : decode cX12_feed 44 = .ok (.iload 5, 2) := by decide +kernel
theorem dX12_feed_46 : decode cX12_feed 46 = .ok (.invokevirtual 114, 3) := by decide +kernel
theorem dX12_feed_49 : decode cX12_feed 49 = .ok (.aload_n 0, 1) := by decide +kernel
theorem dX12_feed_50 : decode cX12_feed 50 = .ok (.getfield 13, 3) := by decide +kernel
theorem dX12_feed_53 : decode cX12_feed 53 = .ok (.iconst 0, 1) := by decide +kernel
theorem dX12_feed_54 : decode cX12_feed 54 = .ok (.iaload, 1) := by decide +kernel
theorem dX12_feed_55 : decode cX12_feed 55 = .ok (.ireturn, 1) := by decide +kernel
theorem dX12_four_0 : decode cX12_four 0 = .ok (.bipush 24, 2) := by decide +kernel
theorem dX12_four_2 : decode cX12_four 2 = .ok (.istore_n 2, 1) := by decide +kernel
theorem dX12_four_3 : decode cX12_four 3 = .ok (.iload_n 2, 1) := by decide +kernel
theorem dX12_four_4 : decode cX12_four 4 = .ok (.ifCond .lt 34, 3) := by decide +kernel
theorem dX12_four_7 : decode cX12_four 7 = .ok (.aload_n 0, 1) := by decide +kernel
theorem dX12_four_8 : decode cX12_four 8 = .ok (.getfield 7, 3) := by decide +kernel
theorem dX12_four_11 : decode cX12_four 11 = .ok (.aload_n 0, 1) := by decide +kernel
theorem dX12_four_12 : decode cX12_four 12 = .ok (.getfield 13, 3) := by decide +kernel
theorem dX12_four_15 : decode cX12_four 15 = .ok (.iconst 0, 1) := by decide +kernel
theorem dX12_four_16 : decode cX12_four 16 = .ok (.iaload, 1) := by decide +kernel
theorem dX12_four_17 : decode cX12_four 17 = .ok (.iload_n 1, 1) := by decide +kernel
theorem dX12_four_18 : decode cX12_four 18 = .ok (.iload_n 2, 1) := by decide +kernel
theorem dX12_four_19 : decode cX12_four 19 = .ok (.ishr, 1) := by decide +kernel
theorem dX12_four_20 : decode cX12_four 20 = .ok (.i2b, 1) := by decide +kernel
theorem dX12_four_21 : decode cX12_four 21 = .ok (.bastore, 1) := by decide +kernel
theorem dX12_four_22 : decode cX12_four 22 = .ok (.aload_n 0, 1) := by decide +kernel
theorem dX12_four_23 : decode cX12_four 23 = .ok (.getfield 13, 3) := by decide +kernel
theorem dX12_four_26 : decode cX12_four 26 = .ok (.iconst 0, 1) := by decide +kernel
theorem dX12_four_27 : decode cX12_four 27 = .ok (.dup2, 1) := by decide +kernel
theorem dX12_four_28 : decode cX12_four 28 = .ok (.iaload, 1) := by decide +kernel
theorem dX12_four_29 : decode cX12_four 29 = .ok (.iconst 1, 1) := by decide +kernel
theorem dX12_four_30 : decode cX12_four 30 = .ok (.iadd, 1) := by decide +kernel
theorem dX12_four_31 : decode cX12_four 31 = .ok (.iastore, 1) := by decide +kernel
theorem dX12_four_32 : decode cX12_four 32 = .ok (.iinc 2 (-8), 3) := by decide +kernel
theorem dX12_four_35 : decode cX12_four 35 = .ok (.goto (-32), 3) := by decide +kernel
theorem dX12_four_38 : decode cX12_four 38 = .ok (.return_, 1) := by decide +kernel
set_option maxRecDepth 20000 in
theorem ggX12_end_X12_in : GoodIn wsX12_end wsX12_in := goodIn_r _ [6] (by decide +kernel) (by decide +kernel)
set_option maxRecDepth 20000 in
theorem gX12_end_X12_in : GoodIn wsX12_end (va_wsS RX12 110 yX12_in wsX12_in) := goodIn_app (goodIn_of _ (by decide +kernel)) ggX12_end_X12_in
theorem dX12_end_0 : decode cX12_end 0 = .ok (.aload_n 0, 1) := by decide +kernel
theorem dX12_end_1 : decode cX12_end 1 = .ok (.iconst 0, 1) := by decide +kernel
theorem dX12_end_2 : decode cX12_end 2 = .ok (.putfield 98, 3) := by decide +kernel
theorem dX12_end_5 : decode cX12_end 5 = .ok (.iload_n 1, 1) := by decide +kernel
theorem dX12_end_6 : decode cX12_end 6 = .ok (.iconst 0, 1) := by decide +kernel
theorem dX12_end_7 : decode cX12_end 7 = .ok (.aload_n 0, 1) := by decide +kernel
theorem dX12_end_8 : decode cX12_end 8 = .ok (.getfield 13, 3) := by decide +kernel
theorem dX12_end_11 : decode cX12_end 11 = .ok (.iconst 0, 1) := by decide +kernel
theorem dX12_end_12 : decode cX12_end 12 = .ok (.iaload, 1) := by decide +kernel
theorem dX12_end_13 : decode cX12_end 13 = .ok (.invokestatic 110, 3) := by decide +kernel
theorem dX12_end_16 : decode cX12_end 16 = .ok (.ifCond .ne 5, 3) := by decide +kernel
theorem dX12_end_19 : decode cX12_end 19 = .ok (.iconst (-1), 1) := by decide +kernel
theorem dX12_end_20 : decode cX12_end 20 = .ok (.ireturn, 1) := by decide +kernel
theorem dX12_end_21 : decode cX12_end 21 = .ok (.aload_n 0, 1) := by decide +kernel
theorem dX12_end_22 : decode cX12_end 22 = .ok (.getfield 13, 3) := by decide +kernel
theorem dX12_end_25 : decode cX12_end 25 = .ok (.iconst 0, 1) := by decide +kernel
theorem dX12_end_26 : decode cX12_end 26 = .ok (.iload_n 1, 1) := by decide +kernel
theorem dX12_end_27 : decode cX12_end 27 = .ok (.iastore, 1) := by decide +kernel
theorem dX12_end_28 : decode cX12_end 28 = .ok (.iload_n 1, 1) := by decide +kernel
theorem dX12_end_29 : decode cX12_end 29 = .ok (.ireturn, 1) := by decide +kernel
theorem dX12_see_0 : decode cX12_see 0 = .ok (.aload_n 0, 1) := by decide +kernel
theorem dX12_see_1 : decode cX12_see 1 = .ok (.getfield 118, 3) := by decide +kernel
theorem dX12_see_4 : decode cX12_see 4 = .ok (.aload_n 0, 1) := by decide +kernel
theorem dX12_see_5 : decode cX12_see 5 = .ok (.getfield 121, 3) := by decide +kernel
theorem dX12_see_8 : decode cX12_see 8 = .ok (.if_icmp .ge 19, 3) := by decide +kernel
theorem dX12_see_11 : decode cX12_see 11 = .ok (.aload_n 0, 1) := by decide +kernel
theorem dX12_see_12 : decode cX12_see 12 = .ok (.getfield 7, 3) := by decide +kernel
theorem dX12_see_15 : decode cX12_see 15 = .ok (.aload_n 0, 1) := by decide +kernel
theorem dX12_see_16 : decode cX12_see 16 = .ok (.getfield 118, 3) := by decide +kernel
theorem dX12_see_19 : decode cX12_see 19 = .ok (.baload, 1) := by decide +kernel
theorem dX12_see_20 : decode cX12_see 20 = .ok (.sipush 255, 3) := by decide +kernel
theorem dX12_see_23 : decode cX12_see 23 = .ok (.iand, 1) := by decide +kernel
theorem dX12_see_24 : decode cX12_see 24 = .ok (.goto 4, 3) := by decide +kernel
theorem dX12_see_27 : decode cX12_see 27 = .ok (.iconst (-1), 1) := by decide +kernel
theorem dX12_see_28 : decode cX12_see 28 = .ok (.ireturn, 1) := by decide +kernel
set_option maxRecDepth 20000 in
theorem ggX12_token_X12_see : GoodIn wsX12_token wsX12_see := goodIn_r _ [10, 1, 11, 12, 16, 17, 18, 19, 20, 21, 22, 23, 24, 25, 26, 27, 28, 29, 30, 31, 32, 33, 34, 35, 36, 37, 38, 39, 40, 41, 42, 43, 44, 45, 46, 47, 48, 49, 50, 51, 52, 53, 54, 55, 56, 57, 58, 59, 60, 61, 62, 63, 64, 65, 66, 67, 68, 69, 70, 71, 72, 73, 74, 75, 76] (by decide +kernel) (by decide +kernel)
set_option maxRecDepth 20000 in
theorem gX12_token_X12_see : GoodIn wsX12_token (wsV RX12 124 RX12 yX12_see wsX12_see) := goodIn_app (goodIn_of _ (by decide +kernel)) ggX12_token_X12_see
set_option maxRecDepth 20000 in
theorem ggX12_token_X12_in : GoodIn wsX12_token wsX12_in := goodIn_r _ [15] (by decide +kernel) (by decide +kernel)
set_option maxRecDepth 20000 in
theorem gX12_token_X12_in : GoodIn wsX12_token (va_wsS RX12 110 yX12_in wsX12_in) := goodIn_app (goodIn_of _ (by decide +kernel)) ggX12_token_X12_in
theorem dX12_token_0 : decode cX12_token 0 = .ok (.aload_n 0, 1) := by decide +kernel
theorem dX12_token_1 : decode cX12_token 1 = .ok (.invokevirtual 124, 3) := by decide +kernel
theorem dX12_token_4 : decode cX12_token 4 = .ok (.bipush 10, 2) := by decide +kernel
theorem dX12_token_6 : decode cX12_token 6 = .ok (.if_icmp .eq 12, 3) := by decide +kernel
theorem dX12_token_9 : decode cX12_token 9 = .ok (.aload_n 0, 1) := by decide +kernel
theorem dX12_token_10 : decode cX12_token 10 = .ok (.invokevirtual 124, 3) := by decide +kernel
theorem dX12_token_13 : decode cX12_token 13 = .ok (.bipush 32, 2) := by decide +kernel
theorem dX12_token_15 : decode cX12_token 15 = .ok (.if_icmp .ne 16, 3) := by decide +kernel
theorem dX12_token_18 : decode cX12_token 18 = .ok (.aload_n 0, 1) := by decide +kernel
theorem dX12_token_19 : decode cX12_token 19 = .ok (.dup, 1) := by decide +kernel
theorem dX12_token_20 : decode cX12_token 20 = .ok (.getfield 118, 3) := by decide +kernel
theorem dX12_token_23 : decode cX12_token 23 = .ok (.iconst 1, 1) := by decide +kernel
theorem dX12_token_24 : decode cX12_token 24 = .ok (.iadd, 1) := by decide +kernel
theorem dX12_token_25 : decode cX12_token 25 = .ok (.putfield 118, 3) := by decide +kernel
theorem dX12_token_28 : decode cX12_token 28 = .ok (.goto (-28), 3) := by decide +kernel
theorem dX12_token_31 : decode cX12_token 31 = .ok (.aload_n 0, 1) := by decide +kernel
theorem dX12_token_32 : decode cX12_token 32 = .ok (.aload_n 0, 1) := by decide +kernel
theorem dX12_token_33 : decode cX12_token 33 = .ok (.getfield 118, 3) := by decide +kernel
theorem dX12_token_36 : decode cX12_token 36 = .ok (.putfield 128, 3) := by decide +kernel
theorem dX12_token_39 : decode cX12_token 39 = .ok (.aload_n 0, 1) := by decide +kernel
theorem dX12_token_40 : decode cX12_token 40 = .ok (.invokevirtual 124, 3) := by decide +kernel
theorem dX12_token_43 : decode cX12_token 43 = .ok (.istore_n 1, 1) := by decide +kernel
theorem dX12_token_44 : decode cX12_token 44 = .ok (.aload_n 0, 1) := by decide +kernel
theorem dX12_token_45 : decode cX12_token 45 = .ok (.lconst 0, 1) := by decide +kernel
theorem dX12_token_46 : decode cX12_token 46 = .ok (.putfield 131, 3) := by decide +kernel
theorem dX12_token_49 : decode cX12_token 49 = .ok (.iconst 0, 1) := by decide +kernel
theorem dX12_token_50 : decode cX12_token 50 = .ok (.istore_n 2, 1) := by decide +kernel
theorem dX12_token_51 : decode cX12_token 51 = .ok (.iload_n 1, 1) := by decide +kernel
theorem dX12_token_52 : decode cX12_token 52 = .ok (.ifCond .ge 11, 3) := by decide +kernel
theorem dX12_token_55 : decode cX12_token 55 = .ok (.aload_n 0, 1) := by decide +kernel
theorem dX12_token_56 : decode cX12_token 56 = .ok (.iconst 0, 1) := by decide +kernel
theorem dX12_token_57 : decode cX12_token 57 = .ok (.putfield 135, 3) := by decide +kernel
theorem dX12_token_60 : decode cX12_token 60 = .ok (.goto 206, 3) := by decide +kernel
theorem dX12_token_63 : decode cX12_token 63 = .ok (.iload_n 1, 1) := by decide +kernel
theorem dX12_token_64 : decode cX12_token 64 = .ok (.bipush 97, 2) := by decide +kernel
theorem dX12_token_66 : decode cX12_token 66 = .ok (.bipush 122, 2) := by decide +kernel
theorem dX12_token_68 : decode cX12_token 68 = .ok (.invokestatic 110, 3) := by decide +kernel
theorem dX12_token_71 : decode cX12_token 71 = .ok (.ifCond .eq 76, 3) := by decide +kernel
theorem dX12_token_74 : decode cX12_token 74 = .ok (.aload_n 0, 1) := by decide +kernel
theorem dX12_token_75 : decode cX12_token 75 = .ok (.invokevirtual 124, 3) := by decide +kernel
theorem dX12_token_78 : decode cX12_token 78 = .ok (.bipush 97, 2) := by decide +kernel
theorem dX12_token_80 : decode cX12_token 80 = .ok (.bipush 122, 2) := by decide +kernel
theorem dX12_token_82 : decode cX12_token 82 = .ok (.invokestatic 110, 3) := by decide +kernel
theorem dX12_token_85 : decode cX12_token 85 = .ok (.ifCond .eq 36, 3) := by decide +kernel
theorem dX12_token_88 : decode cX12_token 88 = .ok (.aload_n 0, 1) := by decide +kernel
theorem dX12_token_89 : decode cX12_token 89 = .ok (.aload_n 0, 1) := by decide +kernel
theorem dX12_token_90 : decode cX12_token 90 = .ok (.getfield 131, 3) := by decide +kernel
theorem dX12_token_93 : decode cX12_token 93 = .ok (.bipush 8, 2) := by decide +kernel
theorem dX12_token_95 : decode cX12_token 95 = .ok (.lshl, 1) := by decide +kernel
theorem dX12_token_96 : decode cX12_token 96 = .ok (.aload_n 0, 1) := by decide +kernel
theorem dX12_token_97 : decode cX12_token 97 = .ok (.invokevirtual 124, 3) := by decide +kernel
theorem dX12_token_100 : decode cX12_token 100 = .ok (.i2l, 1) := by decide +kernel
theorem dX12_token_101 : decode cX12_token 101 = .ok (.lor, 1) := by decide +kernel
theorem dX12_token_102 : decode cX12_token 102 = .ok (.putfield 131, 3) := by decide +kernel
theorem dX12_token_105 : decode cX12_token 105 = .ok (.aload_n 0, 1) := by decide +kernel
theorem dX12_token_106 : decode cX12_token 106 = .ok (.dup, 1) := by decide +kernel
theorem dX12_token_107 : decode cX12_token 107 = .ok (.getfield 118, 3) := by decide +kernel
theorem dX12_token_110 : decode cX12_token 110 = .ok (.iconst 1, 1) := by decide +kernel
theorem dX12_token_111 : decode cX12_token 111 = .ok (.iadd, 1) := by decide +kernel
theorem dX12_token_112 : decode cX12_token 112 = .ok (.putfield 118, 3) := by decide +kernel
theorem dX12_token_115 : decode cX12_token 115 = .ok (.iinc 2 1, 3) := by decide +kernel
theorem dX12_token_118 : decode cX12_token 118 = .ok (.goto (-44), 3) := by decide +kernel
theorem dX12_token_121 : decode cX12_token 121 = .ok (.aload_n 0, 1) := by decide +kernel
theorem dX12_token_122 : decode cX12_token 122 = .ok (.iload_n 2, 1) := by decide +kernel
theorem dX12_token_123 : decode cX12_token 123 = .ok (.bipush 8, 2) := by decide +kernel
theorem dX12_token_125 : decode cX12_token 125 = .ok (.if_icmp .le 7, 3) := by decide +kernel
theorem dX12_token_128 : decode cX12_token 128 = .ok (.lconst 0, 1) := by decide +kernel
theorem dX12_token_129 : decode cX12_token 129 = .ok (.goto 7, 3) := by decide +kernel
theorem dX12_token_132 : decode cX12_token 132 = .ok (.aload_n 0, 1) := by decide +kernel
theorem dX12_token_133 : decode cX12_token 133 = .ok (.getfield 131, 3) := by decide +kernel
theorem dX12_token_136 : decode cX12_token 136 = .ok (.putfield 131, 3) := by decide +kernel
theorem dX12_token_139 : decode cX12_token 139 = .ok (.aload_n 0, 1) := by decide +kernel
theorem dX12_token_140 : decode cX12_token 140 = .ok (.iconst 2, 1) := by decide +kernel
theorem dX12_token_141 : decode cX12_token 141 = .ok (.putfield 135, 3) := by decide +kernel
theorem dX12_token_144 : decode cX12_token 144 = .ok (.goto 122, 3) := by decide +kernel
theorem dX12_token_147 : decode cX12_token 147 = .ok (.iload_n 1, 1) := by decide +kernel
theorem dX12_token_148 : decode cX12_token 148 = .ok (.bipush 48, 2) := by decide +kernel
theorem dX12_token_150 : decode cX12_token 150 = .ok (.bipush 57, 2) := by decide +kernel
theorem dX12_token_152 : decode cX12_token 152 = .ok (.invokestatic 110, 3) := by decide +kernel
theorem dX12_token_155 : decode cX12_token 155 = .ok (.ifCond .eq 86, 3) := by decide +kernel
theorem dX12_token_158 : decode cX12_token 158 = .ok (.aload_n 0, 1) := by decide +kernel
theorem dX12_token_159 : decode cX12_token 159 = .ok (.iconst 0, 1) := by decide +kernel
theorem dX12_token_160 : decode cX12_token 160 = .ok (.putfield 138, 3) := by decide +kernel
theorem dX12_token_163 : decode cX12_token 163 = .ok (.aload_n 0, 1) := by decide +kernel
theorem dX12_token_164 : decode cX12_token 164 = .ok (.invokevirtual 124, 3) := by decide +kernel
theorem dX12_token_167 : decode cX12_token 167 = .ok (.bipush 48, 2) := by decide +kernel
theorem dX12_token_169 : decode cX12_token 169 = .ok (.bipush 57, 2) := by decide +kernel
theorem dX12_token_171 : decode cX12_token 171 = .ok (.invokestatic 110, 3) := by decide +kernel
theorem dX12_token_174 : decode cX12_token 174 = .ok (.ifCond .eq 50, 3) := by decide +kernel
theorem dX12_token_177 : decode cX12_token 177 = .ok (.aload_n 0, 1) := by decide +kernel
theorem dX12_token_178 : decode cX12_token 178 = .ok (.iload_n 2, 1) := by decide +kernel
theorem dX12_token_179 : decode cX12_token 179 = .ok (.iconst 2, 1) := by decide +kernel
theorem dX12_token_180 : decode cX12_token 180 = .ok (.if_icmp .ge 21, 3) := by decide +kernel
theorem dX12_token_183 : decode cX12_token 183 = .ok (.bipush 10, 2) := by decide +kernel
theorem dX12_token_185 : decode cX12_token 185 = .ok (.aload_n 0, 1) := by decide +kernel
theorem dX12_token_186 : decode cX12_token 186 = .ok (.getfield 138, 3) := by decide +kernel
theorem dX12_token_189 : decode cX12_token 189 = .ok (.imul, 1) := by decide +kernel
theorem dX12_token_190 : decode cX12_token 190 = .ok (.aload_n 0, 1) := by decide +kernel
theorem dX12_token_191 : decode cX12_token 191 = .ok (.invokevirtual 124, 3) := by decide +kernel
theorem dX12_token_194 : decode cX12_token 194 = .ok (.iadd, 1) := by decide +kernel
theorem dX12_token_195 : decode cX12_token 195 = .ok (.bipush 48, 2) := by decide +kernel
theorem dX12_token_197 : decode cX12_token 197 = .ok (.isub, 1) := by decide +kernel
theorem dX12_token_198 : decode cX12_token 198 = .ok (.goto 7, 3) := by decide +kernel
theorem dX12_token_201 : decode cX12_token 201 = .ok (.aload_n 0, 1) := by decide +kernel
theorem dX12_token_202 : decode cX12_token 202 = .ok (.getfield 138, 3) := by decide +kernel
theorem dX12_token_205 : decode cX12_token 205 = .ok (.putfield 138, 3) := by decide +kernel
theorem dX12_token_208 : decode cX12_token 208 = .ok (.aload_n 0, 1) := by decide +kernel
theorem dX12_token_209 : decode cX12_token 209 = .ok (.dup, 1) := by decide +kernel
theorem dX12_token_210 : decode cX12_token 210 = .ok (.getfield 118, 3) := by decide +kernel
theorem dX12_token_213 : decode cX12_token 213 = .ok (.iconst 1, 1) := by decide +kernel
theorem dX12_token_214 : decode cX12_token 214 = .ok (.iadd, 1) := by decide +kernel
theorem dX12_token_215 : decode cX12_token 215 = .ok (.putfield 118, 3) := by decide +kernel
theorem dX12_token_218 : decode cX12_token 218 = .ok (.iinc 2 1, 3) := by decide +kernel
theorem dX12_token_221 : decode cX12_token 221 = .ok (.goto (-58), 3) := by decide +kernel
theorem dX12_token_224 : decode cX12_token 224 = .ok (.aload_n 0, 1) := by decide +kernel
theorem dX12_token_225 : decode cX12_token 225 = .ok (.iload_n 2, 1) := by decide +kernel
theorem dX12_token_226 : decode cX12_token 226 = .ok (.iconst 2, 1) := by decide +kernel
theorem dX12_token_227 : decode cX12_token 227 = .ok (.if_icmp .le 7, 3) := by decide +kernel
theorem dX12_token_230 : decode cX12_token 230 = .ok (.iconst 1, 1) := by decide +kernel
theorem dX12_token_231 : decode cX12_token 231 = .ok (.goto 4, 3) := by decide +kernel
theorem dX12_token_234 : decode cX12_token 234 = .ok (.iconst 3, 1) := by decide +kernel
theorem dX12_token_235 : decode cX12_token 235 = .ok (.putfield 135, 3) := by decide +kernel
theorem dX12_token_238 : decode cX12_token 238 = .ok (.goto 28, 3) := by decide +kernel
theorem dX12_token_241 : decode cX12_token 241 = .ok (.aload_n 0, 1) := by decide +kernel
theorem dX12_token_242 : decode cX12_token 242 = .ok (.dup, 1) := by decide +kernel
theorem dX12_token_243 : decode cX12_token 243 = .ok (.getfield 118, 3) := by decide +kernel
theorem dX12_token_246 : decode cX12_token 246 = .ok (.iconst 1, 1) := by decide +kernel
theorem dX12_token_247 : decode cX12_token 247 = .ok (.iadd, 1) := by decide +kernel
theorem dX12_token_248 : decode cX12_token 248 = .ok (.putfield 118, 3) := by decide +kernel
theorem dX12_token_251 : decode cX12_token 251 = .ok (.aload_n 0, 1) := by decide +kernel
theorem dX12_token_252 : decode cX12_token 252 = .ok (.iload_n 1, 1) := by decide +kernel
theorem dX12_token_253 : decode cX12_token 253 = .ok (.bipush 59, 2) := by decide +kernel
theorem dX12_token_255 : decode cX12_token 255 = .ok (.if_icmp .ne 7, 3) := by decide +kernel
theorem dX12_token_258 : decode cX12_token 258 = .ok (.iconst 4, 1) := by decide +kernel
theorem dX12_token_259 : decode cX12_token 259 = .ok (.goto 4, 3) := by decide +kernel
theorem dX12_token_262 : decode cX12_token 262 = .ok (.iconst 1, 1) := by decide +kernel
theorem dX12_token_263 : decode cX12_token 263 = .ok (.putfield 135, 3) := by decide +kernel
theorem dX12_token_266 : decode cX12_token 266 = .ok (.return_, 1) := by decide +kernel
theorem dX12_fails_0 : decode cX12_fails 0 = .ok (.aload_n 0, 1) := by decide +kernel
theorem dX12_fails_1 : decode cX12_fails 1 = .ok (.aload_n 0, 1) := by decide +kernel
theorem dX12_fails_2 : decode cX12_fails 2 = .ok (.getfield 128, 3) := by decide +kernel
theorem dX12_fails_5 : decode cX12_fails 5 = .ok (.putfield 141, 3) := by decide +kernel
theorem dX12_fails_8 : decode cX12_fails 8 = .ok (.iconst 0, 1) := by decide +kernel
theorem dX12_fails_9 : decode cX12_fails 9 = .ok (.ireturn, 1) := by decide +kernel
theorem dX12_addsFault_0 : decode cX12_addsFault 0 = .ok (.aload_n 0, 1) := by decide +kernel
theorem dX12_addsFault_1 : decode cX12_addsFault 1 = .ok (.getfield 144, 3) := by decide +kernel
theorem dX12_addsFault_4 : decode cX12_addsFault 4 = .ok (.ifCond .eq 27, 3) := by decide +kernel
theorem dX12_addsFault_7 : decode cX12_addsFault 7 = .ok (.iload_n 2, 1) := by decide +kernel
theorem dX12_addsFault_8 : decode cX12_addsFault 8 = .ok (.aload_n 0, 1) := by decide +kernel
theorem dX12_addsFault_9 : decode cX12_addsFault 9 = .ok (.getfield 147, 3) := by decide +kernel
theorem dX12_addsFault_12 : decode cX12_addsFault 12 = .ok (.if_icmp .lt 19, 3) := by decide +kernel
theorem dX12_addsFault_15 : decode cX12_addsFault 15 = .ok (.iload_n 2, 1) := by decide +kernel
theorem dX12_addsFault_16 : decode cX12_addsFault 16 = .ok (.aload_n 0, 1) := by decide +kernel
theorem dX12_addsFault_17 : decode cX12_addsFault 17 = .ok (.getfield 147, 3) := by decide +kernel
theorem dX12_addsFault_20 : decode cX12_addsFault 20 = .ok (.if_icmp .ne 21, 3) := by decide +kernel
theorem dX12_addsFault_23 : decode cX12_addsFault 23 = .ok (.iload_n 1, 1) := by decide +kernel
theorem dX12_addsFault_24 : decode cX12_addsFault 24 = .ok (.aload_n 0, 1) := by decide +kernel
theorem dX12_addsFault_25 : decode cX12_addsFault 25 = .ok (.getfield 144, 3) := by decide +kernel
theorem dX12_addsFault_28 : decode cX12_addsFault 28 = .ok (.if_icmp .ge 13, 3) := by decide +kernel
theorem dX12_addsFault_31 : decode cX12_addsFault 31 = .ok (.aload_n 0, 1) := by decide +kernel
theorem dX12_addsFault_32 : decode cX12_addsFault 32 = .ok (.iload_n 1, 1) := by decide +kernel
theorem dX12_addsFault_33 : decode cX12_addsFault 33 = .ok (.putfield 144, 3) := by decide +kernel
theorem dX12_addsFault_36 : decode cX12_addsFault 36 = .ok (.aload_n 0, 1) := by decide +kernel
theorem dX12_addsFault_37 : decode cX12_addsFault 37 = .ok (.iload_n 2, 1) := by decide +kernel
theorem dX12_addsFault_38 : decode cX12_addsFault 38 = .ok (.putfield 147, 3) := by decide +kernel
theorem dX12_addsFault_41 : decode cX12_addsFault 41 = .ok (.return_, 1) := by decide +kernel
set_option maxRecDepth 20000 in
theorem ggX12_take_X12_fails : GoodIn wsX12_take wsX12_fails := goodIn_r _ [10, 4, 11, 33, 34, 35, 36, 37, 38, 39, 40, 41, 42, 43, 44, 45, 46, 47, 48, 49, 50, 51, 52, 53, 54, 55, 56, 57, 58, 59, 60, 61, 62, 63, 64, 65, 66, 67, 68, 69, 70, 71, 72, 73, 74, 75, 76, 77, 78, 79, 80, 81, 82, 83, 84, 85, 86, 87, 88, 89, 90, 91, 92, 93] (by decide +kernel) (by decide +kernel)
set_option maxRecDepth 20000 in
theorem gX12_take_X12_fails : GoodIn wsX12_take (wsV RX12 150 RX12 yX12_fails wsX12_fails) := goodIn_app (goodIn_of _ (by decide +kernel)) ggX12_take_X12_fails
set_option maxRecDepth 20000 in
theorem ggX12_take_X12_in : GoodIn wsX12_take wsX12_in := goodIn_r _ [14] (by decide +kernel) (by decide +kernel)
set_option maxRecDepth 20000 in
theorem gX12_take_X12_in : GoodIn wsX12_take (va_wsS RX12 110 yX12_in wsX12_in) := goodIn_app (goodIn_of _ (by decide +kernel)) ggX12_take_X12_in
set_option maxRecDepth 20000 in
theorem ggX12_take_X12_addsFault : GoodIn wsX12_take wsX12_addsFault := goodIn_r _ [18, 19, 20, 33, 34, 35, 36, 37, 38, 39, 40, 41, 42, 43, 44, 45, 46, 47, 48, 49, 50, 51, 52, 53, 54, 55, 56, 57, 58, 59, 60, 61, 62, 63, 64, 65, 66, 67, 68, 69, 70, 71, 72, 73, 74, 75, 76, 77, 78, 79, 80, 81, 82, 83, 84, 85, 86, 87, 88, 89, 90, 91, 92, 93] (by decide +kernel) (by decide +kernel)
set_option maxRecDepth 20000 in
theorem gX12_take_X12_addsFault : GoodIn wsX12_take (wsV RX12 154 RX12 yX12_addsFault wsX12_addsFault) := goodIn_app (goodIn_of _ (by decide +kernel)) ggX12_take_X12_addsFault
set_option maxRecDepth 20000 in
theorem ggX12_take_X12_token : GoodIn wsX12_take wsX12_token := goodIn_r _ [24, 25, 4, 26, 1, 3, 27, 28, 29, 9, 30, 31, 32, 12, 13, 14, 33, 34, 35, 36, 37, 38, 39, 40, 41, 42, 43, 44, 45, 46, 47, 48, 49, 50, 51, 52, 53, 54, 55, 56, 57, 58, 59, 60, 61, 62, 63, 64, 65, 66, 67, 68, 69, 70, 71, 72, 73, 74, 75, 76, 77, 78, 79, 80, 81, 82, 83, 84, 85, 86, 87, 88, 89, 90, 91, 92, 93] (by decide +kernel) (by decide +kernel)
set_option maxRecDepth 20000 in
theorem gX12_take_X12_token : GoodIn wsX12_take (wsV RX12 162 RX12 yX12_token wsX12_token) := goodIn_app (goodIn_of _ (by decide +kernel)) ggX12_take_X12_token
theorem dX12_take_0 : decode cX12_take 0 = .ok (.aload_n 0, 1) := by decide +kernel
theorem dX12_take_1 : decode cX12_take 1 = .ok (.getfield 135, 3) := by decide +kernel
theorem dX12_take_4 : decode cX12_take 4 = .ok (.iconst 3, 1) := by decide +kernel
theorem dX12_take_5 : decode cX12_take 5 = .ok (.if_icmp .eq 8, 3) := by decide +kernel
theorem dX12_take_8 : decode cX12_take 8 = .ok (.aload_n 0, 1) := by decide +kernel
theorem dX12_take_9 : decode cX12_take 9 = .ok (.invokevirtual 150, 3) := by decide +kernel
theorem dX12_take_12 : decode cX12_take 12 = .ok (.ireturn, 1) := by decide +kernel
theorem dX12_take_13 : decode cX12_take 13 = .ok (.aload_n 0, 1) := by decide +kernel
theorem dX12_take_14 : decode cX12_take 14 = .ok (.getfield 41, 3) := by decide +kernel
theorem dX12_take_17 : decode cX12_take 17 = .ok (.iload_n 1, 1) := by decide +kernel
theorem dX12_take_18 : decode cX12_take 18 = .ok (.aload_n 0, 1) := by decide +kernel
theorem dX12_take_19 : decode cX12_take 19 = .ok (.getfield 138, 3) := by decide +kernel
theorem dX12_take_22 : decode cX12_take 22 = .ok (.iastore, 1) := by decide +kernel
theorem dX12_take_23 : decode cX12_take 23 = .ok (.aload_n 0, 1) := by decide +kernel
theorem dX12_take_24 : decode cX12_take 24 = .ok (.getfield 138, 3) := by decide +kernel
theorem dX12_take_27 : decode cX12_take 27 = .ok (.iload_n 2, 1) := by decide +kernel
theorem dX12_take_28 : decode cX12_take 28 = .ok (.iload_n 3, 1) := by decide +kernel
theorem dX12_take_29 : decode cX12_take 29 = .ok (.invokestatic 110, 3) := by decide +kernel
theorem dX12_take_32 : decode cX12_take 32 = .ok (.ifCond .ne 17, 3) := by decide +kernel
theorem dX12_take_35 : decode cX12_take 35 = .ok (.aload_n 0, 1) := by decide +kernel
theorem dX12_take_36 : decode cX12_take 36 = .ok (.iconst 2, 1) := by decide +kernel
theorem dX12_take_37 : decode cX12_take 37 = .ok (.aload_n 0, 1) := by decide +kernel
theorem dX12_take_38 : decode cX12_take 38 = .ok (.getfield 128, 3) := by decide +kernel
theorem dX12_take_41 : decode cX12_take 41 = .ok (.invokevirtual 154, 3) := by decide +kernel
theorem dX12_take_44 : decode cX12_take 44 = .ok (.aload_n 0, 1) := by decide +kernel
theorem dX12_take_45 : decode cX12_take 45 = .ok (.iconst 0, 1) := by decide +kernel
theorem dX12_take_46 : decode cX12_take 46 = .ok (.putfield 158, 3) := by decide +kernel
theorem dX12_take_49 : decode cX12_take 49 = .ok (.aload_n 0, 1) := by decide +kernel
theorem dX12_take_50 : decode cX12_take 50 = .ok (.invokevirtual 162, 3) := by decide +kernel
theorem dX12_take_53 : decode cX12_take 53 = .ok (.iconst 1, 1) := by decide +kernel
theorem dX12_take_54 : decode cX12_take 54 = .ok (.ireturn, 1) := by decide +kernel
set_option maxRecDepth 20000 in
theorem ggX12_full_X12_addsFault : GoodIn wsX12_full wsX12_addsFault := goodIn_r _ [6, 7, 8, 9, 10, 11, 12, 13, 14, 15, 16, 17, 18, 19, 20, 21, 22, 23, 24, 25, 26, 27, 28, 29, 30, 31, 32, 33, 34, 35, 36, 37, 38, 39, 40, 41, 42, 43, 44, 45, 46, 47, 48, 49, 50, 51, 52, 53, 54, 55, 56, 57, 58, 59, 60, 61, 62, 63, 64, 65, 66, 67, 68, 69] (by decide +kernel) (by decide +kernel)
set_option maxRecDepth 20000 in
theorem gX12_full_X12_addsFault : GoodIn wsX12_full (wsV RX12 154 RX12 yX12_addsFault wsX12_addsFault) := goodIn_app (goodIn_of _ (by decide +kernel)) ggX12_full_X12_addsFault
theorem dX12_full_0 : decode cX12_full 0 = .ok (.aload_n 0, 1) := by decide +kernel
theorem dX12_full_1 : decode cX12_full 1 = .ok (.getfield 38, 3) := by decide +kernel
theorem dX12_full_4 : decode cX12_full 4 = .ok (.iconst 0, 1) := by decide +kernel
theorem dX12_full_5 : decode cX12_full 5 = .ok (.iaload, 1) := by decide +kernel
theorem dX12_full_6 : decode cX12_full 6 = .ok (.iload_n 1, 1) := by decide +kernel
theorem dX12_full_7 : decode cX12_full 7 = .ok (.if_icmp .ne 9, 3) := by decide +kernel
theorem dX12_full_10 : decode cX12_full 10 = .ok (.aload_n 0, 1) := by decide +kernel
theorem dX12_full_11 : decode cX12_full 11 = .ok (.iconst 3, 1) := by decide +kernel
theorem dX12_full_12 : decode cX12_full 12 = .ok (.iload_n 2, 1) := by decide +kernel
theorem dX12_full_13 : decode cX12_full 13 = .ok (.invokevirtual 154, 3) := by decide +kernel
theorem dX12_full_16 : decode cX12_full 16 = .ok (.return_, 1) := by decide +kernel
set_option maxRecDepth 20000 in
theorem ggX12_glassLine_X12_full : GoodIn wsX12_glassLine wsX12_full := goodIn_r _ [7, 2, 8, 9, 10, 6, 11, 12, 13, 45, 46, 47, 48, 49, 50, 51, 52, 53, 54, 55, 56, 57, 58, 59, 60, 61, 62, 63, 64, 65, 66, 67, 68, 69, 70, 71, 72, 73, 74, 75, 76, 77, 78, 79, 80, 81, 82, 83, 84, 85, 86, 87, 88, 89, 90, 91, 92, 93, 94, 95, 96, 97, 98, 99, 100, 101, 102, 103, 104, 105] (by decide +kernel) (by decide +kernel)
set_option maxRecDepth 20000 in
theorem gX12_glassLine_X12_full : GoodIn wsX12_glassLine (wsV RX12 165 RX12 yX12_full wsX12_full) := goodIn_app (goodIn_of _ (by decide +kernel)) ggX12_glassLine_X12_full
set_option maxRecDepth 20000 in
theorem ggX12_glassLine_X12_token : GoodIn wsX12_glassLine wsX12_token := goodIn_r _ [17, 18, 19, 20, 21, 22, 23, 24, 25, 6, 26, 27, 28, 29, 30, 31, 45, 46, 47, 48, 49, 50, 51, 52, 53, 54, 55, 56, 57, 58, 59, 60, 61, 62, 63, 64, 65, 66, 67, 68, 69, 70, 71, 72, 73, 74, 75, 76, 77, 78, 79, 80, 81, 82, 83, 84, 85, 86, 87, 88, 89, 90, 91, 92, 93, 94, 95, 96, 97, 98, 99, 100, 101, 102, 103, 104, 105] (by decide +kernel) (by decide +kernel)
set_option maxRecDepth 20000 in
theorem gX12_glassLine_X12_token : GoodIn wsX12_glassLine (wsV RX12 162 RX12 yX12_token wsX12_token) := goodIn_app (goodIn_of _ (by decide +kernel)) ggX12_glassLine_X12_token
set_option maxRecDepth 20000 in
theorem ggX12_glassLine_X12_take : GoodIn wsX12_glassLine wsX12_take := goodIn_r _ [35, 21, 1, 22, 19, 36, 37, 38, 39, 6, 40, 41, 29, 30, 31, 8, 9, 10, 11, 12, 13, 14, 15, 16, 17, 18, 20, 23, 24, 25, 26, 27, 28, 45, 46, 47, 48, 49, 50, 51, 52, 53, 54, 55, 56, 57, 58, 59, 60, 61, 62, 63, 64, 65, 66, 67, 68, 69, 70, 71, 72, 73, 74, 75, 76, 77, 78, 79, 80, 81, 82, 83, 84, 85, 86, 87, 88, 89, 90, 91, 92, 93, 94, 95, 96, 97, 98, 99, 100, 101, 102, 103, 104, 105] (by decide +kernel) (by decide +kernel)
set_option maxRecDepth 20000 in
theorem gX12_glassLine_X12_take : GoodIn wsX12_glassLine (wsV RX12 168 RX12 yX12_take wsX12_take) := goodIn_app (goodIn_of _ (by decide +kernel)) ggX12_glassLine_X12_take
set_option maxRecDepth 20000 in
theorem ggX12_glassLine_X12_lesser : GoodIn wsX12_glassLine wsX12_lesser := goodIn_r _ [44] (by decide +kernel) (by decide +kernel)
set_option maxRecDepth 20000 in
theorem gX12_glassLine_X12_lesser : GoodIn wsX12_glassLine (va_wsS RX12 171 yX12_lesser wsX12_lesser) := goodIn_app (goodIn_of _ (by decide +kernel)) ggX12_glassLine_X12_lesser
theorem dX12_glassLine_0 : decode cX12_glassLine 0 = .ok (.aload_n 0, 1) := by decide +kernel
theorem dX12_glassLine_1 : decode cX12_glassLine 1 = .ok (.iconst 4, 1) := by decide +kernel
theorem dX12_glassLine_2 : decode cX12_glassLine 2 = .ok (.iload_n 1, 1) := by decide +kernel
theorem dX12_glassLine_3 : decode cX12_glassLine 3 = .ok (.invokevirtual 165, 3) := by decide +kernel
theorem dX12_glassLine_6 : decode cX12_glassLine 6 = .ok (.aload_n 0, 1) := by decide +kernel
theorem dX12_glassLine_7 : decode cX12_glassLine 7 = .ok (.invokevirtual 162, 3) := by decide +kernel
theorem dX12_glassLine_10 : decode cX12_glassLine 10 = .ok (.aload_n 0, 1) := by decide +kernel
theorem dX12_glassLine_11 : decode cX12_glassLine 11 = .ok (.iconst 0, 1) := by decide +kernel
theorem dX12_glassLine_12 : decode cX12_glassLine 12 = .ok (.iconst 1, 1) := by decide +kernel
theorem dX12_glassLine_13 : decode cX12_glassLine 13 = .ok (.bipush 7, 2) := by decide +kernel
theorem dX12_glassLine_15 : decode cX12_glassLine 15 = .ok (.invokevirtual 168, 3) := by decide +kernel
theorem dX12_glassLine_18 : decode cX12_glassLine 18 = .ok (.ifCond .ne 5, 3) := by decide +kernel
theorem dX12_glassLine_21 : decode cX12_glassLine 21 = .ok (.iconst 0, 1) := by decide +kernel
theorem dX12_glassLine_22 : decode cX12_glassLine 22 = .ok (.ireturn, 1) := by decide +kernel
theorem dX12_glassLine_23 : decode cX12_glassLine 23 = .ok (.aload_n 0, 1) := by decide +kernel
theorem dX12_glassLine_24 : decode cX12_glassLine 24 = .ok (.iconst 1, 1) := by decide +kernel
theorem dX12_glassLine_25 : decode cX12_glassLine 25 = .ok (.iconst 0, 1) := by decide +kernel
theorem dX12_glassLine_26 : decode cX12_glassLine 26 = .ok (.bipush 7, 2) := by decide +kernel
theorem dX12_glassLine_28 : decode cX12_glassLine 28 = .ok (.aload_n 0, 1) := by decide +kernel
theorem dX12_glassLine_29 : decode cX12_glassLine 29 = .ok (.getfield 41, 3) := by decide +kernel
theorem dX12_glassLine_32 : decode cX12_glassLine 32 = .ok (.iconst 0, 1) := by decide +kernel
theorem dX12_glassLine_33 : decode cX12_glassLine 33 = .ok (.iaload, 1) := by decide +kernel
theorem dX12_glassLine_34 : decode cX12_glassLine 34 = .ok (.invokestatic 171, 3) := by decide +kernel
theorem dX12_glassLine_37 : decode cX12_glassLine 37 = .ok (.invokevirtual 168, 3) := by decide +kernel
theorem dX12_glassLine_40 : decode cX12_glassLine 40 = .ok (.ifCond .ne 5, 3) := by decide +kernel
theorem dX12_glassLine_43 : decode cX12_glassLine 43 = .ok (.iconst 0, 1) := by decide +kernel
theorem dX12_glassLine_44 : decode cX12_glassLine 44 = .ok (.ireturn, 1) := by decide +kernel
theorem dX12_glassLine_45 : decode cX12_glassLine 45 = .ok (.aload_n 0, 1) := by decide +kernel
theorem dX12_glassLine_46 : decode cX12_glassLine 46 = .ok (.getfield 38, 3) := by decide +kernel
theorem dX12_glassLine_49 : decode cX12_glassLine 49 = .ok (.iconst 0, 1) := by decide +kernel
theorem dX12_glassLine_50 : decode cX12_glassLine 50 = .ok (.iaload, 1) := by decide +kernel
theorem dX12_glassLine_51 : decode cX12_glassLine 51 = .ok (.istore_n 2, 1) := by decide +kernel
theorem dX12_glassLine_52 : decode cX12_glassLine 52 = .ok (.iload_n 2, 1) := by decide +kernel
theorem dX12_glassLine_53 : decode cX12_glassLine 53 = .ok (.iconst 4, 1) := by decide +kernel
theorem dX12_glassLine_54 : decode cX12_glassLine 54 = .ok (.if_icmp .ge 31, 3) := by decide +kernel
theorem dX12_glassLine_57 : decode cX12_glassLine 57 = .ok (.aload_n 0, 1) := by decide +kernel
theorem dX12_glassLine_58 : decode cX12_glassLine 58 = .ok (.getfield 38, 3) := by decide +kernel
theorem dX12_glassLine_61 : decode cX12_glassLine 61 = .ok (.iconst 1, 1) := by decide +kernel
theorem dX12_glassLine_62 : decode cX12_glassLine 62 = .ok (.iload_n 2, 1) := by decide +kernel
theorem dX12_glassLine_63 : decode cX12_glassLine 63 = .ok (.iadd, 1) := by decide +kernel
theorem dX12_glassLine_64 : decode cX12_glassLine 64 = .ok (.aload_n 0, 1) := by decide +kernel
theorem dX12_glassLine_65 : decode cX12_glassLine 65 = .ok (.getfield 41, 3) := by decide +kernel
theorem dX12_glassLine_68 : decode cX12_glassLine 68 = .ok (.iconst 0, 1) := by decide +kernel
theorem dX12_glassLine_69 : decode cX12_glassLine 69 = .ok (.iaload, 1) := by decide +kernel
theorem dX12_glassLine_70 : decode cX12_glassLine 70 = .ok (.iastore, 1) := by decide +kernel
theorem dX12_glassLine_71 : decode cX12_glassLine 71 = .ok (.aload_n 0, 1) := by decide +kernel
theorem dX12_glassLine_72 : decode cX12_glassLine 72 = .ok (.getfield 38, 3) := by decide +kernel
theorem dX12_glassLine_75 : decode cX12_glassLine 75 = .ok (.iconst 5, 1) := by decide +kernel
theorem dX12_glassLine_76 : decode cX12_glassLine 76 = .ok (.iload_n 2, 1) := by decide +kernel
theorem dX12_glassLine_77 : decode cX12_glassLine 77 = .ok (.iadd, 1) := by decide +kernel
theorem dX12_glassLine_78 : decode cX12_glassLine 78 = .ok (.aload_n 0, 1) := by decide +kernel
theorem dX12_glassLine_79 : decode cX12_glassLine 79 = .ok (.getfield 41, 3) := by decide +kernel
theorem dX12_glassLine_82 : decode cX12_glassLine 82 = .ok (.iconst 1, 1) := by decide +kernel
theorem dX12_glassLine_83 : decode cX12_glassLine 83 = .ok (.iaload, 1) := by decide +kernel
theorem dX12_glassLine_84 : decode cX12_glassLine 84 = .ok (.iastore, 1) := by decide +kernel
theorem dX12_glassLine_85 : decode cX12_glassLine 85 = .ok (.aload_n 0, 1) := by decide +kernel
theorem dX12_glassLine_86 : decode cX12_glassLine 86 = .ok (.getfield 38, 3) := by decide +kernel
theorem dX12_glassLine_89 : decode cX12_glassLine 89 = .ok (.iconst 0, 1) := by decide +kernel
theorem dX12_glassLine_90 : decode cX12_glassLine 90 = .ok (.iconst 4, 1) := by decide +kernel
theorem dX12_glassLine_91 : decode cX12_glassLine 91 = .ok (.iload_n 2, 1) := by decide +kernel
theorem dX12_glassLine_92 : decode cX12_glassLine 92 = .ok (.iconst 1, 1) := by decide +kernel
theorem dX12_glassLine_93 : decode cX12_glassLine 93 = .ok (.iadd, 1) := by decide +kernel
theorem dX12_glassLine_94 : decode cX12_glassLine 94 = .ok (.invokestatic 171, 3) := by decide +kernel
theorem dX12_glassLine_97 : decode cX12_glassLine 97 = .ok (.iastore, 1) := by decide +kernel
theorem dX12_glassLine_98 : decode cX12_glassLine 98 = .ok (.iconst 1, 1) := by decide +kernel
theorem dX12_glassLine_99 : decode cX12_glassLine 99 = .ok (.ireturn, 1) := by decide +kernel
set_option maxRecDepth 20000 in
theorem ggX12_shelfLine_X12_glassLine : GoodIn wsX12_shelfLine wsX12_glassLine := goodIn_r _ [11, 4, 6, 12, 13, 14, 10, 15, 16, 17, 18, 19, 20, 21, 22, 23, 24, 25, 26, 27, 28, 29, 30, 31, 32, 33, 34, 35, 36, 37, 38, 39, 40, 41, 42, 43, 5, 44, 45, 46, 47, 48, 49, 50, 51, 55, 56, 57, 58, 59, 60, 61, 62, 63, 64, 65, 66, 67, 68, 69, 70, 71, 72, 73, 74, 75, 76, 77, 78, 79, 80, 81, 82, 83, 84, 85, 86, 87, 88, 89, 90, 91, 92, 93, 94, 95, 96, 97, 98, 99, 100, 101, 102, 103, 104, 105, 106, 107, 108, 109, 110, 111, 112, 113, 114, 115] (by decide +kernel) (by decide +kernel)
set_option maxRecDepth 20000 in
theorem gX12_shelfLine_X12_glassLine : GoodIn wsX12_shelfLine (wsV RX12 177 RX12 yX12_glassLine wsX12_glassLine) := goodIn_app (goodIn_of _ (by decide +kernel)) ggX12_shelfLine_X12_glassLine
set_option maxRecDepth 20000 in
theorem ggX12_shelfLine_X12_fails : GoodIn wsX12_shelfLine wsX12_fails := goodIn_r _ [47, 27, 48, 55, 56, 57, 58, 59, 60, 61, 62, 63, 64, 65, 66, 67, 68, 69, 70, 71, 72, 73, 74, 75, 76, 77, 78, 79, 80, 81, 82, 83, 84, 85, 86, 87, 88, 89, 90, 91, 92, 93, 94, 95, 96, 97, 98, 99, 100, 101, 102, 103, 104, 105, 106, 107, 108, 109, 110, 111, 112, 113, 114, 115] (by decide +kernel) (by decide +kernel)
set_option maxRecDepth 20000 in
theorem gX12_shelfLine_X12_fails : GoodIn wsX12_shelfLine (wsV RX12 150 RX12 yX12_fails wsX12_fails) := goodIn_app (goodIn_of _ (by decide +kernel)) ggX12_shelfLine_X12_fails
set_option maxRecDepth 20000 in
theorem ggX12_shelfLine_X12_token : GoodIn wsX12_shelfLine wsX12_token := goodIn_r _ [25, 26, 27, 28, 29, 30, 31, 32, 33, 10, 34, 35, 36, 37, 38, 39, 55, 56, 57, 58, 59, 60, 61, 62, 63, 64, 65, 66, 67, 68, 69, 70, 71, 72, 73, 74, 75, 76, 77, 78, 79, 80, 81, 82, 83, 84, 85, 86, 87, 88, 89, 90, 91, 92, 93, 94, 95, 96, 97, 98, 99, 100, 101, 102, 103, 104, 105, 106, 107, 108, 109, 110, 111, 112, 113, 114, 115] (by decide +kernel) (by decide +kernel)
set_option maxRecDepth 20000 in
theorem gX12_shelfLine_X12_token : GoodIn wsX12_shelfLine (wsV RX12 162 RX12 yX12_token wsX12_token) := goodIn_app (goodIn_of _ (by decide +kernel)) ggX12_shelfLine_X12_token
set_option maxRecDepth 20000 in
theorem ggX12_shelfLine_X12_take : GoodIn wsX12_shelfLine wsX12_take := goodIn_r _ [43, 29, 4, 30, 27, 5, 44, 45, 46, 10, 47, 48, 37, 38, 39, 16, 17, 18, 19, 20, 21, 22, 23, 24, 25, 26, 28, 31, 32, 33, 34, 35, 36, 55, 56, 57, 58, 59, 60, 61, 62, 63, 64, 65, 66, 67, 68, 69, 70, 71, 72, 73, 74, 75, 76, 77, 78, 79, 80, 81, 82, 83, 84, 85, 86, 87, 88, 89, 90, 91, 92, 93, 94, 95, 96, 97, 98, 99, 100, 101, 102, 103, 104, 105, 106, 107, 108, 109, 110, 111, 112, 113, 114, 115] (by decide +kernel) (by decide +kernel)
set_option maxRecDepth 20000 in
theorem gX12_shelfLine_X12_take : GoodIn wsX12_shelfLine (wsV RX12 168 RX12 yX12_take wsX12_take) := goodIn_app (goodIn_of _ (by decide +kernel)) ggX12_shelfLine_X12_take
set_option maxRecDepth 20000 in
theorem ggX12_shelfLine_X12_greater : GoodIn wsX12_shelfLine wsX12_greater := goodIn_r _ [54] (by decide +kernel) (by decide +kernel)
set_option maxRecDepth 20000 in
theorem gX12_shelfLine_X12_greater : GoodIn wsX12_shelfLine (va_wsS RX12 186 yX12_greater wsX12_greater) := goodIn_app (goodIn_of _ (by decide +kernel)) ggX12_shelfLine_X12_greater
theorem dX12_shelfLine_0 : decode cX12_shelfLine 0 = .ok (.lload_n 1, 1) := by decide +kernel
theorem dX12_shelfLine_1 : decode cX12_shelfLine 1 = .ok (.ldc2_w 175, 3) := by decide +kernel
theorem dX12_shelfLine_4 : decode cX12_shelfLine 4 = .ok (.lcmp, 1) := by decide +kernel
theorem dX12_shelfLine_5 : decode cX12_shelfLine 5 = .ok (.ifCond .ne 9, 3) := by decide +kernel
theorem dX12_shelfLine_8 : decode cX12_shelfLine 8 = .ok (.aload_n 0, 1) := by decide +kernel
theorem dX12_shelfLine_9 : decode cX12_shelfLine 9 = .ok (.iload_n 3, 1) := by decide +kernel
theorem dX12_shelfLine_10 : decode cX12_shelfLine 10 = .ok (.invokevirtual 177, 3) := by decide +kernel
theorem dX12_shelfLine_13 : decode cX12_shelfLine 13 = .ok (.ireturn, 1) := by decide +kernel
theorem dX12_shelfLine_14 : decode cX12_shelfLine 14 = .ok (.lload_n 1, 1) := by decide +kernel
theorem dX12_shelfLine_15 : decode cX12_shelfLine 15 = .ok (.ldc2_w 181, 3) := by decide +kernel
theorem dX12_shelfLine_18 : decode cX12_shelfLine 18 = .ok (.lcmp, 1) := by decide +kernel
theorem dX12_shelfLine_19 : decode cX12_shelfLine 19 = .ok (.ifCond .eq 8, 3) := by decide +kernel
theorem dX12_shelfLine_22 : decode cX12_shelfLine 22 = .ok (.aload_n 0, 1) := by decide +kernel
theorem dX12_shelfLine_23 : decode cX12_shelfLine 23 = .ok (.invokevirtual 150, 3) := by decide +kernel
theorem dX12_shelfLine_26 : decode cX12_shelfLine 26 = .ok (.ireturn, 1) := by decide +kernel
theorem dX12_shelfLine_27 : decode cX12_shelfLine 27 = .ok (.aload_n 0, 1) := by decide +kernel
theorem dX12_shelfLine_28 : decode cX12_shelfLine 28 = .ok (.invokevirtual 162, 3) := by decide +kernel
theorem dX12_shelfLine_31 : decode cX12_shelfLine 31 = .ok (.aload_n 0, 1) := by decide +kernel
theorem dX12_shelfLine_32 : decode cX12_shelfLine 32 = .ok (.iconst 0, 1) := by decide +kernel
theorem dX12_shelfLine_33 : decode cX12_shelfLine 33 = .ok (.iconst 0, 1) := by decide +kernel
theorem dX12_shelfLine_34 : decode cX12_shelfLine 34 = .ok (.iconst 3, 1) := by decide +kernel
theorem dX12_shelfLine_35 : decode cX12_shelfLine 35 = .ok (.invokevirtual 168, 3) := by decide +kernel
theorem dX12_shelfLine_38 : decode cX12_shelfLine 38 = .ok (.ifCond .eq 14, 3) := by decide +kernel
theorem dX12_shelfLine_41 : decode cX12_shelfLine 41 = .ok (.aload_n 0, 1) := by decide +kernel
theorem dX12_shelfLine_42 : decode cX12_shelfLine 42 = .ok (.iconst 1, 1) := by decide +kernel
theorem dX12_shelfLine_43 : decode cX12_shelfLine 43 = .ok (.iconst 0, 1) := by decide +kernel
theorem dX12_shelfLine_44 : decode cX12_shelfLine 44 = .ok (.bipush 9, 2) := by decide +kernel
theorem dX12_shelfLine_46 : decode cX12_shelfLine 46 = .ok (.invokevirtual 168, 3) := by decide +kernel
theorem dX12_shelfLine_49 : decode cX12_shelfLine 49 = .ok (.ifCond .ne 5, 3) := by decide +kernel
theorem dX12_shelfLine_52 : decode cX12_shelfLine 52 = .ok (.iconst 0, 1) := by decide +kernel
theorem dX12_shelfLine_53 : decode cX12_shelfLine 53 = .ok (.ireturn, 1) := by decide +kernel
theorem dX12_shelfLine_54 : decode cX12_shelfLine 54 = .ok (.aload_n 0, 1) := by decide +kernel
theorem dX12_shelfLine_55 : decode cX12_shelfLine 55 = .ok (.aload_n 0, 1) := by decide +kernel
theorem dX12_shelfLine_56 : decode cX12_shelfLine 56 = .ok (.getfield 183, 3) := by decide +kernel
theorem dX12_shelfLine_59 : decode cX12_shelfLine 59 = .ok (.aload_n 0, 1) := by decide +kernel
theorem dX12_shelfLine_60 : decode cX12_shelfLine 60 = .ok (.getfield 41, 3) := by decide +kernel
theorem dX12_shelfLine_63 : decode cX12_shelfLine 63 = .ok (.iconst 0, 1) := by decide +kernel
theorem dX12_shelfLine_64 : decode cX12_shelfLine 64 = .ok (.iaload, 1) := by decide +kernel
theorem dX12_shelfLine_65 : decode cX12_shelfLine 65 = .ok (.invokestatic 186, 3) := by decide +kernel
theorem dX12_shelfLine_68 : decode cX12_shelfLine 68 = .ok (.putfield 183, 3) := by decide +kernel
theorem dX12_shelfLine_71 : decode cX12_shelfLine 71 = .ok (.aload_n 0, 1) := by decide +kernel
theorem dX12_shelfLine_72 : decode cX12_shelfLine 72 = .ok (.getfield 158, 3) := by decide +kernel
theorem dX12_shelfLine_75 : decode cX12_shelfLine 75 = .ok (.ifCond .eq 23, 3) := by decide +kernel
theorem dX12_shelfLine_78 : decode cX12_shelfLine 78 = .ok (.aload_n 0, 1) := by decide +kernel
theorem dX12_shelfLine_79 : decode cX12_shelfLine 79 = .ok (.getfield 38, 3) := by decide +kernel
theorem dX12_shelfLine_82 : decode cX12_shelfLine 82 = .ok (.bipush 9, 2) := by decide +kernel
theorem dX12_shelfLine_84 : decode cX12_shelfLine 84 = .ok (.aload_n 0, 1) := by decide +kernel
theorem dX12_shelfLine_85 : decode cX12_shelfLine 85 = .ok (.getfield 41, 3) := by decide +kernel
theorem dX12_shelfLine_88 : decode cX12_shelfLine 88 = .ok (.iconst 0, 1) := by decide +kernel
theorem dX12_shelfLine_89 : decode cX12_shelfLine 89 = .ok (.iaload, 1) := by decide +kernel
theorem dX12_shelfLine_90 : decode cX12_shelfLine 90 = .ok (.iadd, 1) := by decide +kernel
theorem dX12_shelfLine_91 : decode cX12_shelfLine 91 = .ok (.aload_n 0, 1) := by decide +kernel
theorem dX12_shelfLine_92 : decode cX12_shelfLine 92 = .ok (.getfield 41, 3) := by decide +kernel
theorem dX12_shelfLine_95 : decode cX12_shelfLine 95 = .ok (.iconst 1, 1) := by decide +kernel
theorem dX12_shelfLine_96 : decode cX12_shelfLine 96 = .ok (.iaload, 1) := by decide +kernel
theorem dX12_shelfLine_97 : decode cX12_shelfLine 97 = .ok (.iastore, 1) := by decide +kernel
theorem dX12_shelfLine_98 : decode cX12_shelfLine 98 = .ok (.iconst 1, 1) := by decide +kernel
theorem dX12_shelfLine_99 : decode cX12_shelfLine 99 = .ok (.ireturn, 1) := by decide +kernel
theorem dX12_deedBy_0 : decode cX12_deedBy 0 = .ok (.lload_n 1, 1) := by decide +kernel
theorem dX12_deedBy_1 : decode cX12_deedBy 1 = .ok (.ldc2_w 189, 3) := by decide +kernel
theorem dX12_deedBy_4 : decode cX12_deedBy 4 = .ok (.lcmp, 1) := by decide +kernel
theorem dX12_deedBy_5 : decode cX12_deedBy 5 = .ok (.ifCond .ne 7, 3) := by decide +kernel
theorem dX12_deedBy_8 : decode cX12_deedBy 8 = .ok (.iconst 0, 1) := by decide +kernel
theorem dX12_deedBy_9 : decode cX12_deedBy 9 = .ok (.goto 52, 3) := by decide +kernel
theorem dX12_deedBy_12 : decode cX12_deedBy 12 = .ok (.lload_n 1, 1) := by decide +kernel
theorem dX12_deedBy_13 : decode cX12_deedBy 13 = .ok (.ldc2_w 191, 3) := by decide +kernel
theorem dX12_deedBy_16 : decode cX12_deedBy 16 = .ok (.lcmp, 1) := by decide +kernel
theorem dX12_deedBy_17 : decode cX12_deedBy 17 = .ok (.ifCond .ne 7, 3) := by decide +kernel
theorem dX12_deedBy_20 : decode cX12_deedBy 20 = .ok (.iconst 1, 1) := by decide +kernel
theorem dX12_deedBy_21 : decode cX12_deedBy 21 = .ok (.goto 40, 3) := by decide +kernel
theorem dX12_deedBy_24 : decode cX12_deedBy 24 = .ok (.lload_n 1, 1) := by decide +kernel
theorem dX12_deedBy_25 : decode cX12_deedBy 25 = .ok (.ldc2_w 193, 3) := by decide +kernel
theorem dX12_deedBy_28 : decode cX12_deedBy 28 = .ok (.lcmp, 1) := by decide +kernel
theorem dX12_deedBy_29 : decode cX12_deedBy 29 = .ok (.ifCond .ne 7, 3) := by decide +kernel
theorem dX12_deedBy_32 : decode cX12_deedBy 32 = .ok (.iconst 2, 1) := by decide +kernel
theorem dX12_deedBy_33 : decode cX12_deedBy 33 = .ok (.goto 28, 3) := by decide +kernel
theorem dX12_deedBy_36 : decode cX12_deedBy 36 = .ok (.lload_n 1, 1) := by decide +kernel
theorem dX12_deedBy_37 : decode cX12_deedBy 37 = .ok (.ldc2_w 195, 3) := by decide +kernel
theorem dX12_deedBy_40 : decode cX12_deedBy 40 = .ok (.lcmp, 1) := by decide +kernel
theorem dX12_deedBy_41 : decode cX12_deedBy 41 = .ok (.ifCond .ne 7, 3) := by decide +kernel
theorem dX12_deedBy_44 : decode cX12_deedBy 44 = .ok (.iconst 3, 1) := by decide +kernel
theorem dX12_deedBy_45 : decode cX12_deedBy 45 = .ok (.goto 16, 3) := by decide +kernel
theorem dX12_deedBy_48 : decode cX12_deedBy 48 = .ok (.lload_n 1, 1) := by decide +kernel
theorem dX12_deedBy_49 : decode cX12_deedBy 49 = .ok (.ldc2_w 197, 3) := by decide +kernel
theorem dX12_deedBy_52 : decode cX12_deedBy 52 = .ok (.lcmp, 1) := by decide +kernel
theorem dX12_deedBy_53 : decode cX12_deedBy 53 = .ok (.ifCond .ne 7, 3) := by decide +kernel
theorem dX12_deedBy_56 : decode cX12_deedBy 56 = .ok (.iconst 4, 1) := by decide +kernel
theorem dX12_deedBy_57 : decode cX12_deedBy 57 = .ok (.goto 4, 3) := by decide +kernel
theorem dX12_deedBy_60 : decode cX12_deedBy 60 = .ok (.iconst (-1), 1) := by decide +kernel
theorem dX12_deedBy_61 : decode cX12_deedBy 61 = .ok (.ireturn, 1) := by decide +kernel
set_option maxRecDepth 20000 in
theorem ggX12_keepTwo_X12_lesser : GoodIn wsX12_keepTwo wsX12_lesser := goodIn_r _ [5] (by decide +kernel) (by decide +kernel)
set_option maxRecDepth 20000 in
theorem gX12_keepTwo_X12_lesser : GoodIn wsX12_keepTwo (va_wsS RX12 171 yX12_lesser wsX12_lesser) := goodIn_app (goodIn_of _ (by decide +kernel)) ggX12_keepTwo_X12_lesser
theorem dX12_keepTwo_0 : decode cX12_keepTwo 0 = .ok (.aload_n 0, 1) := by decide +kernel
theorem dX12_keepTwo_1 : decode cX12_keepTwo 1 = .ok (.getfield 38, 3) := by decide +kernel
theorem dX12_keepTwo_4 : decode cX12_keepTwo 4 = .ok (.iconst 0, 1) := by decide +kernel
theorem dX12_keepTwo_5 : decode cX12_keepTwo 5 = .ok (.iaload, 1) := by decide +kernel
theorem dX12_keepTwo_6 : decode cX12_keepTwo 6 = .ok (.istore 4, 2) := by decide +kernel
theorem dX12_keepTwo_8 : decode cX12_keepTwo 8 = .ok (.iload 4, 2) := by decide +kernel
theorem dX12_keepTwo_10 : decode cX12_keepTwo 10 = .ok (.iload_n 1, 1) := by decide +kernel
theorem dX12_keepTwo_11 : decode cX12_keepTwo 11 = .ok (.if_icmp .ge 27, 3) := by decide +kernel
theorem dX12_keepTwo_14 : decode cX12_keepTwo 14 = .ok (.aload_n 0, 1) := by decide +kernel
theorem dX12_keepTwo_15 : decode cX12_keepTwo 15 = .ok (.getfield 38, 3) := by decide +kernel
theorem dX12_keepTwo_18 : decode cX12_keepTwo 18 = .ok (.iconst 1, 1) := by decide +kernel
theorem dX12_keepTwo_19 : decode cX12_keepTwo 19 = .ok (.iconst 2, 1) := by decide +kernel
theorem dX12_keepTwo_20 : decode cX12_keepTwo 20 = .ok (.iload 4, 2) := by decide +kernel
theorem dX12_keepTwo_22 : decode cX12_keepTwo 22 = .ok (.imul, 1) := by decide +kernel
theorem dX12_keepTwo_23 : decode cX12_keepTwo 23 = .ok (.iadd, 1) := by decide +kernel
theorem dX12_keepTwo_24 : decode cX12_keepTwo 24 = .ok (.iload_n 2, 1) := by decide +kernel
theorem dX12_keepTwo_25 : decode cX12_keepTwo 25 = .ok (.iastore, 1) := by decide +kernel
theorem dX12_keepTwo_26 : decode cX12_keepTwo 26 = .ok (.aload_n 0, 1) := by decide +kernel
theorem dX12_keepTwo_27 : decode cX12_keepTwo 27 = .ok (.getfield 38, 3) := by decide +kernel
theorem dX12_keepTwo_30 : decode cX12_keepTwo 30 = .ok (.iconst 2, 1) := by decide +kernel
theorem dX12_keepTwo_31 : decode cX12_keepTwo 31 = .ok (.iconst 2, 1) := by decide +kernel
theorem dX12_keepTwo_32 : decode cX12_keepTwo 32 = .ok (.iload 4, 2) := by decide +kernel
theorem dX12_keepTwo_34 : decode cX12_keepTwo 34 = .ok (.imul, 1) := by decide +kernel
theorem dX12_keepTwo_35 : decode cX12_keepTwo 35 = .ok (.iadd, 1) := by decide +kernel
theorem dX12_keepTwo_36 : decode cX12_keepTwo 36 = .ok (.iload_n 3, 1) := by decide +kernel
theorem dX12_keepTwo_37 : decode cX12_keepTwo 37 = .ok (.iastore, 1) := by decide +kernel
theorem dX12_keepTwo_38 : decode cX12_keepTwo 38 = .ok (.aload_n 0, 1) := by decide +kernel
theorem dX12_keepTwo_39 : decode cX12_keepTwo 39 = .ok (.getfield 38, 3) := by decide +kernel
theorem dX12_keepTwo_42 : decode cX12_keepTwo 42 = .ok (.iconst 0, 1) := by decide +kernel
theorem dX12_keepTwo_43 : decode cX12_keepTwo 43 = .ok (.iload_n 1, 1) := by decide +kernel
theorem dX12_keepTwo_44 : decode cX12_keepTwo 44 = .ok (.iload 4, 2) := by decide +kernel
theorem dX12_keepTwo_46 : decode cX12_keepTwo 46 = .ok (.iconst 1, 1) := by decide +kernel
theorem dX12_keepTwo_47 : decode cX12_keepTwo 47 = .ok (.iadd, 1) := by decide +kernel
theorem dX12_keepTwo_48 : decode cX12_keepTwo 48 = .ok (.invokestatic 171, 3) := by decide +kernel
theorem dX12_keepTwo_51 : decode cX12_keepTwo 51 = .ok (.iastore, 1) := by decide +kernel
theorem dX12_keepTwo_52 : decode cX12_keepTwo 52 = .ok (.return_, 1) := by decide +kernel
set_option maxRecDepth 20000 in
theorem ggX12_dayLine_X12_deedBy : GoodIn wsX12_dayLine wsX12_deedBy := goodIn_r _ [6, 7, 8, 9, 10, 11] (by decide +kernel) (by decide +kernel)
set_option maxRecDepth 20000 in
theorem gX12_dayLine_X12_deedBy : GoodIn wsX12_dayLine (wsV RX12 199 RX12 yX12_deedBy wsX12_deedBy) := goodIn_app (goodIn_of _ (by decide +kernel)) ggX12_dayLine_X12_deedBy
set_option maxRecDepth 20000 in
theorem ggX12_dayLine_X12_fails : GoodIn wsX12_dayLine wsX12_fails := goodIn_r _ [15, 16, 17, 58, 59, 60, 61, 62, 63, 64, 65, 66, 67, 68, 69, 70, 71, 72, 73, 74, 75, 76, 77, 78, 79, 80, 81, 82, 83, 84, 85, 86, 87, 88, 89, 90, 91, 92, 93, 94, 95, 96, 97, 98, 99, 100, 101, 102, 103, 104, 105, 106, 107, 108, 109, 110, 111, 112, 113, 114, 115, 116, 117, 118] (by decide +kernel) (by decide +kernel)
set_option maxRecDepth 20000 in
theorem gX12_dayLine_X12_fails : GoodIn wsX12_dayLine (wsV RX12 150 RX12 yX12_fails wsX12_fails) := goodIn_app (goodIn_of _ (by decide +kernel)) ggX12_dayLine_X12_fails
set_option maxRecDepth 20000 in
theorem ggX12_dayLine_X12_full : GoodIn wsX12_dayLine wsX12_full := goodIn_r _ [21, 22, 23, 24, 25, 5, 26, 27, 28, 58, 59, 60, 61, 62, 63, 64, 65, 66, 67, 68, 69, 70, 71, 72, 73, 74, 75, 76, 77, 78, 79, 80, 81, 82, 83, 84, 85, 86, 87, 88, 89, 90, 91, 92, 93, 94, 95, 96, 97, 98, 99, 100, 101, 102, 103, 104, 105, 106, 107, 108, 109, 110, 111, 112, 113, 114, 115, 116, 117, 118] (by decide +kernel) (by decide +kernel)
set_option maxRecDepth 20000 in
theorem gX12_dayLine_X12_full : GoodIn wsX12_dayLine (wsV RX12 165 RX12 yX12_full wsX12_full) := goodIn_app (goodIn_of _ (by decide +kernel)) ggX12_dayLine_X12_full
set_option maxRecDepth 20000 in
theorem ggX12_dayLine_X12_token : GoodIn wsX12_dayLine wsX12_token := goodIn_r _ [32, 33, 16, 34, 35, 36, 37, 38, 39, 5, 40, 41, 42, 43, 44, 45, 58, 59, 60, 61, 62, 63, 64, 65, 66, 67, 68, 69, 70, 71, 72, 73, 74, 75, 76, 77, 78, 79, 80, 81, 82, 83, 84, 85, 86, 87, 88, 89, 90, 91, 92, 93, 94, 95, 96, 97, 98, 99, 100, 101, 102, 103, 104, 105, 106, 107, 108, 109, 110, 111, 112, 113, 114, 115, 116, 117, 118] (by decide +kernel) (by decide +kernel)
set_option maxRecDepth 20000 in
theorem gX12_dayLine_X12_token : GoodIn wsX12_dayLine (wsV RX12 162 RX12 yX12_token wsX12_token) := goodIn_app (goodIn_of _ (by decide +kernel)) ggX12_dayLine_X12_token
set_option maxRecDepth 20000 in
theorem ggX12_dayLine_X12_take : GoodIn wsX12_dayLine wsX12_take := goodIn_r _ [49, 35, 1, 36, 16, 50, 12, 13, 14, 5, 15, 17, 43, 44, 45, 23, 24, 25, 26, 27, 28, 29, 30, 31, 32, 33, 34, 37, 38, 39, 40, 41, 42, 58, 59, 60, 61, 62, 63, 64, 65, 66, 67, 68, 69, 70, 71, 72, 73, 74, 75, 76, 77, 78, 79, 80, 81, 82, 83, 84, 85, 86, 87, 88, 89, 90, 91, 92, 93, 94, 95, 96, 97, 98, 99, 100, 101, 102, 103, 104, 105, 106, 107, 108, 109, 110, 111, 112, 113, 114, 115, 116, 117, 118] (by decide +kernel) (by decide +kernel)
set_option maxRecDepth 20000 in
theorem gX12_dayLine_X12_take : GoodIn wsX12_dayLine (wsV RX12 168 RX12 yX12_take wsX12_take) := goodIn_app (goodIn_of _ (by decide +kernel)) ggX12_dayLine_X12_take
set_option maxRecDepth 20000 in
theorem ggX12_dayLine_X12_keepTwo : GoodIn wsX12_dayLine wsX12_keepTwo := goodIn_r _ [54, 22, 55, 56, 5, 57, 58, 59, 60, 61, 62, 63, 64, 65, 66, 67, 68, 69, 70, 71, 72, 73, 74, 75, 76, 77, 78, 79, 80, 81, 82, 83, 84, 85, 86, 87, 88, 89, 90, 91, 92, 93, 94, 95, 96, 97, 98, 99, 100, 101, 102, 103, 104, 105, 106, 107, 108, 109, 110, 111, 112, 113, 114, 115, 116, 117, 118] (by decide +kernel) (by decide +kernel)
set_option maxRecDepth 20000 in
theorem gX12_dayLine_X12_keepTwo : GoodIn wsX12_dayLine (wsV RX12 203 RX12 yX12_keepTwo wsX12_keepTwo) := goodIn_app (goodIn_of _ (by decide +kernel)) ggX12_dayLine_X12_keepTwo
theorem dX12_dayLine_0 : decode cX12_dayLine 0 = .ok (.aload_n 0, 1) := by decide +kernel
theorem dX12_dayLine_1 : decode cX12_dayLine 1 = .ok (.lload_n 1, 1) := by decide +kernel
theorem dX12_dayLine_2 : decode cX12_dayLine 2 = .ok (.invokevirtual 199, 3) := by decide +kernel
theorem dX12_dayLine_5 : decode cX12_dayLine 5 = .ok (.istore 4, 2) := by decide +kernel
theorem dX12_dayLine_7 : decode cX12_dayLine 7 = .ok (.iload 4, 2) := by decide +kernel
theorem dX12_dayLine_9 : decode cX12_dayLine 9 = .ok (.iconst (-1), 1) := by decide +kernel
theorem dX12_dayLine_10 : decode cX12_dayLine 10 = .ok (.if_icmp .ne 8, 3) := by decide +kernel
theorem dX12_dayLine_13 : decode cX12_dayLine 13 = .ok (.aload_n 0, 1) := by decide +kernel
theorem dX12_dayLine_14 : decode cX12_dayLine 14 = .ok (.invokevirtual 150, 3) := by decide +kernel
theorem dX12_dayLine_17 : decode cX12_dayLine 17 = .ok (.ireturn, 1) := by decide +kernel
theorem dX12_dayLine_18 : decode cX12_dayLine 18 = .ok (.aload_n 0, 1) := by decide +kernel
theorem dX12_dayLine_19 : decode cX12_dayLine 19 = .ok (.bipush 40, 2) := by decide +kernel
theorem dX12_dayLine_21 : decode cX12_dayLine 21 = .ok (.iload_n 3, 1) := by decide +kernel
theorem dX12_dayLine_22 : decode cX12_dayLine 22 = .ok (.invokevirtual 165, 3) := by decide +kernel
theorem dX12_dayLine_25 : decode cX12_dayLine 25 = .ok (.aload_n 0, 1) := by decide +kernel
theorem dX12_dayLine_26 : decode cX12_dayLine 26 = .ok (.invokevirtual 162, 3) := by decide +kernel
theorem dX12_dayLine_29 : decode cX12_dayLine 29 = .ok (.aload_n 0, 1) := by decide +kernel
theorem dX12_dayLine_30 : decode cX12_dayLine 30 = .ok (.iconst 0, 1) := by decide +kernel
theorem dX12_dayLine_31 : decode cX12_dayLine 31 = .ok (.iload 4, 2) := by decide +kernel
theorem dX12_dayLine_33 : decode cX12_dayLine 33 = .ok (.ifCond .ne 7, 3) := by decide +kernel
theorem dX12_dayLine_36 : decode cX12_dayLine 36 = .ok (.iconst 1, 1) := by decide +kernel
theorem dX12_dayLine_37 : decode cX12_dayLine 37 = .ok (.goto 4, 3) := by decide +kernel
theorem dX12_dayLine_40 : decode cX12_dayLine 40 = .ok (.iconst 0, 1) := by decide +kernel
theorem dX12_dayLine_41 : decode cX12_dayLine 41 = .ok (.iload 4, 2) := by decide +kernel
theorem dX12_dayLine_43 : decode cX12_dayLine 43 = .ok (.ifCond .ne 8, 3) := by decide +kernel
theorem dX12_dayLine_46 : decode cX12_dayLine 46 = .ok (.bipush 9, 2) := by decide +kernel
theorem dX12_dayLine_48 : decode cX12_dayLine 48 = .ok (.goto 4, 3) := by decide +kernel
theorem dX12_dayLine_51 : decode cX12_dayLine 51 = .ok (.iconst 3, 1) := by decide +kernel
theorem dX12_dayLine_52 : decode cX12_dayLine 52 = .ok (.invokevirtual 168, 3) := by decide +kernel
theorem dX12_dayLine_55 : decode cX12_dayLine 55 = .ok (.ifCond .ne 5, 3) := by decide +kernel
theorem dX12_dayLine_58 : decode cX12_dayLine 58 = .ok (.iconst 0, 1) := by decide +kernel
theorem dX12_dayLine_59 : decode cX12_dayLine 59 = .ok (.ireturn, 1) := by decide +kernel
theorem dX12_dayLine_60 : decode cX12_dayLine 60 = .ok (.aload_n 0, 1) := by decide +kernel
theorem dX12_dayLine_61 : decode cX12_dayLine 61 = .ok (.bipush 40, 2) := by decide +kernel
theorem dX12_dayLine_63 : decode cX12_dayLine 63 = .ok (.iload 4, 2) := by decide +kernel
theorem dX12_dayLine_65 : decode cX12_dayLine 65 = .ok (.aload_n 0, 1) := by decide +kernel
theorem dX12_dayLine_66 : decode cX12_dayLine 66 = .ok (.getfield 41, 3) := by decide +kernel
theorem dX12_dayLine_69 : decode cX12_dayLine 69 = .ok (.iconst 0, 1) := by decide +kernel
theorem dX12_dayLine_70 : decode cX12_dayLine 70 = .ok (.iaload, 1) := by decide +kernel
theorem dX12_dayLine_71 : decode cX12_dayLine 71 = .ok (.invokevirtual 203, 3) := by decide +kernel
theorem dX12_dayLine_74 : decode cX12_dayLine 74 = .ok (.iconst 1, 1) := by decide +kernel
theorem dX12_dayLine_75 : decode cX12_dayLine 75 = .ok (.ireturn, 1) := by decide +kernel
set_option maxRecDepth 20000 in
theorem ggX12_logLine_X12_fails : GoodIn wsX12_logLine wsX12_fails := goodIn_r _ [8, 9, 10, 51, 52, 53, 54, 55, 56, 57, 58, 59, 60, 61, 62, 63, 64, 65, 66, 67, 68, 69, 70, 71, 72, 73, 74, 75, 76, 77, 78, 79, 80, 81, 82, 83, 84, 85, 86, 87, 88, 89, 90, 91, 92, 93, 94, 95, 96, 97, 98, 99, 100, 101, 102, 103, 104, 105, 106, 107, 108, 109, 110, 111] (by decide +kernel) (by decide +kernel)
set_option maxRecDepth 20000 in
theorem gX12_logLine_X12_fails : GoodIn wsX12_logLine (wsV RX12 150 RX12 yX12_fails wsX12_fails) := goodIn_app (goodIn_of _ (by decide +kernel)) ggX12_logLine_X12_fails
set_option maxRecDepth 20000 in
theorem ggX12_logLine_X12_full : GoodIn wsX12_logLine wsX12_full := goodIn_r _ [14, 15, 16, 17, 18, 7, 19, 20, 21, 51, 52, 53, 54, 55, 56, 57, 58, 59, 60, 61, 62, 63, 64, 65, 66, 67, 68, 69, 70, 71, 72, 73, 74, 75, 76, 77, 78, 79, 80, 81, 82, 83, 84, 85, 86, 87, 88, 89, 90, 91, 92, 93, 94, 95, 96, 97, 98, 99, 100, 101, 102, 103, 104, 105, 106, 107, 108, 109, 110, 111] (by decide +kernel) (by decide +kernel)
set_option maxRecDepth 20000 in
theorem gX12_logLine_X12_full : GoodIn wsX12_logLine (wsV RX12 165 RX12 yX12_full wsX12_full) := goodIn_app (goodIn_of _ (by decide +kernel)) ggX12_logLine_X12_full
set_option maxRecDepth 20000 in
theorem ggX12_logLine_X12_token : GoodIn wsX12_logLine wsX12_token := goodIn_r _ [25, 26, 9, 27, 28, 29, 30, 31, 32, 7, 33, 34, 35, 36, 37, 38, 51, 52, 53, 54, 55, 56, 57, 58, 59, 60, 61, 62, 63, 64, 65, 66, 67, 68, 69, 70, 71, 72, 73, 74, 75, 76, 77, 78, 79, 80, 81, 82, 83, 84, 85, 86, 87, 88, 89, 90, 91, 92, 93, 94, 95, 96, 97, 98, 99, 100, 101, 102, 103, 104, 105, 106, 107, 108, 109, 110, 111] (by decide +kernel) (by decide +kernel)
set_option maxRecDepth 20000 in
theorem gX12_logLine_X12_token : GoodIn wsX12_logLine (wsV RX12 162 RX12 yX12_token wsX12_token) := goodIn_app (goodIn_of _ (by decide +kernel)) ggX12_logLine_X12_token
set_option maxRecDepth 20000 in
theorem ggX12_logLine_X12_take : GoodIn wsX12_logLine wsX12_take := goodIn_r _ [42, 28, 3, 29, 9, 43, 4, 5, 6, 7, 8, 10, 36, 37, 38, 16, 17, 18, 19, 20, 21, 22, 23, 24, 25, 26, 27, 30, 31, 32, 33, 34, 35, 51, 52, 53, 54, 55, 56, 57, 58, 59, 60, 61, 62, 63, 64, 65, 66, 67, 68, 69, 70, 71, 72, 73, 74, 75, 76, 77, 78, 79, 80, 81, 82, 83, 84, 85, 86, 87, 88, 89, 90, 91, 92, 93, 94, 95, 96, 97, 98, 99, 100, 101, 102, 103, 104, 105, 106, 107, 108, 109, 110, 111] (by decide +kernel) (by decide +kernel)
set_option maxRecDepth 20000 in
theorem gX12_logLine_X12_take : GoodIn wsX12_logLine (wsV RX12 168 RX12 yX12_take wsX12_take) := goodIn_app (goodIn_of _ (by decide +kernel)) ggX12_logLine_X12_take
set_option maxRecDepth 20000 in
theorem ggX12_logLine_X12_keepTwo : GoodIn wsX12_logLine wsX12_keepTwo := goodIn_r _ [47, 15, 48, 49, 7, 50, 51, 52, 53, 54, 55, 56, 57, 58, 59, 60, 61, 62, 63, 64, 65, 66, 67, 68, 69, 70, 71, 72, 73, 74, 75, 76, 77, 78, 79, 80, 81, 82, 83, 84, 85, 86, 87, 88, 89, 90, 91, 92, 93, 94, 95, 96, 97, 98, 99, 100, 101, 102, 103, 104, 105, 106, 107, 108, 109, 110, 111] (by decide +kernel) (by decide +kernel)
set_option maxRecDepth 20000 in
theorem gX12_logLine_X12_keepTwo : GoodIn wsX12_logLine (wsV RX12 203 RX12 yX12_keepTwo wsX12_keepTwo) := goodIn_app (goodIn_of _ (by decide +kernel)) ggX12_logLine_X12_keepTwo
theorem dX12_logLine_0 : decode cX12_logLine 0 = .ok (.lload_n 1, 1) := by decide +kernel
theorem dX12_logLine_1 : decode cX12_logLine 1 = .ok (.ldc2_w 207, 3) := by decide +kernel
theorem dX12_logLine_4 : decode cX12_logLine 4 = .ok (.lcmp, 1) := by decide +kernel
theorem dX12_logLine_5 : decode cX12_logLine 5 = .ok (.ifCond .eq 16, 3) := by decide +kernel
theorem dX12_logLine_8 : decode cX12_logLine 8 = .ok (.lload_n 1, 1) := by decide +kernel
theorem dX12_logLine_9 : decode cX12_logLine 9 = .ok (.ldc2_w 209, 3) := by decide +kernel
theorem dX12_logLine_12 : decode cX12_logLine 12 = .ok (.lcmp, 1) := by decide +kernel
theorem dX12_logLine_13 : decode cX12_logLine 13 = .ok (.ifCond .eq 8, 3) := by decide +kernel
theorem dX12_logLine_16 : decode cX12_logLine 16 = .ok (.aload_n 0, 1) := by decide +kernel
theorem dX12_logLine_17 : decode cX12_logLine 17 = .ok (.invokevirtual 150, 3) := by decide +kernel
theorem dX12_logLine_20 : decode cX12_logLine 20 = .ok (.ireturn, 1) := by decide +kernel
theorem dX12_logLine_21 : decode cX12_logLine 21 = .ok (.aload_n 0, 1) := by decide +kernel
theorem dX12_logLine_22 : decode cX12_logLine 22 = .ok (.bipush 8, 2) := by decide +kernel
theorem dX12_logLine_24 : decode cX12_logLine 24 = .ok (.iload_n 3, 1) := by decide +kernel
theorem dX12_logLine_25 : decode cX12_logLine 25 = .ok (.invokevirtual 165, 3) := by decide +kernel
theorem dX12_logLine_28 : decode cX12_logLine 28 = .ok (.aload_n 0, 1) := by decide +kernel
theorem dX12_logLine_29 : decode cX12_logLine 29 = .ok (.invokevirtual 162, 3) := by decide +kernel
theorem dX12_logLine_32 : decode cX12_logLine 32 = .ok (.aload_n 0, 1) := by decide +kernel
theorem dX12_logLine_33 : decode cX12_logLine 33 = .ok (.getfield 41, 3) := by decide +kernel
theorem dX12_logLine_36 : decode cX12_logLine 36 = .ok (.iconst 0, 1) := by decide +kernel
theorem dX12_logLine_37 : decode cX12_logLine 37 = .ok (.iconst (-1), 1) := by decide +kernel
theorem dX12_logLine_38 : decode cX12_logLine 38 = .ok (.iastore, 1) := by decide +kernel
theorem dX12_logLine_39 : decode cX12_logLine 39 = .ok (.lload_n 1, 1) := by decide +kernel
theorem dX12_logLine_40 : decode cX12_logLine 40 = .ok (.ldc2_w 207, 3) := by decide +kernel
theorem dX12_logLine_43 : decode cX12_logLine 43 = .ok (.lcmp, 1) := by decide +kernel
theorem dX12_logLine_44 : decode cX12_logLine 44 = .ok (.ifCond .ne 13, 3) := by decide +kernel
theorem dX12_logLine_47 : decode cX12_logLine 47 = .ok (.aload_n 0, 1) := by decide +kernel
theorem dX12_logLine_48 : decode cX12_logLine 48 = .ok (.iconst 0, 1) := by decide +kernel
theorem dX12_logLine_49 : decode cX12_logLine 49 = .ok (.iconst 0, 1) := by decide +kernel
theorem dX12_logLine_50 : decode cX12_logLine 50 = .ok (.iconst 3, 1) := by decide +kernel
theorem dX12_logLine_51 : decode cX12_logLine 51 = .ok (.invokevirtual 168, 3) := by decide +kernel
theorem dX12_logLine_54 : decode cX12_logLine 54 = .ok (.ifCond .eq 14, 3) := by decide +kernel
theorem dX12_logLine_57 : decode cX12_logLine 57 = .ok (.aload_n 0, 1) := by decide +kernel
theorem dX12_logLine_58 : decode cX12_logLine 58 = .ok (.iconst 1, 1) := by decide +kernel
theorem dX12_logLine_59 : decode cX12_logLine 59 = .ok (.iconst 1, 1) := by decide +kernel
theorem dX12_logLine_60 : decode cX12_logLine 60 = .ok (.bipush 40, 2) := by decide +kernel
theorem dX12_logLine_62 : decode cX12_logLine 62 = .ok (.invokevirtual 168, 3) := by decide +kernel
theorem dX12_logLine_65 : decode cX12_logLine 65 = .ok (.ifCond .ne 5, 3) := by decide +kernel
theorem dX12_logLine_68 : decode cX12_logLine 68 = .ok (.iconst 0, 1) := by decide +kernel
theorem dX12_logLine_69 : decode cX12_logLine 69 = .ok (.ireturn, 1) := by decide +kernel
theorem dX12_logLine_70 : decode cX12_logLine 70 = .ok (.aload_n 0, 1) := by decide +kernel
theorem dX12_logLine_71 : decode cX12_logLine 71 = .ok (.bipush 8, 2) := by decide +kernel
theorem dX12_logLine_73 : decode cX12_logLine 73 = .ok (.aload_n 0, 1) := by decide +kernel
theorem dX12_logLine_74 : decode cX12_logLine 74 = .ok (.getfield 41, 3) := by decide +kernel
theorem dX12_logLine_77 : decode cX12_logLine 77 = .ok (.iconst 1, 1) := by decide +kernel
theorem dX12_logLine_78 : decode cX12_logLine 78 = .ok (.iaload, 1) := by decide +kernel
theorem dX12_logLine_79 : decode cX12_logLine 79 = .ok (.aload_n 0, 1) := by decide +kernel
theorem dX12_logLine_80 : decode cX12_logLine 80 = .ok (.getfield 41, 3) := by decide +kernel
theorem dX12_logLine_83 : decode cX12_logLine 83 = .ok (.iconst 0, 1) := by decide +kernel
theorem dX12_logLine_84 : decode cX12_logLine 84 = .ok (.iaload, 1) := by decide +kernel
theorem dX12_logLine_85 : decode cX12_logLine 85 = .ok (.invokevirtual 203, 3) := by decide +kernel
theorem dX12_logLine_88 : decode cX12_logLine 88 = .ok (.iconst 1, 1) := by decide +kernel
theorem dX12_logLine_89 : decode cX12_logLine 89 = .ok (.ireturn, 1) := by decide +kernel
set_option maxRecDepth 20000 in
theorem ggX12_orderLine_X12_fails : GoodIn wsX12_orderLine wsX12_fails := goodIn_r _ [8, 9, 10, 46, 47, 48, 49, 50, 51, 52, 53, 54, 55, 56, 57, 58, 59, 60, 61, 62, 63, 64, 65, 66, 67, 68, 69, 70, 71, 72, 73, 74, 75, 76, 77, 78, 79, 80, 81, 82, 83, 84, 85, 86, 87, 88, 89, 90, 91, 92, 93, 94, 95, 96, 97, 98, 99, 100, 101, 102, 103, 104, 105, 106] (by decide +kernel) (by decide +kernel)
set_option maxRecDepth 20000 in
theorem gX12_orderLine_X12_fails : GoodIn wsX12_orderLine (wsV RX12 150 RX12 yX12_fails wsX12_fails) := goodIn_app (goodIn_of _ (by decide +kernel)) ggX12_orderLine_X12_fails
set_option maxRecDepth 20000 in
theorem ggX12_orderLine_X12_full : GoodIn wsX12_orderLine wsX12_full := goodIn_r _ [14, 2, 15, 16, 17, 7, 18, 19, 20, 46, 47, 48, 49, 50, 51, 52, 53, 54, 55, 56, 57, 58, 59, 60, 61, 62, 63, 64, 65, 66, 67, 68, 69, 70, 71, 72, 73, 74, 75, 76, 77, 78, 79, 80, 81, 82, 83, 84, 85, 86, 87, 88, 89, 90, 91, 92, 93, 94, 95, 96, 97, 98, 99, 100, 101, 102, 103, 104, 105, 106] (by decide +kernel) (by decide +kernel)
set_option maxRecDepth 20000 in
theorem gX12_orderLine_X12_full : GoodIn wsX12_orderLine (wsV RX12 165 RX12 yX12_full wsX12_full) := goodIn_app (goodIn_of _ (by decide +kernel)) ggX12_orderLine_X12_full
set_option maxRecDepth 20000 in
theorem ggX12_orderLine_X12_token : GoodIn wsX12_orderLine wsX12_token := goodIn_r _ [24, 25, 9, 26, 27, 28, 29, 30, 31, 7, 32, 33, 34, 35, 36, 37, 46, 47, 48, 49, 50, 51, 52, 53, 54, 55, 56, 57, 58, 59, 60, 61, 62, 63, 64, 65, 66, 67, 68, 69, 70, 71, 72, 73, 74, 75, 76, 77, 78, 79, 80, 81, 82, 83, 84, 85, 86, 87, 88, 89, 90, 91, 92, 93, 94, 95, 96, 97, 98, 99, 100, 101, 102, 103, 104, 105, 106] (by decide +kernel) (by decide +kernel)
set_option maxRecDepth 20000 in
theorem gX12_orderLine_X12_token : GoodIn wsX12_orderLine (wsV RX12 162 RX12 yX12_token wsX12_token) := goodIn_app (goodIn_of _ (by decide +kernel)) ggX12_orderLine_X12_token
set_option maxRecDepth 20000 in
theorem ggX12_orderLine_X12_take : GoodIn wsX12_orderLine wsX12_take := goodIn_r _ [41, 27, 3, 28, 9, 42, 4, 5, 6, 7, 8, 10, 35, 36, 37, 15, 16, 17, 18, 19, 20, 21, 22, 23, 24, 25, 26, 29, 30, 31, 32, 33, 34, 46, 47, 48, 49, 50, 51, 52, 53, 54, 55, 56, 57, 58, 59, 60, 61, 62, 63, 64, 65, 66, 67, 68, 69, 70, 71, 72, 73, 74, 75, 76, 77, 78, 79, 80, 81, 82, 83, 84, 85, 86, 87, 88, 89, 90, 91, 92, 93, 94, 95, 96, 97, 98, 99, 100, 101, 102, 103, 104, 105, 106] (by decide +kernel) (by decide +kernel)
set_option maxRecDepth 20000 in
theorem gX12_orderLine_X12_take : GoodIn wsX12_orderLine (wsV RX12 168 RX12 yX12_take wsX12_take) := goodIn_app (goodIn_of _ (by decide +kernel)) ggX12_orderLine_X12_take
set_option maxRecDepth 20000 in
theorem ggX12_orderLine_X12_lesser : GoodIn wsX12_orderLine wsX12_lesser := goodIn_r _ [45] (by decide +kernel) (by decide +kernel)
set_option maxRecDepth 20000 in
theorem gX12_orderLine_X12_lesser : GoodIn wsX12_orderLine (va_wsS RX12 171 yX12_lesser wsX12_lesser) := goodIn_app (goodIn_of _ (by decide +kernel)) ggX12_orderLine_X12_lesser
theorem dX12_orderLine_0 : decode cX12_orderLine 0 = .ok (.lload_n 1, 1) := by decide +kernel
theorem dX12_orderLine_1 : decode cX12_orderLine 1 = .ok (.ldc2_w 211, 3) := by decide +kernel
theorem dX12_orderLine_4 : decode cX12_orderLine 4 = .ok (.lcmp, 1) := by decide +kernel
theorem dX12_orderLine_5 : decode cX12_orderLine 5 = .ok (.ifCond .eq 8, 3) := by decide +kernel
theorem dX12_orderLine_8 : decode cX12_orderLine 8 = .ok (.aload_n 0, 1) := by decide +kernel
theorem dX12_orderLine_9 : decode cX12_orderLine 9 = .ok (.invokevirtual 150, 3) := by decide +kernel
theorem dX12_orderLine_12 : decode cX12_orderLine 12 = .ok (.ireturn, 1) := by decide +kernel
theorem dX12_orderLine_13 : decode cX12_orderLine 13 = .ok (.aload_n 0, 1) := by decide +kernel
theorem dX12_orderLine_14 : decode cX12_orderLine 14 = .ok (.bipush 6, 2) := by decide +kernel
theorem dX12_orderLine_16 : decode cX12_orderLine 16 = .ok (.iload_n 3, 1) := by decide +kernel
theorem dX12_orderLine_17 : decode cX12_orderLine 17 = .ok (.invokevirtual 165, 3) := by decide +kernel
theorem dX12_orderLine_20 : decode cX12_orderLine 20 = .ok (.aload_n 0, 1) := by decide +kernel
theorem dX12_orderLine_21 : decode cX12_orderLine 21 = .ok (.invokevirtual 162, 3) := by decide +kernel
theorem dX12_orderLine_24 : decode cX12_orderLine 24 = .ok (.aload_n 0, 1) := by decide +kernel
theorem dX12_orderLine_25 : decode cX12_orderLine 25 = .ok (.iconst 0, 1) := by decide +kernel
theorem dX12_orderLine_26 : decode cX12_orderLine 26 = .ok (.iconst 1, 1) := by decide +kernel
theorem dX12_orderLine_27 : decode cX12_orderLine 27 = .ok (.bipush 30, 2) := by decide +kernel
theorem dX12_orderLine_29 : decode cX12_orderLine 29 = .ok (.invokevirtual 168, 3) := by decide +kernel
theorem dX12_orderLine_32 : decode cX12_orderLine 32 = .ok (.ifCond .ne 5, 3) := by decide +kernel
theorem dX12_orderLine_35 : decode cX12_orderLine 35 = .ok (.iconst 0, 1) := by decide +kernel
theorem dX12_orderLine_36 : decode cX12_orderLine 36 = .ok (.ireturn, 1) := by decide +kernel
theorem dX12_orderLine_37 : decode cX12_orderLine 37 = .ok (.aload_n 0, 1) := by decide +kernel
theorem dX12_orderLine_38 : decode cX12_orderLine 38 = .ok (.getfield 38, 3) := by decide +kernel
theorem dX12_orderLine_41 : decode cX12_orderLine 41 = .ok (.iconst 0, 1) := by decide +kernel
theorem dX12_orderLine_42 : decode cX12_orderLine 42 = .ok (.iaload, 1) := by decide +kernel
theorem dX12_orderLine_43 : decode cX12_orderLine 43 = .ok (.istore 4, 2) := by decide +kernel
theorem dX12_orderLine_45 : decode cX12_orderLine 45 = .ok (.iload 4, 2) := by decide +kernel
theorem dX12_orderLine_47 : decode cX12_orderLine 47 = .ok (.bipush 6, 2) := by decide +kernel
theorem dX12_orderLine_49 : decode cX12_orderLine 49 = .ok (.if_icmp .ge 18, 3) := by decide +kernel
theorem dX12_orderLine_52 : decode cX12_orderLine 52 = .ok (.aload_n 0, 1) := by decide +kernel
theorem dX12_orderLine_53 : decode cX12_orderLine 53 = .ok (.getfield 38, 3) := by decide +kernel
theorem dX12_orderLine_56 : decode cX12_orderLine 56 = .ok (.iconst 1, 1) := by decide +kernel
theorem dX12_orderLine_57 : decode cX12_orderLine 57 = .ok (.iload 4, 2) := by decide +kernel
theorem dX12_orderLine_59 : decode cX12_orderLine 59 = .ok (.iadd, 1) := by decide +kernel
theorem dX12_orderLine_60 : decode cX12_orderLine 60 = .ok (.aload_n 0, 1) := by decide +kernel
theorem dX12_orderLine_61 : decode cX12_orderLine 61 = .ok (.getfield 41, 3) := by decide +kernel
theorem dX12_orderLine_64 : decode cX12_orderLine 64 = .ok (.iconst 0, 1) := by decide +kernel
theorem dX12_orderLine_65 : decode cX12_orderLine 65 = .ok (.iaload, 1) := by decide +kernel
theorem dX12_orderLine_66 : decode cX12_orderLine 66 = .ok (.iastore, 1) := by decide +kernel
theorem dX12_orderLine_67 : decode cX12_orderLine 67 = .ok (.aload_n 0, 1) := by decide +kernel
theorem dX12_orderLine_68 : decode cX12_orderLine 68 = .ok (.getfield 38, 3) := by decide +kernel
theorem dX12_orderLine_71 : decode cX12_orderLine 71 = .ok (.iconst 0, 1) := by decide +kernel
theorem dX12_orderLine_72 : decode cX12_orderLine 72 = .ok (.bipush 6, 2) := by decide +kernel
theorem dX12_orderLine_74 : decode cX12_orderLine 74 = .ok (.iload 4, 2) := by decide +kernel
theorem dX12_orderLine_76 : decode cX12_orderLine 76 = .ok (.iconst 1, 1) := by decide +kernel
theorem dX12_orderLine_77 : decode cX12_orderLine 77 = .ok (.iadd, 1) := by decide +kernel
theorem dX12_orderLine_78 : decode cX12_orderLine 78 = .ok (.invokestatic 171, 3) := by decide +kernel
theorem dX12_orderLine_81 : decode cX12_orderLine 81 = .ok (.iastore, 1) := by decide +kernel
theorem dX12_orderLine_82 : decode cX12_orderLine 82 = .ok (.iconst 1, 1) := by decide +kernel
theorem dX12_orderLine_83 : decode cX12_orderLine 83 = .ok (.ireturn, 1) := by decide +kernel
set_option maxRecDepth 20000 in
theorem ggX12_lineOf_X12_shelfLine : GoodIn wsX12_lineOf wsX12_shelfLine := goodIn_r _ [5, 6, 7, 8, 9, 10, 11, 12, 13, 14, 4, 15, 16, 17, 18, 19, 20, 21, 22, 23, 24, 25, 26, 27, 28, 29, 30, 31, 32, 33, 34, 35, 36, 37, 38, 39, 40, 41, 42, 43, 44, 45, 46, 47, 48, 49, 50, 51, 52, 53, 54, 55, 56, 57, 58, 87, 88, 89, 90, 91, 92, 93, 94, 95, 96, 97, 98, 99, 100, 101, 102, 103, 104, 105, 106, 107, 108, 109, 110, 111, 112, 113, 114, 115, 116, 117, 118, 119, 120, 121, 122, 123, 124, 125, 126, 127, 128, 129, 130, 131, 132, 133, 134, 135, 136, 137, 138, 139, 140, 141, 142, 143, 144, 145, 146, 147] (by decide +kernel) (by decide +kernel)
set_option maxRecDepth 20000 in
theorem gX12_lineOf_X12_shelfLine : GoodIn wsX12_lineOf (wsV RX12 213 RX12 yX12_shelfLine wsX12_shelfLine) := goodIn_app (goodIn_of _ (by decide +kernel)) ggX12_lineOf_X12_shelfLine
set_option maxRecDepth 20000 in
theorem ggX12_lineOf_X12_dayLine : GoodIn wsX12_lineOf wsX12_dayLine := goodIn_r _ [62, 9, 63, 64, 65, 4, 66, 67, 68, 69, 70, 71, 48, 49, 50, 51, 31, 52, 16, 17, 18, 19, 11, 20, 21, 22, 23, 24, 25, 26, 27, 28, 29, 30, 32, 33, 34, 35, 36, 37, 38, 39, 40, 41, 42, 43, 44, 45, 46, 47, 10, 72, 73, 74, 75, 53, 54, 55, 87, 88, 89, 90, 91, 92, 93, 94, 95, 96, 97, 98, 99, 100, 101, 102, 103, 104, 105, 106, 107, 108, 109, 110, 111, 112, 113, 114, 115, 116, 117, 118, 119, 120, 121, 122, 123, 124, 125, 126, 127, 128, 129, 130, 131, 132, 133, 134, 135, 136, 137, 138, 139, 140, 141, 142, 143, 144, 145, 146, 147] (by decide +kernel) (by decide +kernel)
set_option maxRecDepth 20000 in
theorem gX12_lineOf_X12_dayLine : GoodIn wsX12_lineOf (wsV RX12 217 RX12 yX12_dayLine wsX12_dayLine) := goodIn_app (goodIn_of _ (by decide +kernel)) ggX12_lineOf_X12_dayLine
set_option maxRecDepth 20000 in
theorem ggX12_lineOf_X12_logLine : GoodIn wsX12_lineOf wsX12_logLine := goodIn_r _ [79, 80, 81, 9, 48, 49, 50, 4, 51, 31, 52, 16, 17, 18, 19, 11, 20, 21, 22, 23, 24, 25, 26, 27, 28, 29, 30, 32, 33, 34, 35, 36, 37, 38, 39, 40, 41, 42, 43, 44, 45, 46, 47, 10, 72, 73, 74, 75, 53, 54, 55, 87, 88, 89, 90, 91, 92, 93, 94, 95, 96, 97, 98, 99, 100, 101, 102, 103, 104, 105, 106, 107, 108, 109, 110, 111, 112, 113, 114, 115, 116, 117, 118, 119, 120, 121, 122, 123, 124, 125, 126, 127, 128, 129, 130, 131, 132, 133, 134, 135, 136, 137, 138, 139, 140, 141, 142, 143, 144, 145, 146, 147] (by decide +kernel) (by decide +kernel)
set_option maxRecDepth 20000 in
theorem gX12_lineOf_X12_logLine : GoodIn wsX12_lineOf (wsV RX12 220 RX12 yX12_logLine wsX12_logLine) := goodIn_app (goodIn_of _ (by decide +kernel)) ggX12_lineOf_X12_logLine
set_option maxRecDepth 20000 in
theorem ggX12_lineOf_X12_orderLine : GoodIn wsX12_lineOf wsX12_orderLine := goodIn_r _ [85, 86, 11, 9, 48, 49, 50, 4, 51, 31, 52, 16, 17, 18, 19, 20, 21, 22, 23, 24, 25, 26, 27, 28, 29, 30, 32, 33, 34, 35, 36, 37, 38, 39, 40, 41, 42, 43, 44, 45, 46, 47, 10, 53, 54, 55, 87, 88, 89, 90, 91, 92, 93, 94, 95, 96, 97, 98, 99, 100, 101, 102, 103, 104, 105, 106, 107, 108, 109, 110, 111, 112, 113, 114, 115, 116, 117, 118, 119, 120, 121, 122, 123, 124, 125, 126, 127, 128, 129, 130, 131, 132, 133, 134, 135, 136, 137, 138, 139, 140, 141, 142, 143, 144, 145, 146, 147] (by decide +kernel) (by decide +kernel)
set_option maxRecDepth 20000 in
theorem gX12_lineOf_X12_orderLine : GoodIn wsX12_lineOf (wsV RX12 223 RX12 yX12_orderLine wsX12_orderLine) := goodIn_app (goodIn_of _ (by decide +kernel)) ggX12_lineOf_X12_orderLine
theorem dX12_lineOf_0 : decode cX12_lineOf 0 = .ok (.iload_n 1, 1) := by decide +kernel
theorem dX12_lineOf_1 : decode cX12_lineOf 1 = .ok (.ifCond .ne 13, 3) := by decide +kernel
theorem dX12_lineOf_4 : decode cX12_lineOf 4 = .ok (.aload_n 0, 1) := by decide +kernel
theorem dX12_lineOf_5 : decode cX12_lineOf 5 = .ok (.lload_n 2, 1) := by decide +kernel
theorem dX12_lineOf_6 : decode cX12_lineOf 6 = .ok (.iload 4, 2) := by decide +kernel
theorem dX12_lineOf_8 : decode cX12_lineOf 8 = .ok (.invokevirtual 213, 3) := by decide +kernel
theorem dX12_lineOf_11 : decode cX12_lineOf 11 = .ok (.goto 40, 3) := by decide +kernel
theorem dX12_lineOf_14 : decode cX12_lineOf 14 = .ok (.iload_n 1, 1) := by decide +kernel
theorem dX12_lineOf_15 : decode cX12_lineOf 15 = .ok (.iconst 1, 1) := by decide +kernel
theorem dX12_lineOf_16 : decode cX12_lineOf 16 = .ok (.if_icmp .ne 13, 3) := by decide +kernel
theorem dX12_lineOf_19 : decode cX12_lineOf 19 = .ok (.aload_n 0, 1) := by decide +kernel
theorem dX12_lineOf_20 : decode cX12_lineOf 20 = .ok (.lload_n 2, 1) := by decide +kernel
theorem dX12_lineOf_21 : decode cX12_lineOf 21 = .ok (.iload 4, 2) := by decide +kernel
theorem dX12_lineOf_23 : decode cX12_lineOf 23 = .ok (.invokevirtual 217, 3) := by decide +kernel
theorem dX12_lineOf_26 : decode cX12_lineOf 26 = .ok (.goto 25, 3) := by decide +kernel
theorem dX12_lineOf_29 : decode cX12_lineOf 29 = .ok (.iload_n 1, 1) := by decide +kernel
theorem dX12_lineOf_30 : decode cX12_lineOf 30 = .ok (.iconst 2, 1) := by decide +kernel
theorem dX12_lineOf_31 : decode cX12_lineOf 31 = .ok (.if_icmp .ne 13, 3) := by decide +kernel
theorem dX12_lineOf_34 : decode cX12_lineOf 34 = .ok (.aload_n 0, 1) := by decide +kernel
theorem dX12_lineOf_35 : decode cX12_lineOf 35 = .ok (.lload_n 2, 1) := by decide +kernel
theorem dX12_lineOf_36 : decode cX12_lineOf 36 = .ok (.iload 4, 2) := by decide +kernel
theorem dX12_lineOf_38 : decode cX12_lineOf 38 = .ok (.invokevirtual 220, 3) := by decide +kernel
theorem dX12_lineOf_41 : decode cX12_lineOf 41 = .ok (.goto 10, 3) := by decide +kernel
theorem dX12_lineOf_44 : decode cX12_lineOf 44 = .ok (.aload_n 0, 1) := by decide +kernel
theorem dX12_lineOf_45 : decode cX12_lineOf 45 = .ok (.lload_n 2, 1) := by decide +kernel
theorem dX12_lineOf_46 : decode cX12_lineOf 46 = .ok (.iload 4, 2) := by decide +kernel
theorem dX12_lineOf_48 : decode cX12_lineOf 48 = .ok (.invokevirtual 223, 3) := by decide +kernel
theorem dX12_lineOf_51 : decode cX12_lineOf 51 = .ok (.ireturn, 1) := by decide +kernel
set_option maxRecDepth 20000 in
theorem ggX12_allLines_X12_lineOf : GoodIn wsX12_allLines wsX12_lineOf := goodIn_r _ [9, 10, 11, 12, 8, 13, 14, 15, 16, 17, 4, 18, 19, 20, 21, 22, 23, 24, 25, 26, 27, 28, 29, 30, 31, 32, 33, 34, 35, 36, 37, 2, 3, 1, 38, 39, 40, 41, 42, 43, 44, 45, 46, 47, 48, 49, 50, 51, 52, 53, 54, 55, 56, 57, 58, 59, 60, 61, 62, 63, 64, 65, 66, 67, 68, 69, 70, 71, 72, 73, 74, 75, 76, 77, 78, 79, 80, 81, 82, 83, 84, 85, 86, 87, 88, 89, 90, 91, 92, 93, 94, 95, 96, 97, 98, 99, 100, 101, 102, 103, 104, 105, 106, 107, 108, 109, 110, 111, 112, 113, 114, 115, 116, 117, 118, 119, 120, 121, 122, 123, 124, 125, 126, 127, 128, 129, 130, 131, 132, 133, 134, 135, 136, 137, 138, 139, 140, 141, 142, 143, 144, 145, 146, 147, 148, 149, 150, 151] (by decide +kernel) (by decide +kernel)
set_option maxRecDepth 20000 in
theorem gX12_allLines_X12_lineOf : GoodIn wsX12_allLines (wsV RX12 226 RX12 yX12_lineOf wsX12_lineOf) := goodIn_app (goodIn_of _ (by decide +kernel)) ggX12_allLines_X12_lineOf
set_option maxRecDepth 20000 in
theorem ggX12_allLines_X12_fails : GoodIn wsX12_allLines wsX12_fails := goodIn_r _ [55, 2, 56, 91, 92, 93, 94, 95, 96, 97, 98, 99, 100, 101, 102, 103, 104, 105, 106, 107, 108, 109, 110, 111, 112, 113, 114, 115, 116, 117, 118, 119, 120, 121, 122, 123, 124, 125, 126, 127, 128, 129, 130, 131, 132, 133, 134, 135, 136, 137, 138, 139, 140, 141, 142, 143, 144, 145, 146, 147, 148, 149, 150, 151] (by decide +kernel) (by decide +kernel)
set_option maxRecDepth 20000 in
theorem gX12_allLines_X12_fails : GoodIn wsX12_allLines (wsV RX12 150 RX12 yX12_fails wsX12_fails) := goodIn_app (goodIn_of _ (by decide +kernel)) ggX12_allLines_X12_fails
set_option maxRecDepth 20000 in
theorem ggX12_allLines_X12_token : GoodIn wsX12_allLines wsX12_token := goodIn_r _ [36, 37, 2, 3, 1, 38, 39, 40, 41, 8, 42, 43, 44, 45, 46, 47, 91, 92, 93, 94, 95, 96, 97, 98, 99, 100, 101, 102, 103, 104, 105, 106, 107, 108, 109, 110, 111, 112, 113, 114, 115, 116, 117, 118, 119, 120, 121, 122, 123, 124, 125, 126, 127, 128, 129, 130, 131, 132, 133, 134, 135, 136, 137, 138, 139, 140, 141, 142, 143, 144, 145, 146, 147, 148, 149, 150, 151] (by decide +kernel) (by decide +kernel)
set_option maxRecDepth 20000 in
theorem gX12_allLines_X12_token : GoodIn wsX12_allLines (wsV RX12 162 RX12 yX12_token wsX12_token) := goodIn_app (goodIn_of _ (by decide +kernel)) ggX12_allLines_X12_token
theorem dX12_allLines_0 : decode cX12_allLines 0 = .ok (.iconst 1, 1) := by decide +kernel
theorem dX12_allLines_1 : decode cX12_allLines 1 = .ok (.istore_n 2, 1) := by decide +kernel
theorem dX12_allLines_2 : decode cX12_allLines 2 = .ok (.iload_n 2, 1) := by decide +kernel
theorem dX12_allLines_3 : decode cX12_allLines 3 = .ok (.ifCond .eq 75, 3) := by decide +kernel
theorem dX12_allLines_6 : decode cX12_allLines 6 = .ok (.aload_n 0, 1) := by decide +kernel
theorem dX12_allLines_7 : decode cX12_allLines 7 = .ok (.getfield 135, 3) := by decide +kernel
theorem dX12_allLines_10 : decode cX12_allLines 10 = .ok (.ifCond .eq 68, 3) := by decide +kernel
theorem dX12_allLines_13 : decode cX12_allLines 13 = .ok (.aload_n 0, 1) := by decide +kernel
theorem dX12_allLines_14 : decode cX12_allLines 14 = .ok (.getfield 128, 3) := by decide +kernel
theorem dX12_allLines_17 : decode cX12_allLines 17 = .ok (.istore_n 3, 1) := by decide +kernel
theorem dX12_allLines_18 : decode cX12_allLines 18 = .ok (.aload_n 0, 1) := by decide +kernel
theorem dX12_allLines_19 : decode cX12_allLines 19 = .ok (.getfield 135, 3) := by decide +kernel
theorem dX12_allLines_22 : decode cX12_allLines 22 = .ok (.iconst 2, 1) := by decide +kernel
theorem dX12_allLines_23 : decode cX12_allLines 23 = .ok (.if_icmp .ne 10, 3) := by decide +kernel
theorem dX12_allLines_26 : decode cX12_allLines 26 = .ok (.aload_n 0, 1) := by decide +kernel
theorem dX12_allLines_27 : decode cX12_allLines 27 = .ok (.getfield 131, 3) := by decide +kernel
theorem dX12_allLines_30 : decode cX12_allLines 30 = .ok (.goto 4, 3) := by decide +kernel
theorem dX12_allLines_33 : decode cX12_allLines 33 = .ok (.lconst 0, 1) := by decide +kernel
theorem dX12_allLines_34 : decode cX12_allLines 34 = .ok (.lstore 4, 2) := by decide +kernel
theorem dX12_allLines_36 : decode cX12_allLines 36 = .ok (.aload_n 0, 1) := by decide +kernel
theorem dX12_allLines_37 : decode cX12_allLines 37 = .ok (.iconst 1, 1) := by decide +kernel
theorem dX12_allLines_38 : decode cX12_allLines 38 = .ok (.putfield 158, 3) := by decide +kernel
theorem dX12_allLines_41 : decode cX12_allLines 41 = .ok (.aload_n 0, 1) := by decide +kernel
theorem dX12_allLines_42 : decode cX12_allLines 42 = .ok (.iload_n 1, 1) := by decide +kernel
theorem dX12_allLines_43 : decode cX12_allLines 43 = .ok (.lload 4, 2) := by decide +kernel
theorem dX12_allLines_45 : decode cX12_allLines 45 = .ok (.iload_n 3, 1) := by decide +kernel
theorem dX12_allLines_46 : decode cX12_allLines 46 = .ok (.invokevirtual 226, 3) := by decide +kernel
theorem dX12_allLines_49 : decode cX12_allLines 49 = .ok (.istore_n 2, 1) := by decide +kernel
theorem dX12_allLines_50 : decode cX12_allLines 50 = .ok (.iload_n 2, 1) := by decide +kernel
theorem dX12_allLines_51 : decode cX12_allLines 51 = .ok (.ifCond .eq 16, 3) := by decide +kernel
theorem dX12_allLines_54 : decode cX12_allLines 54 = .ok (.aload_n 0, 1) := by decide +kernel
theorem dX12_allLines_55 : decode cX12_allLines 55 = .ok (.getfield 135, 3) := by decide +kernel
theorem dX12_allLines_58 : decode cX12_allLines 58 = .ok (.iconst 4, 1) := by decide +kernel
theorem dX12_allLines_59 : decode cX12_allLines 59 = .ok (.if_icmp .eq 8, 3) := by decide +kernel
theorem dX12_allLines_62 : decode cX12_allLines 62 = .ok (.aload_n 0, 1) := by decide +kernel
theorem dX12_allLines_63 : decode cX12_allLines 63 = .ok (.invokevirtual 150, 3) := by decide +kernel
theorem dX12_allLines_66 : decode cX12_allLines 66 = .ok (.istore_n 2, 1) := by decide +kernel
theorem dX12_allLines_67 : decode cX12_allLines 67 = .ok (.iload_n 2, 1) := by decide +kernel
theorem dX12_allLines_68 : decode cX12_allLines 68 = .ok (.ifCond .eq 7, 3) := by decide +kernel
theorem dX12_allLines_71 : decode cX12_allLines 71 = .ok (.aload_n 0, 1) := by decide +kernel
theorem dX12_allLines_72 : decode cX12_allLines 72 = .ok (.invokevirtual 162, 3) := by decide +kernel
theorem dX12_allLines_75 : decode cX12_allLines 75 = .ok (.goto (-73), 3) := by decide +kernel
theorem dX12_allLines_78 : decode cX12_allLines 78 = .ok (.iload_n 2, 1) := by decide +kernel
theorem dX12_allLines_79 : decode cX12_allLines 79 = .ok (.ireturn, 1) := by decide +kernel
set_option maxRecDepth 20000 in
theorem ggX12_readText_X12_in : GoodIn wsX12_readText wsX12_in := goodIn_r _ [13] (by decide +kernel) (by decide +kernel)
set_option maxRecDepth 20000 in
theorem gX12_readText_X12_in : GoodIn wsX12_readText (va_wsS RX12 110 yX12_in wsX12_in) := goodIn_app (goodIn_of _ (by decide +kernel)) ggX12_readText_X12_in
set_option maxRecDepth 20000 in
theorem ggX12_readText_X12_token : GoodIn wsX12_readText wsX12_token := goodIn_r _ [17, 3, 5, 18, 19, 20, 21, 22, 23, 12, 24, 25, 26, 10, 11, 13, 97, 98, 99, 100, 101, 102, 103, 104, 105, 106, 107, 108, 109, 110, 111, 112, 113, 114, 115, 116, 117, 118, 119, 120, 121, 122, 123, 124, 125, 126, 127, 128, 129, 130, 131, 132, 133, 134, 135, 136, 137, 138, 139, 140, 141, 142, 143, 144, 145, 146, 147, 148, 149, 150, 151, 152, 153, 154, 155, 156, 157] (by decide +kernel) (by decide +kernel)
set_option maxRecDepth 20000 in
theorem gX12_readText_X12_token : GoodIn wsX12_readText (wsV RX12 162 RX12 yX12_token wsX12_token) := goodIn_app (goodIn_of _ (by decide +kernel)) ggX12_readText_X12_token
set_option maxRecDepth 20000 in
theorem ggX12_readText_X12_allLines : GoodIn wsX12_readText wsX12_allLines := goodIn_r _ [30, 19, 5, 18, 31, 32, 33, 34, 12, 35, 36, 37, 38, 39, 40, 41, 2, 42, 1, 43, 44, 45, 46, 47, 48, 49, 50, 51, 52, 53, 54, 4, 9, 14, 15, 16, 17, 3, 20, 21, 22, 23, 24, 25, 26, 10, 11, 13, 55, 56, 57, 58, 59, 60, 61, 62, 8, 63, 64, 65, 66, 67, 68, 69, 70, 71, 72, 73, 74, 75, 76, 77, 78, 79, 80, 81, 82, 83, 84, 85, 86, 87, 88, 89, 90, 91, 92, 93, 94, 95, 96, 97, 98, 99, 100, 101, 102, 103, 104, 105, 106, 107, 108, 109, 110, 111, 112, 113, 114, 115, 116, 117, 118, 119, 120, 121, 122, 123, 124, 125, 126, 127, 128, 129, 130, 131, 132, 133, 134, 135, 136, 137, 138, 139, 140, 141, 142, 143, 144, 145, 146, 147, 148, 149, 150, 151, 152, 153, 154, 155, 156, 157] (by decide +kernel) (by decide +kernel)
set_option maxRecDepth 20000 in
theorem gX12_readText_X12_allLines : GoodIn wsX12_readText (wsV RX12 230 RX12 yX12_allLines wsX12_allLines) := goodIn_app (goodIn_of _ (by decide +kernel)) ggX12_readText_X12_allLines
set_option maxRecDepth 20000 in
theorem ggX12_readText_X12_addsFault : GoodIn wsX12_readText wsX12_addsFault := goodIn_r _ [54, 4, 9, 97, 98, 99, 100, 101, 102, 103, 104, 105, 106, 107, 108, 109, 110, 111, 112, 113, 114, 115, 116, 117, 118, 119, 120, 121, 122, 123, 124, 125, 126, 127, 128, 129, 130, 131, 132, 133, 134, 135, 136, 137, 138, 139, 140, 141, 142, 143, 144, 145, 146, 147, 148, 149, 150, 151, 152, 153, 154, 155, 156, 157] (by decide +kernel) (by decide +kernel)
set_option maxRecDepth 20000 in
theorem gX12_readText_X12_addsFault : GoodIn wsX12_readText (wsV RX12 154 RX12 yX12_addsFault wsX12_addsFault) := goodIn_app (goodIn_of _ (by decide +kernel)) ggX12_readText_X12_addsFault
theorem dX12_readText_0 : decode cX12_readText 0 = .ok (.iconst 0, 1) := by decide +kernel
theorem dX12_readText_1 : decode cX12_readText 1 = .ok (.istore_n 2, 1) := by decide +kernel
theorem dX12_readText_2 : decode cX12_readText 2 = .ok (.iload_n 2, 1) := by decide +kernel
theorem dX12_readText_3 : decode cX12_readText 3 = .ok (.bipush 81, 2) := by decide +kernel
theorem dX12_readText_5 : decode cX12_readText 5 = .ok (.if_icmp .ge 35, 3) := by decide +kernel
theorem dX12_readText_8 : decode cX12_readText 8 = .ok (.aload_n 0, 1) := by decide +kernel
theorem dX12_readText_9 : decode cX12_readText 9 = .ok (.getfield 38, 3) := by decide +kernel
theorem dX12_readText_12 : decode cX12_readText 12 = .ok (.iload_n 2, 1) := by decide +kernel
theorem dX12_readText_13 : decode cX12_readText 13 = .ok (.iload_n 1, 1) := by decide +kernel
theorem dX12_readText_14 : decode cX12_readText 14 = .ok (.ifCond .ne 18, 3) := by decide +kernel
theorem dX12_readText_17 : decode cX12_readText 17 = .ok (.iload_n 2, 1) := by decide +kernel
theorem dX12_readText_18 : decode cX12_readText 18 = .ok (.bipush 9, 2) := by decide +kernel
theorem dX12_readText_20 : decode cX12_readText 20 = .ok (.bipush 12, 2) := by decide +kernel
theorem dX12_readText_22 : decode cX12_readText 22 = .ok (.invokestatic 110, 3) := by decide +kernel
theorem dX12_readText_25 : decode cX12_readText 25 = .ok (.ifCond .eq 7, 3) := by decide +kernel
theorem dX12_readText_28 : decode cX12_readText 28 = .ok (.iconst 1, 1) := by decide +kernel
theorem dX12_readText_29 : decode cX12_readText 29 = .ok (.goto 4, 3) := by decide +kernel
theorem dX12_readText_32 : decode cX12_readText 32 = .ok (.iconst 0, 1) := by decide +kernel
theorem dX12_readText_33 : decode cX12_readText 33 = .ok (.iastore, 1) := by decide +kernel
theorem dX12_readText_34 : decode cX12_readText 34 = .ok (.iinc 2 1, 3) := by decide +kernel
theorem dX12_readText_37 : decode cX12_readText 37 = .ok (.goto (-35), 3) := by decide +kernel
theorem dX12_readText_40 : decode cX12_readText 40 = .ok (.aload_n 0, 1) := by decide +kernel
theorem dX12_readText_41 : decode cX12_readText 41 = .ok (.iconst (-1), 1) := by decide +kernel
theorem dX12_readText_42 : decode cX12_readText 42 = .ok (.putfield 183, 3) := by decide +kernel
theorem dX12_readText_45 : decode cX12_readText 45 = .ok (.aload_n 0, 1) := by decide +kernel
theorem dX12_readText_46 : decode cX12_readText 46 = .ok (.iconst 0, 1) := by decide +kernel
theorem dX12_readText_47 : decode cX12_readText 47 = .ok (.putfield 118, 3) := by decide +kernel
theorem dX12_readText_50 : decode cX12_readText 50 = .ok (.aload_n 0, 1) := by decide +kernel
theorem dX12_readText_51 : decode cX12_readText 51 = .ok (.iconst 0, 1) := by decide +kernel
theorem dX12_readText_52 : decode cX12_readText 52 = .ok (.putfield 144, 3) := by decide +kernel
theorem dX12_readText_55 : decode cX12_readText 55 = .ok (.aload_n 0, 1) := by decide +kernel
theorem dX12_readText_56 : decode cX12_readText 56 = .ok (.invokevirtual 162, 3) := by decide +kernel
theorem dX12_readText_59 : decode cX12_readText 59 = .ok (.aload_n 0, 1) := by decide +kernel
theorem dX12_readText_60 : decode cX12_readText 60 = .ok (.iload_n 1, 1) := by decide +kernel
theorem dX12_readText_61 : decode cX12_readText 61 = .ok (.invokevirtual 230, 3) := by decide +kernel
theorem dX12_readText_64 : decode cX12_readText 64 = .ok (.istore_n 2, 1) := by decide +kernel
theorem dX12_readText_65 : decode cX12_readText 65 = .ok (.iload_n 2, 1) := by decide +kernel
theorem dX12_readText_66 : decode cX12_readText 66 = .ok (.ifCond .eq 36, 3) := by decide +kernel
theorem dX12_readText_69 : decode cX12_readText 69 = .ok (.iload_n 1, 1) := by decide +kernel
theorem dX12_readText_70 : decode cX12_readText 70 = .ok (.ifCond .ne 32, 3) := by decide +kernel
theorem dX12_readText_73 : decode cX12_readText 73 = .ok (.aload_n 0, 1) := by decide +kernel
theorem dX12_readText_74 : decode cX12_readText 74 = .ok (.getfield 144, 3) := by decide +kernel
theorem dX12_readText_77 : decode cX12_readText 77 = .ok (.ifCond .ne 25, 3) := by decide +kernel
theorem dX12_readText_80 : decode cX12_readText 80 = .ok (.aload_n 0, 1) := by decide +kernel
theorem dX12_readText_81 : decode cX12_readText 81 = .ok (.getfield 183, 3) := by decide +kernel
theorem dX12_readText_84 : decode cX12_readText 84 = .ok (.aload_n 0, 1) := by decide +kernel
theorem dX12_readText_85 : decode cX12_readText 85 = .ok (.getfield 38, 3) := by decide +kernel
theorem dX12_readText_88 : decode cX12_readText 88 = .ok (.iconst 0, 1) := by decide +kernel
theorem dX12_readText_89 : decode cX12_readText 89 = .ok (.iaload, 1) := by decide +kernel
theorem dX12_readText_90 : decode cX12_readText 90 = .ok (.if_icmp .lt 12, 3) := by decide +kernel
theorem dX12_readText_93 : decode cX12_readText 93 = .ok (.aload_n 0, 1) := by decide +kernel
theorem dX12_readText_94 : decode cX12_readText 94 = .ok (.iconst 4, 1) := by decide +kernel
theorem dX12_readText_95 : decode cX12_readText 95 = .ok (.aload_n 0, 1) := by decide +kernel
theorem dX12_readText_96 : decode cX12_readText 96 = .ok (.getfield 128, 3) := by decide +kernel
theorem dX12_readText_99 : decode cX12_readText 99 = .ok (.invokevirtual 154, 3) := by decide +kernel
theorem dX12_readText_102 : decode cX12_readText 102 = .ok (.aload_n 0, 1) := by decide +kernel
theorem dX12_readText_103 : decode cX12_readText 103 = .ok (.getfield 17, 3) := by decide +kernel
theorem dX12_readText_106 : decode cX12_readText 106 = .ok (.iconst 0, 1) := by decide +kernel
theorem dX12_readText_107 : decode cX12_readText 107 = .ok (.iload_n 2, 1) := by decide +kernel
theorem dX12_readText_108 : decode cX12_readText 108 = .ok (.ifCond .eq 10, 3) := by decide +kernel
theorem dX12_readText_111 : decode cX12_readText 111 = .ok (.aload_n 0, 1) := by decide +kernel
theorem dX12_readText_112 : decode cX12_readText 112 = .ok (.getfield 144, 3) := by decide +kernel
theorem dX12_readText_115 : decode cX12_readText 115 = .ok (.goto 4, 3) := by decide +kernel
theorem dX12_readText_118 : decode cX12_readText 118 = .ok (.iconst 1, 1) := by decide +kernel
theorem dX12_readText_119 : decode cX12_readText 119 = .ok (.iastore, 1) := by decide +kernel
theorem dX12_readText_120 : decode cX12_readText 120 = .ok (.aload_n 0, 1) := by decide +kernel
theorem dX12_readText_121 : decode cX12_readText 121 = .ok (.getfield 20, 3) := by decide +kernel
theorem dX12_readText_124 : decode cX12_readText 124 = .ok (.iconst 0, 1) := by decide +kernel
theorem dX12_readText_125 : decode cX12_readText 125 = .ok (.iload_n 2, 1) := by decide +kernel
theorem dX12_readText_126 : decode cX12_readText 126 = .ok (.ifCond .ne 10, 3) := by decide +kernel
theorem dX12_readText_129 : decode cX12_readText 129 = .ok (.aload_n 0, 1) := by decide +kernel
theorem dX12_readText_130 : decode cX12_readText 130 = .ok (.getfield 141, 3) := by decide +kernel
theorem dX12_readText_133 : decode cX12_readText 133 = .ok (.goto 18, 3) := by decide +kernel
theorem dX12_readText_136 : decode cX12_readText 136 = .ok (.aload_n 0, 1) := by decide +kernel
theorem dX12_readText_137 : decode cX12_readText 137 = .ok (.getfield 144, 3) := by decide +kernel
theorem dX12_readText_140 : decode cX12_readText 140 = .ok (.ifCond .le 10, 3) := by decide +kernel
theorem dX12_readText_143 : decode cX12_readText 143 = .ok (.aload_n 0, 1) := by decide +kernel
theorem dX12_readText_144 : decode cX12_readText 144 = .ok (.getfield 147, 3) := by decide +kernel
theorem dX12_readText_147 : decode cX12_readText 147 = .ok (.goto 4, 3) := by decide +kernel
theorem dX12_readText_150 : decode cX12_readText 150 = .ok (.iconst (-1), 1) := by decide +kernel
theorem dX12_readText_151 : decode cX12_readText 151 = .ok (.iastore, 1) := by decide +kernel
theorem dX12_readText_152 : decode cX12_readText 152 = .ok (.aload_n 0, 1) := by decide +kernel
theorem dX12_readText_153 : decode cX12_readText 153 = .ok (.getfield 17, 3) := by decide +kernel
theorem dX12_readText_156 : decode cX12_readText 156 = .ok (.iconst 0, 1) := by decide +kernel
theorem dX12_readText_157 : decode cX12_readText 157 = .ok (.iaload, 1) := by decide +kernel
theorem dX12_readText_158 : decode cX12_readText 158 = .ok (.ifCond .ne 7, 3) := by decide +kernel
theorem dX12_readText_161 : decode cX12_readText 161 = .ok (.iconst 1, 1) := by decide +kernel
theorem dX12_readText_162 : decode cX12_readText 162 = .ok (.goto 4, 3) := by decide +kernel
theorem dX12_readText_165 : decode cX12_readText 165 = .ok (.iconst 0, 1) := by decide +kernel
theorem dX12_readText_166 : decode cX12_readText 166 = .ok (.ireturn, 1) := by decide +kernel
theorem dX12_store_0 : decode cX12_store 0 = .ok (.iconst 0, 1) := by decide +kernel
theorem dX12_store_1 : decode cX12_store 1 = .ok (.istore 4, 2) := by decide +kernel
theorem dX12_store_3 : decode cX12_store 3 = .ok (.iload 4, 2) := by decide +kernel
theorem dX12_store_5 : decode cX12_store 5 = .ok (.iload_n 2, 1) := by decide +kernel
theorem dX12_store_6 : decode cX12_store 6 = .ok (.if_icmp .ge 24, 3) := by decide +kernel
theorem dX12_store_9 : decode cX12_store 9 = .ok (.aload_n 1, 1) := by decide +kernel
theorem dX12_store_10 : decode cX12_store 10 = .ok (.iload_n 2, 1) := by decide +kernel
theorem dX12_store_11 : decode cX12_store 11 = .ok (.iload_n 3, 1) := by decide +kernel
theorem dX12_store_12 : decode cX12_store 12 = .ok (.imul, 1) := by decide +kernel
theorem dX12_store_13 : decode cX12_store 13 = .ok (.iload 4, 2) := by decide +kernel
theorem dX12_store_15 : decode cX12_store 15 = .ok (.iadd, 1) := by decide +kernel
theorem dX12_store_16 : decode cX12_store 16 = .ok (.aload_n 0, 1) := by decide +kernel
theorem dX12_store_17 : decode cX12_store 17 = .ok (.getfield 38, 3) := by decide +kernel
theorem dX12_store_20 : decode cX12_store 20 = .ok (.iload 4, 2) := by decide +kernel
theorem dX12_store_22 : decode cX12_store 22 = .ok (.iaload, 1) := by decide +kernel
theorem dX12_store_23 : decode cX12_store 23 = .ok (.iastore, 1) := by decide +kernel
theorem dX12_store_24 : decode cX12_store 24 = .ok (.iinc 4 1, 3) := by decide +kernel
theorem dX12_store_27 : decode cX12_store 27 = .ok (.goto (-24), 3) := by decide +kernel
theorem dX12_store_30 : decode cX12_store 30 = .ok (.return_, 1) := by decide +kernel
set_option maxRecDepth 20000 in
theorem ggX12_storeOf_X12_store : GoodIn wsX12_storeOf wsX12_store := goodIn_r _ [9, 10, 11, 12, 13, 14, 15, 16, 17, 18, 19, 20, 21, 22, 23, 24, 25, 26, 27, 28, 29, 30, 31, 32, 33, 34, 35, 36, 37, 38, 39, 40, 41, 42, 43, 44, 45, 46, 47, 48, 49, 50, 51, 52, 53, 54, 55, 56, 57, 58, 59, 60, 61, 62, 63, 64, 65, 66, 67, 68, 69, 70, 71] (by decide +kernel) (by decide +kernel)
set_option maxRecDepth 20000 in
theorem gX12_storeOf_X12_store : GoodIn wsX12_storeOf (wsV RX12 233 RX12 yX12_store wsX12_store) := goodIn_app (goodIn_of _ (by decide +kernel)) ggX12_storeOf_X12_store
theorem dX12_storeOf_0 : decode cX12_storeOf 0 = .ok (.iload_n 1, 1) := by decide +kernel
theorem dX12_storeOf_1 : decode cX12_storeOf 1 = .ok (.ifCond .ne 17, 3) := by decide +kernel
theorem dX12_storeOf_4 : decode cX12_storeOf 4 = .ok (.aload_n 0, 1) := by decide +kernel
theorem dX12_storeOf_5 : decode cX12_storeOf 5 = .ok (.aload_n 0, 1) := by decide +kernel
theorem dX12_storeOf_6 : decode cX12_storeOf 6 = .ok (.getfield 26, 3) := by decide +kernel
theorem dX12_storeOf_9 : decode cX12_storeOf 9 = .ok (.bipush 13, 2) := by decide +kernel
theorem dX12_storeOf_11 : decode cX12_storeOf 11 = .ok (.iload_n 2, 1) := by decide +kernel
theorem dX12_storeOf_12 : decode cX12_storeOf 12 = .ok (.invokevirtual 233, 3) := by decide +kernel
theorem dX12_storeOf_15 : decode cX12_storeOf 15 = .ok (.goto 52, 3) := by decide +kernel
theorem dX12_storeOf_18 : decode cX12_storeOf 18 = .ok (.iload_n 1, 1) := by decide +kernel
theorem dX12_storeOf_19 : decode cX12_storeOf 19 = .ok (.iconst 1, 1) := by decide +kernel
theorem dX12_storeOf_20 : decode cX12_storeOf 20 = .ok (.if_icmp .ne 17, 3) := by decide +kernel
theorem dX12_storeOf_23 : decode cX12_storeOf 23 = .ok (.aload_n 0, 1) := by decide +kernel
theorem dX12_storeOf_24 : decode cX12_storeOf 24 = .ok (.aload_n 0, 1) := by decide +kernel
theorem dX12_storeOf_25 : decode cX12_storeOf 25 = .ok (.getfield 29, 3) := by decide +kernel
theorem dX12_storeOf_28 : decode cX12_storeOf 28 = .ok (.bipush 81, 2) := by decide +kernel
theorem dX12_storeOf_30 : decode cX12_storeOf 30 = .ok (.iload_n 2, 1) := by decide +kernel
theorem dX12_storeOf_31 : decode cX12_storeOf 31 = .ok (.invokevirtual 233, 3) := by decide +kernel
theorem dX12_storeOf_34 : decode cX12_storeOf 34 = .ok (.goto 33, 3) := by decide +kernel
theorem dX12_storeOf_37 : decode cX12_storeOf 37 = .ok (.iload_n 1, 1) := by decide +kernel
theorem dX12_storeOf_38 : decode cX12_storeOf 38 = .ok (.iconst 2, 1) := by decide +kernel
theorem dX12_storeOf_39 : decode cX12_storeOf 39 = .ok (.if_icmp .ne 17, 3) := by decide +kernel
theorem dX12_storeOf_42 : decode cX12_storeOf 42 = .ok (.aload_n 0, 1) := by decide +kernel
theorem dX12_storeOf_43 : decode cX12_storeOf 43 = .ok (.aload_n 0, 1) := by decide +kernel
theorem dX12_storeOf_44 : decode cX12_storeOf 44 = .ok (.getfield 32, 3) := by decide +kernel
theorem dX12_storeOf_47 : decode cX12_storeOf 47 = .ok (.bipush 17, 2) := by decide +kernel
theorem dX12_storeOf_49 : decode cX12_storeOf 49 = .ok (.iload_n 2, 1) := by decide +kernel
theorem dX12_storeOf_50 : decode cX12_storeOf 50 = .ok (.invokevirtual 233, 3) := by decide +kernel
theorem dX12_storeOf_53 : decode cX12_storeOf 53 = .ok (.goto 14, 3) := by decide +kernel
theorem dX12_storeOf_56 : decode cX12_storeOf 56 = .ok (.aload_n 0, 1) := by decide +kernel
theorem dX12_storeOf_57 : decode cX12_storeOf 57 = .ok (.aload_n 0, 1) := by decide +kernel
theorem dX12_storeOf_58 : decode cX12_storeOf 58 = .ok (.getfield 35, 3) := by decide +kernel
theorem dX12_storeOf_61 : decode cX12_storeOf 61 = .ok (.bipush 7, 2) := by decide +kernel
theorem dX12_storeOf_63 : decode cX12_storeOf 63 = .ok (.iload_n 2, 1) := by decide +kernel
theorem dX12_storeOf_64 : decode cX12_storeOf 64 = .ok (.invokevirtual 233, 3) := by decide +kernel
theorem dX12_storeOf_67 : decode cX12_storeOf 67 = .ok (.return_, 1) := by decide +kernel
set_option maxRecDepth 20000 in
theorem ggX12_text_X12_in : GoodIn wsX12_text wsX12_in := goodIn_r _ [10] (by decide +kernel) (by decide +kernel)
set_option maxRecDepth 20000 in
theorem gX12_text_X12_in : GoodIn wsX12_text (va_wsS RX12 110 yX12_in wsX12_in) := goodIn_app (goodIn_of _ (by decide +kernel)) ggX12_text_X12_in
set_option maxRecDepth 20000 in
theorem ggX12_text_X12_is : GoodIn wsX12_text wsX12_is := goodIn_r _ [14, 6, 7, 8, 9, 10, 120, 121, 122, 123, 124, 125, 126, 127, 128, 129, 130, 131, 132, 133, 134, 135, 136, 137, 138, 139, 140, 141, 142, 143, 144, 145, 146, 147, 148, 149, 150, 151, 152, 153, 154, 155, 156, 157, 158, 159, 160, 161, 162, 163, 164, 165, 166, 167, 168, 169, 170, 171, 172, 173, 174, 175, 176, 177, 178, 179, 180] (by decide +kernel) (by decide +kernel)
set_option maxRecDepth 20000 in
theorem gX12_text_X12_is : GoodIn wsX12_text (wsV RX12 237 RX12 yX12_is wsX12_is) := goodIn_app (goodIn_of _ (by decide +kernel)) ggX12_text_X12_is
set_option maxRecDepth 20000 in
theorem ggX12_text_X12_readText : GoodIn wsX12_text wsX12_readText := goodIn_r _ [18, 19, 20, 21, 22, 23, 4, 5, 24, 25, 7, 8, 9, 10, 26, 27, 28, 29, 30, 31, 32, 33, 34, 35, 36, 3, 37, 38, 39, 40, 41, 42, 43, 44, 45, 46, 47, 48, 49, 50, 51, 52, 53, 54, 55, 56, 57, 58, 59, 60, 61, 62, 63, 64, 65, 66, 67, 68, 69, 70, 71, 72, 73, 74, 75, 76, 77, 78, 79, 80, 81, 82, 83, 84, 85, 86, 87, 88, 89, 90, 91, 92, 93, 94, 95, 96, 97, 98, 99, 100, 101, 102, 103, 104, 105, 106, 107, 120, 121, 122, 123, 124, 125, 126, 127, 128, 129, 130, 131, 132, 133, 134, 135, 136, 137, 138, 139, 140, 141, 142, 143, 144, 145, 146, 147, 148, 149, 150, 151, 152, 153, 154, 155, 156, 157, 158, 159, 160, 161, 162, 163, 164, 165, 166, 167, 168, 169, 170, 171, 172, 173, 174, 175, 176, 177, 178, 179, 180] (by decide +kernel) (by decide +kernel)
set_option maxRecDepth 20000 in
theorem gX12_text_X12_readText : GoodIn wsX12_text (wsV RX12 240 RX12 yX12_readText wsX12_readText) := goodIn_app (goodIn_of _ (by decide +kernel)) ggX12_text_X12_readText
set_option maxRecDepth 20000 in
theorem ggX12_text_X12_storeOf : GoodIn wsX12_text wsX12_storeOf := goodIn_r _ [111, 112, 113, 114, 115, 116, 117, 118, 9, 119, 19, 120, 121, 122, 123, 124, 125, 126, 127, 128, 129, 130, 131, 132, 133, 134, 135, 136, 137, 138, 139, 140, 141, 142, 143, 144, 145, 146, 147, 148, 149, 150, 151, 152, 153, 154, 155, 156, 157, 158, 159, 160, 161, 162, 163, 164, 165, 166, 167, 168, 169, 170, 171, 172, 173, 174, 175, 176, 177, 178, 179, 180] (by decide +kernel) (by decide +kernel)
set_option maxRecDepth 20000 in
theorem gX12_text_X12_storeOf : GoodIn wsX12_text (wsV RX12 243 RX12 yX12_storeOf wsX12_storeOf) := goodIn_app (goodIn_of _ (by decide +kernel)) ggX12_text_X12_storeOf
theorem dX12_text_0 : decode cX12_text 0 = .ok (.aload_n 0, 1) := by decide +kernel
theorem dX12_text_1 : decode cX12_text 1 = .ok (.iconst 0, 1) := by decide +kernel
theorem dX12_text_2 : decode cX12_text 2 = .ok (.putfield 98, 3) := by decide +kernel
theorem dX12_text_5 : decode cX12_text 5 = .ok (.aload_n 0, 1) := by decide +kernel
theorem dX12_text_6 : decode cX12_text 6 = .ok (.aload_n 0, 1) := by decide +kernel
theorem dX12_text_7 : decode cX12_text 7 = .ok (.getfield 13, 3) := by decide +kernel
theorem dX12_text_10 : decode cX12_text 10 = .ok (.iconst 0, 1) := by decide +kernel
theorem dX12_text_11 : decode cX12_text 11 = .ok (.iaload, 1) := by decide +kernel
theorem dX12_text_12 : decode cX12_text 12 = .ok (.putfield 121, 3) := by decide +kernel
theorem dX12_text_15 : decode cX12_text 15 = .ok (.aload_n 0, 1) := by decide +kernel
theorem dX12_text_16 : decode cX12_text 16 = .ok (.getfield 13, 3) := by decide +kernel
theorem dX12_text_19 : decode cX12_text 19 = .ok (.iconst 0, 1) := by decide +kernel
theorem dX12_text_20 : decode cX12_text 20 = .ok (.iconst 0, 1) := by decide +kernel
theorem dX12_text_21 : decode cX12_text 21 = .ok (.iastore, 1) := by decide +kernel
theorem dX12_text_22 : decode cX12_text 22 = .ok (.aload_n 0, 1) := by decide +kernel
theorem dX12_text_23 : decode cX12_text 23 = .ok (.getfield 17, 3) := by decide +kernel
theorem dX12_text_26 : decode cX12_text 26 = .ok (.iconst 0, 1) := by decide +kernel
theorem dX12_text_27 : decode cX12_text 27 = .ok (.iconst 0, 1) := by decide +kernel
theorem dX12_text_28 : decode cX12_text 28 = .ok (.iastore, 1) := by decide +kernel
theorem dX12_text_29 : decode cX12_text 29 = .ok (.aload_n 0, 1) := by decide +kernel
theorem dX12_text_30 : decode cX12_text 30 = .ok (.getfield 20, 3) := by decide +kernel
theorem dX12_text_33 : decode cX12_text 33 = .ok (.iconst 0, 1) := by decide +kernel
theorem dX12_text_34 : decode cX12_text 34 = .ok (.iconst (-1), 1) := by decide +kernel
theorem dX12_text_35 : decode cX12_text 35 = .ok (.iastore, 1) := by decide +kernel
theorem dX12_text_36 : decode cX12_text 36 = .ok (.iload_n 1, 1) := by decide +kernel
theorem dX12_text_37 : decode cX12_text 37 = .ok (.iconst 0, 1) := by decide +kernel
theorem dX12_text_38 : decode cX12_text 38 = .ok (.iconst 3, 1) := by decide +kernel
theorem dX12_text_39 : decode cX12_text 39 = .ok (.invokestatic 110, 3) := by decide +kernel
theorem dX12_text_42 : decode cX12_text 42 = .ok (.ifCond .eq 30, 3) := by decide +kernel
theorem dX12_text_45 : decode cX12_text 45 = .ok (.iload_n 2, 1) := by decide +kernel
theorem dX12_text_46 : decode cX12_text 46 = .ok (.iconst (-1), 1) := by decide +kernel
theorem dX12_text_47 : decode cX12_text 47 = .ok (.if_icmp .ne 16, 3) := by decide +kernel
theorem dX12_text_50 : decode cX12_text 50 = .ok (.aload_n 0, 1) := by decide +kernel
theorem dX12_text_51 : decode cX12_text 51 = .ok (.getfield 23, 3) := by decide +kernel
theorem dX12_text_54 : decode cX12_text 54 = .ok (.iload_n 1, 1) := by decide +kernel
theorem dX12_text_55 : decode cX12_text 55 = .ok (.iaload, 1) := by decide +kernel
theorem dX12_text_56 : decode cX12_text 56 = .ok (.iconst 2, 1) := by decide +kernel
theorem dX12_text_57 : decode cX12_text 57 = .ok (.if_icmp .ne 18, 3) := by decide +kernel
theorem dX12_text_60 : decode cX12_text 60 = .ok (.goto 12, 3) := by decide +kernel
theorem dX12_text_63 : decode cX12_text 63 = .ok (.aload_n 0, 1) := by decide +kernel
theorem dX12_text_64 : decode cX12_text 64 = .ok (.iload_n 1, 1) := by decide +kernel
theorem dX12_text_65 : decode cX12_text 65 = .ok (.iload_n 2, 1) := by decide +kernel
theorem dX12_text_66 : decode cX12_text 66 = .ok (.invokevirtual 237, 3) := by decide +kernel
theorem dX12_text_69 : decode cX12_text 69 = .ok (.ifCond .ne 6, 3) := by decide +kernel
theorem dX12_text_72 : decode cX12_text 72 = .ok (.bipush (-2), 2) := by decide +kernel
theorem dX12_text_74 : decode cX12_text 74 = .ok (.ireturn, 1) := by decide +kernel
theorem dX12_text_75 : decode cX12_text 75 = .ok (.aload_n 0, 1) := by decide +kernel
theorem dX12_text_76 : decode cX12_text 76 = .ok (.iload_n 1, 1) := by decide +kernel
theorem dX12_text_77 : decode cX12_text 77 = .ok (.invokevirtual 240, 3) := by decide +kernel
theorem dX12_text_80 : decode cX12_text 80 = .ok (.ifCond .ne 5, 3) := by decide +kernel
theorem dX12_text_83 : decode cX12_text 83 = .ok (.iconst (-1), 1) := by decide +kernel
theorem dX12_text_84 : decode cX12_text 84 = .ok (.ireturn, 1) := by decide +kernel
theorem dX12_text_85 : decode cX12_text 85 = .ok (.iload_n 2, 1) := by decide +kernel
theorem dX12_text_86 : decode cX12_text 86 = .ok (.iconst (-1), 1) := by decide +kernel
theorem dX12_text_87 : decode cX12_text 87 = .ok (.if_icmp .ne 12, 3) := by decide +kernel
theorem dX12_text_90 : decode cX12_text 90 = .ok (.aload_n 0, 1) := by decide +kernel
theorem dX12_text_91 : decode cX12_text 91 = .ok (.getfield 23, 3) := by decide +kernel
theorem dX12_text_94 : decode cX12_text 94 = .ok (.iload_n 1, 1) := by decide +kernel
theorem dX12_text_95 : decode cX12_text 95 = .ok (.iaload, 1) := by decide +kernel
theorem dX12_text_96 : decode cX12_text 96 = .ok (.goto 4, 3) := by decide +kernel
theorem dX12_text_99 : decode cX12_text 99 = .ok (.iload_n 2, 1) := by decide +kernel
theorem dX12_text_100 : decode cX12_text 100 = .ok (.istore_n 3, 1) := by decide +kernel
theorem dX12_text_101 : decode cX12_text 101 = .ok (.aload_n 0, 1) := by decide +kernel
theorem dX12_text_102 : decode cX12_text 102 = .ok (.getfield 23, 3) := by decide +kernel
theorem dX12_text_105 : decode cX12_text 105 = .ok (.iload_n 1, 1) := by decide +kernel
theorem dX12_text_106 : decode cX12_text 106 = .ok (.dup2, 1) := by decide +kernel
theorem dX12_text_107 : decode cX12_text 107 = .ok (.iaload, 1) := by decide +kernel
theorem dX12_text_108 : decode cX12_text 108 = .ok (.iload_n 2, 1) := by decide +kernel
theorem dX12_text_109 : decode cX12_text 109 = .ok (.iconst (-1), 1) := by decide +kernel
theorem dX12_text_110 : decode cX12_text 110 = .ok (.if_icmp .ne 7, 3) := by decide +kernel
theorem dX12_text_113 : decode cX12_text 113 = .ok (.iconst 1, 1) := by decide +kernel
theorem dX12_text_114 : decode cX12_text 114 = .ok (.goto 4, 3) := by decide +kernel
theorem dX12_text_117 : decode cX12_text 117 = .ok (.iconst 0, 1) := by decide +kernel
theorem dX12_text_118 : decode cX12_text 118 = .ok (.iadd, 1) := by decide +kernel
theorem dX12_text_119 : decode cX12_text 119 = .ok (.iastore, 1) := by decide +kernel
theorem dX12_text_120 : decode cX12_text 120 = .ok (.aload_n 0, 1) := by decide +kernel
theorem dX12_text_121 : decode cX12_text 121 = .ok (.iload_n 1, 1) := by decide +kernel
theorem dX12_text_122 : decode cX12_text 122 = .ok (.iload_n 3, 1) := by decide +kernel
theorem dX12_text_123 : decode cX12_text 123 = .ok (.invokevirtual 243, 3) := by decide +kernel
theorem dX12_text_126 : decode cX12_text 126 = .ok (.iload_n 3, 1) := by decide +kernel
theorem dX12_text_127 : decode cX12_text 127 = .ok (.ireturn, 1) := by decide +kernel
theorem dX12_fault_0 : decode cX12_fault 0 = .ok (.aload_n 0, 1) := by decide +kernel
theorem dX12_fault_1 : decode cX12_fault 1 = .ok (.iconst 0, 1) := by decide +kernel
theorem dX12_fault_2 : decode cX12_fault 2 = .ok (.putfield 98, 3) := by decide +kernel
theorem dX12_fault_5 : decode cX12_fault 5 = .ok (.iload_n 1, 1) := by decide +kernel
theorem dX12_fault_6 : decode cX12_fault 6 = .ok (.ifCond .ne 12, 3) := by decide +kernel
theorem dX12_fault_9 : decode cX12_fault 9 = .ok (.aload_n 0, 1) := by decide +kernel
theorem dX12_fault_10 : decode cX12_fault 10 = .ok (.getfield 17, 3) := by decide +kernel
theorem dX12_fault_13 : decode cX12_fault 13 = .ok (.iconst 0, 1) := by decide +kernel
theorem dX12_fault_14 : decode cX12_fault 14 = .ok (.iaload, 1) := by decide +kernel
theorem dX12_fault_15 : decode cX12_fault 15 = .ok (.goto 18, 3) := by decide +kernel
theorem dX12_fault_18 : decode cX12_fault 18 = .ok (.iload_n 1, 1) := by decide +kernel
theorem dX12_fault_19 : decode cX12_fault 19 = .ok (.iconst 1, 1) := by decide +kernel
theorem dX12_fault_20 : decode cX12_fault 20 = .ok (.if_icmp .ne 12, 3) := by decide +kernel
theorem dX12_fault_23 : decode cX12_fault 23 = .ok (.aload_n 0, 1) := by decide +kernel
theorem dX12_fault_24 : decode cX12_fault 24 = .ok (.getfield 20, 3) := by decide +kernel
theorem dX12_fault_27 : decode cX12_fault 27 = .ok (.iconst 0, 1) := by decide +kernel
theorem dX12_fault_28 : decode cX12_fault 28 = .ok (.iaload, 1) := by decide +kernel
theorem dX12_fault_29 : decode cX12_fault 29 = .ok (.goto 4, 3) := by decide +kernel
theorem dX12_fault_32 : decode cX12_fault 32 = .ok (.iconst (-1), 1) := by decide +kernel
theorem dX12_fault_33 : decode cX12_fault 33 = .ok (.ireturn, 1) := by decide +kernel
theorem dX12_of_0 : decode cX12_of 0 = .ok (.aload_n 0, 1) := by decide +kernel
theorem dX12_of_1 : decode cX12_of 1 = .ok (.getfield 26, 3) := by decide +kernel
theorem dX12_of_4 : decode cX12_of 4 = .ok (.bipush 13, 2) := by decide +kernel
theorem dX12_of_6 : decode cX12_of 6 = .ok (.aload_n 0, 1) := by decide +kernel
theorem dX12_of_7 : decode cX12_of 7 = .ok (.getfield 246, 3) := by decide +kernel
theorem dX12_of_10 : decode cX12_of 10 = .ok (.imul, 1) := by decide +kernel
theorem dX12_of_11 : decode cX12_of 11 = .ok (.iload_n 1, 1) := by decide +kernel
theorem dX12_of_12 : decode cX12_of 12 = .ok (.iadd, 1) := by decide +kernel
theorem dX12_of_13 : decode cX12_of 13 = .ok (.iaload, 1) := by decide +kernel
theorem dX12_of_14 : decode cX12_of 14 = .ok (.ireturn, 1) := by decide +kernel
set_option maxRecDepth 20000 in
theorem ggX12_alone_X12_has : GoodIn wsX12_alone wsX12_has := goodIn_r _ [8] (by decide +kernel) (by decide +kernel)
set_option maxRecDepth 20000 in
theorem gX12_alone_X12_has : GoodIn wsX12_alone (va_wsS RX12 102 yX12_has wsX12_has) := goodIn_app (goodIn_of _ (by decide +kernel)) ggX12_alone_X12_has
set_option maxRecDepth 20000 in
theorem ggX12_alone_X12_of : GoodIn wsX12_alone wsX12_of := goodIn_r _ [12, 13, 14, 15, 16, 17, 18, 19, 20, 21, 22, 23, 24, 25, 26, 27, 28, 29, 30, 31, 32, 33, 34, 35, 36, 37, 38, 39, 40, 41, 42, 43, 44, 45, 46, 47, 48, 49, 50, 51, 52, 53, 54, 55, 56, 57, 58, 59, 60, 61, 62, 63, 64, 65, 66, 67, 68, 69, 70, 71, 72, 73, 74, 75] (by decide +kernel) (by decide +kernel)
set_option maxRecDepth 20000 in
theorem gX12_alone_X12_of : GoodIn wsX12_alone (wsV RX12 255 RX12 yX12_of wsX12_of) := goodIn_app (goodIn_of _ (by decide +kernel)) ggX12_alone_X12_of
theorem dX12_alone_0 : decode cX12_alone 0 = .ok (.aload_n 0, 1) := by decide +kernel
theorem dX12_alone_1 : decode cX12_alone 1 = .ok (.iload_n 1, 1) := by decide +kernel
theorem dX12_alone_2 : decode cX12_alone 2 = .ok (.putfield 249, 3) := by decide +kernel
theorem dX12_alone_5 : decode cX12_alone 5 = .ok (.aload_n 0, 1) := by decide +kernel
theorem dX12_alone_6 : decode cX12_alone 6 = .ok (.iconst 0, 1) := by decide +kernel
theorem dX12_alone_7 : decode cX12_alone 7 = .ok (.putfield 252, 3) := by decide +kernel
theorem dX12_alone_10 : decode cX12_alone 10 = .ok (.iconst 0, 1) := by decide +kernel
theorem dX12_alone_11 : decode cX12_alone 11 = .ok (.istore_n 2, 1) := by decide +kernel
theorem dX12_alone_12 : decode cX12_alone 12 = .ok (.iload_n 2, 1) := by decide +kernel
theorem dX12_alone_13 : decode cX12_alone 13 = .ok (.iconst 4, 1) := by decide +kernel
theorem dX12_alone_14 : decode cX12_alone 14 = .ok (.if_icmp .ge 78, 3) := by decide +kernel
theorem dX12_alone_17 : decode cX12_alone 17 = .ok (.aload_n 0, 1) := by decide +kernel
theorem dX12_alone_18 : decode cX12_alone 18 = .ok (.getfield 44, 3) := by decide +kernel
theorem dX12_alone_21 : decode cX12_alone 21 = .ok (.iload_n 2, 1) := by decide +kernel
theorem dX12_alone_22 : decode cX12_alone 22 = .ok (.iload_n 1, 1) := by decide +kernel
theorem dX12_alone_23 : decode cX12_alone 23 = .ok (.iload_n 2, 1) := by decide +kernel
theorem dX12_alone_24 : decode cX12_alone 24 = .ok (.invokestatic 102, 3) := by decide +kernel
theorem dX12_alone_27 : decode cX12_alone 27 = .ok (.ifCond .eq 13, 3) := by decide +kernel
theorem dX12_alone_30 : decode cX12_alone 30 = .ok (.aload_n 0, 1) := by decide +kernel
theorem dX12_alone_31 : decode cX12_alone 31 = .ok (.iconst 1, 1) := by decide +kernel
theorem dX12_alone_32 : decode cX12_alone 32 = .ok (.iload_n 2, 1) := by decide +kernel
theorem dX12_alone_33 : decode cX12_alone 33 = .ok (.iadd, 1) := by decide +kernel
theorem dX12_alone_34 : decode cX12_alone 34 = .ok (.invokevirtual 255, 3) := by decide +kernel
theorem dX12_alone_37 : decode cX12_alone 37 = .ok (.goto 4, 3) := by decide +kernel
theorem dX12_alone_40 : decode cX12_alone 40 = .ok (.iconst 0, 1) := by decide +kernel
theorem dX12_alone_41 : decode cX12_alone 41 = .ok (.iastore, 1) := by decide +kernel
theorem dX12_alone_42 : decode cX12_alone 42 = .ok (.aload_n 0, 1) := by decide +kernel
theorem dX12_alone_43 : decode cX12_alone 43 = .ok (.getfield 47, 3) := by decide +kernel
theorem dX12_alone_46 : decode cX12_alone 46 = .ok (.iload_n 2, 1) := by decide +kernel
theorem dX12_alone_47 : decode cX12_alone 47 = .ok (.iload_n 1, 1) := by decide +kernel
theorem dX12_alone_48 : decode cX12_alone 48 = .ok (.iload_n 2, 1) := by decide +kernel
theorem dX12_alone_49 : decode cX12_alone 49 = .ok (.invokestatic 102, 3) := by decide +kernel
theorem dX12_alone_52 : decode cX12_alone 52 = .ok (.ifCond .eq 13, 3) := by decide +kernel
theorem dX12_alone_55 : decode cX12_alone 55 = .ok (.aload_n 0, 1) := by decide +kernel
theorem dX12_alone_56 : decode cX12_alone 56 = .ok (.iconst 5, 1) := by decide +kernel
theorem dX12_alone_57 : decode cX12_alone 57 = .ok (.iload_n 2, 1) := by decide +kernel
theorem dX12_alone_58 : decode cX12_alone 58 = .ok (.iadd, 1) := by decide +kernel
theorem dX12_alone_59 : decode cX12_alone 59 = .ok (.invokevirtual 255, 3) := by decide +kernel
theorem dX12_alone_62 : decode cX12_alone 62 = .ok (.goto 4, 3) := by decide +kernel
theorem dX12_alone_65 : decode cX12_alone 65 = .ok (.iconst 0, 1) := by decide +kernel
theorem dX12_alone_66 : decode cX12_alone 66 = .ok (.iastore, 1) := by decide +kernel
theorem dX12_alone_67 : decode cX12_alone 67 = .ok (.aload_n 0, 1) := by decide +kernel
theorem dX12_alone_68 : decode cX12_alone 68 = .ok (.dup, 1) := by decide +kernel
theorem dX12_alone_69 : decode cX12_alone 69 = .ok (.getfield 252, 3) := by decide +kernel
theorem dX12_alone_72 : decode cX12_alone 72 = .ok (.aload_n 0, 1) := by decide +kernel
theorem dX12_alone_73 : decode cX12_alone 73 = .ok (.getfield 47, 3) := by decide +kernel
theorem dX12_alone_76 : decode cX12_alone 76 = .ok (.iload_n 2, 1) := by decide +kernel
theorem dX12_alone_77 : decode cX12_alone 77 = .ok (.iaload, 1) := by decide +kernel
theorem dX12_alone_78 : decode cX12_alone 78 = .ok (.iconst 3, 1) := by decide +kernel
theorem dX12_alone_79 : decode cX12_alone 79 = .ok (.iload_n 2, 1) := by decide +kernel
theorem dX12_alone_80 : decode cX12_alone 80 = .ok (.imul, 1) := by decide +kernel
theorem dX12_alone_81 : decode cX12_alone 81 = .ok (.ishl, 1) := by decide +kernel
theorem dX12_alone_82 : decode cX12_alone 82 = .ok (.ior, 1) := by decide +kernel
theorem dX12_alone_83 : decode cX12_alone 83 = .ok (.putfield 252, 3) := by decide +kernel
theorem dX12_alone_86 : decode cX12_alone 86 = .ok (.iinc 2 1, 3) := by decide +kernel
theorem dX12_alone_89 : decode cX12_alone 89 = .ok (.goto (-77), 3) := by decide +kernel
theorem dX12_alone_92 : decode cX12_alone 92 = .ok (.return_, 1) := by decide +kernel
set_option maxRecDepth 20000 in
theorem ggX12_hand_X12_is : GoodIn wsX12_hand wsX12_is := goodIn_r _ [7, 8, 9, 10, 6, 11, 28, 29, 30, 31, 32, 33, 34, 35, 36, 37, 38, 39, 40, 41, 42, 43, 44, 45, 46, 47, 48, 49, 50, 51, 52, 53, 54, 55, 56, 57, 58, 59, 60, 61, 62, 63, 64, 65, 66, 67, 68, 69, 70, 71, 72, 73, 74, 75, 76, 77, 78, 79, 80, 81, 82, 83, 84, 85, 86, 87, 88] (by decide +kernel) (by decide +kernel)
set_option maxRecDepth 20000 in
theorem gX12_hand_X12_is : GoodIn wsX12_hand (wsV RX12 237 RX12 yX12_is wsX12_is) := goodIn_app (goodIn_of _ (by decide +kernel)) ggX12_hand_X12_is
set_option maxRecDepth 20000 in
theorem ggX12_hand_X12_of : GoodIn wsX12_hand wsX12_of := goodIn_r _ [15, 16, 1, 28, 29, 30, 31, 32, 33, 34, 35, 36, 37, 38, 39, 40, 41, 42, 43, 44, 45, 46, 47, 48, 49, 50, 51, 52, 53, 54, 55, 56, 57, 58, 59, 60, 61, 62, 63, 64, 65, 66, 67, 68, 69, 70, 71, 72, 73, 74, 75, 76, 77, 78, 79, 80, 81, 82, 83, 84, 85, 86, 87, 88] (by decide +kernel) (by decide +kernel)
set_option maxRecDepth 20000 in
theorem gX12_hand_X12_of : GoodIn wsX12_hand (wsV RX12 255 RX12 yX12_of wsX12_of) := goodIn_app (goodIn_of _ (by decide +kernel)) ggX12_hand_X12_of
set_option maxRecDepth 20000 in
theorem ggX12_hand_X12_alone : GoodIn wsX12_hand wsX12_alone := goodIn_r _ [20, 21, 22, 23, 24, 25, 26, 6, 27, 12, 13, 14, 15, 16, 1, 28, 29, 30, 31, 32, 33, 34, 35, 36, 37, 38, 39, 40, 41, 42, 43, 44, 45, 46, 47, 48, 49, 50, 51, 52, 53, 54, 55, 56, 57, 58, 59, 60, 61, 62, 63, 64, 65, 66, 67, 68, 69, 70, 71, 72, 73, 74, 75, 76, 77, 78, 79, 80, 81, 82, 83, 84, 85, 86, 87, 88] (by decide +kernel) (by decide +kernel)
set_option maxRecDepth 20000 in
theorem gX12_hand_X12_alone : GoodIn wsX12_hand (wsV RX12 262 RX12 yX12_alone wsX12_alone) := goodIn_app (goodIn_of _ (by decide +kernel)) ggX12_hand_X12_alone
theorem dX12_hand_0 : decode cX12_hand 0 = .ok (.aload_n 0, 1) := by decide +kernel
theorem dX12_hand_1 : decode cX12_hand 1 = .ok (.iconst 0, 1) := by decide +kernel
theorem dX12_hand_2 : decode cX12_hand 2 = .ok (.iload_n 1, 1) := by decide +kernel
theorem dX12_hand_3 : decode cX12_hand 3 = .ok (.invokevirtual 237, 3) := by decide +kernel
theorem dX12_hand_6 : decode cX12_hand 6 = .ok (.ifCond .ne 5, 3) := by decide +kernel
theorem dX12_hand_9 : decode cX12_hand 9 = .ok (.iconst 0, 1) := by decide +kernel
theorem dX12_hand_10 : decode cX12_hand 10 = .ok (.ireturn, 1) := by decide +kernel
theorem dX12_hand_11 : decode cX12_hand 11 = .ok (.aload_n 0, 1) := by decide +kernel
theorem dX12_hand_12 : decode cX12_hand 12 = .ok (.iload_n 1, 1) := by decide +kernel
theorem dX12_hand_13 : decode cX12_hand 13 = .ok (.putfield 246, 3) := by decide +kernel
theorem dX12_hand_16 : decode cX12_hand 16 = .ok (.aload_n 0, 1) := by decide +kernel
theorem dX12_hand_17 : decode cX12_hand 17 = .ok (.aload_n 0, 1) := by decide +kernel
theorem dX12_hand_18 : decode cX12_hand 18 = .ok (.iconst 0, 1) := by decide +kernel
theorem dX12_hand_19 : decode cX12_hand 19 = .ok (.invokevirtual 255, 3) := by decide +kernel
theorem dX12_hand_22 : decode cX12_hand 22 = .ok (.putfield 259, 3) := by decide +kernel
theorem dX12_hand_25 : decode cX12_hand 25 = .ok (.aload_n 0, 1) := by decide +kernel
theorem dX12_hand_26 : decode cX12_hand 26 = .ok (.iconst 1, 1) := by decide +kernel
theorem dX12_hand_27 : decode cX12_hand 27 = .ok (.aload_n 0, 1) := by decide +kernel
theorem dX12_hand_28 : decode cX12_hand 28 = .ok (.getfield 259, 3) := by decide +kernel
theorem dX12_hand_31 : decode cX12_hand 31 = .ok (.ishl, 1) := by decide +kernel
theorem dX12_hand_32 : decode cX12_hand 32 = .ok (.iconst 1, 1) := by decide +kernel
theorem dX12_hand_33 : decode cX12_hand 33 = .ok (.isub, 1) := by decide +kernel
theorem dX12_hand_34 : decode cX12_hand 34 = .ok (.invokevirtual 262, 3) := by decide +kernel
theorem dX12_hand_37 : decode cX12_hand 37 = .ok (.iconst 1, 1) := by decide +kernel
theorem dX12_hand_38 : decode cX12_hand 38 = .ok (.ireturn, 1) := by decide +kernel
set_option maxRecDepth 20000 in
theorem ggX12_isGlass_X12_in : GoodIn wsX12_isGlass wsX12_in := goodIn_r _ [5] (by decide +kernel) (by decide +kernel)
set_option maxRecDepth 20000 in
theorem gX12_isGlass_X12_in : GoodIn wsX12_isGlass (va_wsS RX12 110 yX12_in wsX12_in) := goodIn_app (goodIn_of _ (by decide +kernel)) ggX12_isGlass_X12_in
theorem dX12_isGlass_0 : decode cX12_isGlass 0 = .ok (.iload_n 1, 1) := by decide +kernel
theorem dX12_isGlass_1 : decode cX12_isGlass 1 = .ok (.iconst 0, 1) := by decide +kernel
theorem dX12_isGlass_2 : decode cX12_isGlass 2 = .ok (.aload_n 0, 1) := by decide +kernel
theorem dX12_isGlass_3 : decode cX12_isGlass 3 = .ok (.getfield 259, 3) := by decide +kernel
theorem dX12_isGlass_6 : decode cX12_isGlass 6 = .ok (.iconst 1, 1) := by decide +kernel
theorem dX12_isGlass_7 : decode cX12_isGlass 7 = .ok (.isub, 1) := by decide +kernel
theorem dX12_isGlass_8 : decode cX12_isGlass 8 = .ok (.invokestatic 110, 3) := by decide +kernel
theorem dX12_isGlass_11 : decode cX12_isGlass 11 = .ok (.ireturn, 1) := by decide +kernel
set_option maxRecDepth 20000 in
theorem ggX12_shelf_X12_hand : GoodIn wsX12_shelf wsX12_hand := goodIn_r _ [7, 8, 2, 9, 10, 11, 6, 12, 13, 14, 15, 16, 17, 18, 19, 20, 21, 22, 23, 24, 25, 26, 27, 28, 29, 30, 31, 32, 37, 38, 39, 40, 41, 42, 43, 44, 45, 46, 47, 48, 49, 50, 51, 52, 53, 54, 55, 56, 57, 58, 59, 60, 61, 62, 63, 64, 65, 66, 67, 68, 69, 70, 71, 72, 73, 74, 75, 76, 77, 78, 79, 80, 81, 82, 83, 84, 85, 86, 87, 88, 89, 90, 91, 92, 93, 94, 95, 96, 97] (by decide +kernel) (by decide +kernel)
set_option maxRecDepth 20000 in
theorem gX12_shelf_X12_hand : GoodIn wsX12_shelf (wsV RX12 265 RX12 yX12_hand wsX12_hand) := goodIn_app (goodIn_of _ (by decide +kernel)) ggX12_shelf_X12_hand
set_option maxRecDepth 20000 in
theorem ggX12_shelf_X12_isGlass : GoodIn wsX12_shelf wsX12_isGlass := goodIn_r _ [36, 2, 14, 15, 6, 16, 37, 38, 39, 40, 41, 42, 43, 44, 45, 46, 47, 48, 49, 50, 51, 52, 53, 54, 55, 56, 57, 58, 59, 60, 61, 62, 63, 64, 65, 66, 67, 68, 69, 70, 71, 72, 73, 74, 75, 76, 77, 78, 79, 80, 81, 82, 83, 84, 85, 86, 87, 88, 89, 90, 91, 92, 93, 94, 95, 96, 97] (by decide +kernel) (by decide +kernel)
set_option maxRecDepth 20000 in
theorem gX12_shelf_X12_isGlass : GoodIn wsX12_shelf (wsV RX12 268 RX12 yX12_isGlass wsX12_isGlass) := goodIn_app (goodIn_of _ (by decide +kernel)) ggX12_shelf_X12_isGlass
set_option maxRecDepth 20000 in
theorem ggX12_shelf_X12_of : GoodIn wsX12_shelf wsX12_of := goodIn_r _ [20, 21, 8, 37, 38, 39, 40, 41, 42, 43, 44, 45, 46, 47, 48, 49, 50, 51, 52, 53, 54, 55, 56, 57, 58, 59, 60, 61, 62, 63, 64, 65, 66, 67, 68, 69, 70, 71, 72, 73, 74, 75, 76, 77, 78, 79, 80, 81, 82, 83, 84, 85, 86, 87, 88, 89, 90, 91, 92, 93, 94, 95, 96, 97] (by decide +kernel) (by decide +kernel)
set_option maxRecDepth 20000 in
theorem gX12_shelf_X12_of : GoodIn wsX12_shelf (wsV RX12 255 RX12 yX12_of wsX12_of) := goodIn_app (goodIn_of _ (by decide +kernel)) ggX12_shelf_X12_of
theorem dX12_shelf_0 : decode cX12_shelf 0 = .ok (.aload_n 0, 1) := by decide +kernel
theorem dX12_shelf_1 : decode cX12_shelf 1 = .ok (.iconst 0, 1) := by decide +kernel
theorem dX12_shelf_2 : decode cX12_shelf 2 = .ok (.putfield 98, 3) := by decide +kernel
theorem dX12_shelf_5 : decode cX12_shelf 5 = .ok (.aload_n 0, 1) := by decide +kernel
theorem dX12_shelf_6 : decode cX12_shelf 6 = .ok (.iload_n 1, 1) := by decide +kernel
theorem dX12_shelf_7 : decode cX12_shelf 7 = .ok (.invokevirtual 265, 3) := by decide +kernel
theorem dX12_shelf_10 : decode cX12_shelf 10 = .ok (.ifCond .ne 5, 3) := by decide +kernel
theorem dX12_shelf_13 : decode cX12_shelf 13 = .ok (.iconst (-1), 1) := by decide +kernel
theorem dX12_shelf_14 : decode cX12_shelf 14 = .ok (.ireturn, 1) := by decide +kernel
theorem dX12_shelf_15 : decode cX12_shelf 15 = .ok (.iload_n 2, 1) := by decide +kernel
theorem dX12_shelf_16 : decode cX12_shelf 16 = .ok (.bipush 10, 2) := by decide +kernel
theorem dX12_shelf_18 : decode cX12_shelf 18 = .ok (.irem, 1) := by decide +kernel
theorem dX12_shelf_19 : decode cX12_shelf 19 = .ok (.istore_n 3, 1) := by decide +kernel
theorem dX12_shelf_20 : decode cX12_shelf 20 = .ok (.iload_n 2, 1) := by decide +kernel
theorem dX12_shelf_21 : decode cX12_shelf 21 = .ok (.bipush 10, 2) := by decide +kernel
theorem dX12_shelf_23 : decode cX12_shelf 23 = .ok (.if_icmp .ge 16, 3) := by decide +kernel
theorem dX12_shelf_26 : decode cX12_shelf 26 = .ok (.iload_n 2, 1) := by decide +kernel
theorem dX12_shelf_27 : decode cX12_shelf 27 = .ok (.ifCond .ne 10, 3) := by decide +kernel
theorem dX12_shelf_30 : decode cX12_shelf 30 = .ok (.aload_n 0, 1) := by decide +kernel
theorem dX12_shelf_31 : decode cX12_shelf 31 = .ok (.getfield 259, 3) := by decide +kernel
theorem dX12_shelf_34 : decode cX12_shelf 34 = .ok (.goto 4, 3) := by decide +kernel
theorem dX12_shelf_37 : decode cX12_shelf 37 = .ok (.iconst (-1), 1) := by decide +kernel
theorem dX12_shelf_38 : decode cX12_shelf 38 = .ok (.ireturn, 1) := by decide +kernel
theorem dX12_shelf_39 : decode cX12_shelf 39 = .ok (.iload_n 2, 1) := by decide +kernel
theorem dX12_shelf_40 : decode cX12_shelf 40 = .ok (.bipush 40, 2) := by decide +kernel
theorem dX12_shelf_42 : decode cX12_shelf 42 = .ok (.if_icmp .ge 30, 3) := by decide +kernel
theorem dX12_shelf_45 : decode cX12_shelf 45 = .ok (.aload_n 0, 1) := by decide +kernel
theorem dX12_shelf_46 : decode cX12_shelf 46 = .ok (.iload_n 3, 1) := by decide +kernel
theorem dX12_shelf_47 : decode cX12_shelf 47 = .ok (.invokevirtual 268, 3) := by decide +kernel
theorem dX12_shelf_50 : decode cX12_shelf 50 = .ok (.ifCond .eq 22, 3) := by decide +kernel
theorem dX12_shelf_53 : decode cX12_shelf 53 = .ok (.aload_n 0, 1) := by decide +kernel
theorem dX12_shelf_54 : decode cX12_shelf 54 = .ok (.iconst 1, 1) := by decide +kernel
theorem dX12_shelf_55 : decode cX12_shelf 55 = .ok (.iconst 4, 1) := by decide +kernel
theorem dX12_shelf_56 : decode cX12_shelf 56 = .ok (.iload_n 2, 1) := by decide +kernel
theorem dX12_shelf_57 : decode cX12_shelf 57 = .ok (.bipush 10, 2) := by decide +kernel
theorem dX12_shelf_59 : decode cX12_shelf 59 = .ok (.idiv, 1) := by decide +kernel
theorem dX12_shelf_60 : decode cX12_shelf 60 = .ok (.iconst 1, 1) := by decide +kernel
theorem dX12_shelf_61 : decode cX12_shelf 61 = .ok (.isub, 1) := by decide +kernel
theorem dX12_shelf_62 : decode cX12_shelf 62 = .ok (.imul, 1) := by decide +kernel
theorem dX12_shelf_63 : decode cX12_shelf 63 = .ok (.iadd, 1) := by decide +kernel
theorem dX12_shelf_64 : decode cX12_shelf 64 = .ok (.iload_n 3, 1) := by decide +kernel
theorem dX12_shelf_65 : decode cX12_shelf 65 = .ok (.iadd, 1) := by decide +kernel
theorem dX12_shelf_66 : decode cX12_shelf 66 = .ok (.invokevirtual 255, 3) := by decide +kernel
theorem dX12_shelf_69 : decode cX12_shelf 69 = .ok (.goto 4, 3) := by decide +kernel
theorem dX12_shelf_72 : decode cX12_shelf 72 = .ok (.iconst (-1), 1) := by decide +kernel
theorem dX12_shelf_73 : decode cX12_shelf 73 = .ok (.ireturn, 1) := by decide +kernel
theorem dX12_deeds_0 : decode cX12_deeds 0 = .ok (.aload_n 0, 1) := by decide +kernel
theorem dX12_deeds_1 : decode cX12_deeds 1 = .ok (.getfield 29, 3) := by decide +kernel
theorem dX12_deeds_4 : decode cX12_deeds 4 = .ok (.bipush 81, 2) := by decide +kernel
theorem dX12_deeds_6 : decode cX12_deeds 6 = .ok (.aload_n 0, 1) := by decide +kernel
theorem dX12_deeds_7 : decode cX12_deeds 7 = .ok (.getfield 271, 3) := by decide +kernel
theorem dX12_deeds_10 : decode cX12_deeds 10 = .ok (.imul, 1) := by decide +kernel
theorem dX12_deeds_11 : decode cX12_deeds 11 = .ok (.iaload, 1) := by decide +kernel
theorem dX12_deeds_12 : decode cX12_deeds 12 = .ok (.ireturn, 1) := by decide +kernel
theorem dX12_deedOf_0 : decode cX12_deedOf 0 = .ok (.aload_n 0, 1) := by decide +kernel
theorem dX12_deedOf_1 : decode cX12_deedOf 1 = .ok (.getfield 29, 3) := by decide +kernel
theorem dX12_deedOf_4 : decode cX12_deedOf 4 = .ok (.bipush 81, 2) := by decide +kernel
theorem dX12_deedOf_6 : decode cX12_deedOf 6 = .ok (.aload_n 0, 1) := by decide +kernel
theorem dX12_deedOf_7 : decode cX12_deedOf 7 = .ok (.getfield 271, 3) := by decide +kernel
theorem dX12_deedOf_10 : decode cX12_deedOf 10 = .ok (.imul, 1) := by decide +kernel
theorem dX12_deedOf_11 : decode cX12_deedOf 11 = .ok (.iconst 1, 1) := by decide +kernel
theorem dX12_deedOf_12 : decode cX12_deedOf 12 = .ok (.iadd, 1) := by decide +kernel
theorem dX12_deedOf_13 : decode cX12_deedOf 13 = .ok (.iconst 2, 1) := by decide +kernel
theorem dX12_deedOf_14 : decode cX12_deedOf 14 = .ok (.iload_n 1, 1) := by decide +kernel
theorem dX12_deedOf_15 : decode cX12_deedOf 15 = .ok (.imul, 1) := by decide +kernel
theorem dX12_deedOf_16 : decode cX12_deedOf 16 = .ok (.iadd, 1) := by decide +kernel
theorem dX12_deedOf_17 : decode cX12_deedOf 17 = .ok (.iload_n 2, 1) := by decide +kernel
theorem dX12_deedOf_18 : decode cX12_deedOf 18 = .ok (.iadd, 1) := by decide +kernel
theorem dX12_deedOf_19 : decode cX12_deedOf 19 = .ok (.iaload, 1) := by decide +kernel
theorem dX12_deedOf_20 : decode cX12_deedOf 20 = .ok (.ireturn, 1) := by decide +kernel
set_option maxRecDepth 20000 in
theorem ggX12_hasDay_X12_is : GoodIn wsX12_hasDay wsX12_is := goodIn_r _ [6, 7, 8, 9, 5, 10, 11, 12, 13, 14, 15, 16, 17, 18, 19, 20, 21, 22, 23, 24, 25, 26, 27, 28, 29, 30, 31, 32, 33, 34, 35, 36, 37, 38, 39, 40, 41, 42, 43, 44, 45, 46, 47, 48, 49, 50, 51, 52, 53, 54, 55, 56, 57, 58, 59, 60, 61, 62, 63, 64, 65, 66, 67, 68, 69, 70, 71] (by decide +kernel) (by decide +kernel)
set_option maxRecDepth 20000 in
theorem gX12_hasDay_X12_is : GoodIn wsX12_hasDay (wsV RX12 237 RX12 yX12_is wsX12_is) := goodIn_app (goodIn_of _ (by decide +kernel)) ggX12_hasDay_X12_is
theorem dX12_hasDay_0 : decode cX12_hasDay 0 = .ok (.aload_n 0, 1) := by decide +kernel
theorem dX12_hasDay_1 : decode cX12_hasDay 1 = .ok (.iload_n 1, 1) := by decide +kernel
theorem dX12_hasDay_2 : decode cX12_hasDay 2 = .ok (.putfield 271, 3) := by decide +kernel
theorem dX12_hasDay_5 : decode cX12_hasDay 5 = .ok (.aload_n 0, 1) := by decide +kernel
theorem dX12_hasDay_6 : decode cX12_hasDay 6 = .ok (.iconst 1, 1) := by decide +kernel
theorem dX12_hasDay_7 : decode cX12_hasDay 7 = .ok (.iload_n 1, 1) := by decide +kernel
theorem dX12_hasDay_8 : decode cX12_hasDay 8 = .ok (.invokevirtual 237, 3) := by decide +kernel
theorem dX12_hasDay_11 : decode cX12_hasDay 11 = .ok (.ireturn, 1) := by decide +kernel
set_option maxRecDepth 20000 in
theorem ggX12_deed_X12_hasDay : GoodIn wsX12_deed wsX12_hasDay := goodIn_r _ [6, 7, 8, 9, 10, 5, 11, 12, 13, 14, 15, 25, 26, 27, 28, 29, 30, 31, 32, 33, 34, 35, 36, 37, 38, 39, 40, 41, 42, 43, 44, 45, 46, 47, 48, 49, 50, 51, 52, 53, 54, 55, 56, 57, 58, 59, 60, 61, 62, 63, 64, 65, 66, 67, 68, 69, 70, 71, 72, 73, 74, 75, 76, 77, 78, 79, 80, 81, 82, 83, 84, 85] (by decide +kernel) (by decide +kernel)
set_option maxRecDepth 20000 in
theorem gX12_deed_X12_hasDay : GoodIn wsX12_deed (wsV RX12 274 RX12 yX12_hasDay wsX12_hasDay) := goodIn_app (goodIn_of _ (by decide +kernel)) ggX12_deed_X12_hasDay
set_option maxRecDepth 20000 in
theorem ggX12_deed_X12_deeds : GoodIn wsX12_deed wsX12_deeds := goodIn_r _ [19, 20, 7, 25, 26, 27, 28, 29, 30, 31, 32, 33, 34, 35, 36, 37, 38, 39, 40, 41, 42, 43, 44, 45, 46, 47, 48, 49, 50, 51, 52, 53, 54, 55, 56, 57, 58, 59, 60, 61, 62, 63, 64, 65, 66, 67, 68, 69, 70, 71, 72, 73, 74, 75, 76, 77, 78, 79, 80, 81, 82, 83, 84, 85] (by decide +kernel) (by decide +kernel)
set_option maxRecDepth 20000 in
theorem gX12_deed_X12_deeds : GoodIn wsX12_deed (wsV RX12 277 RX12 yX12_deeds wsX12_deeds) := goodIn_app (goodIn_of _ (by decide +kernel)) ggX12_deed_X12_deeds
set_option maxRecDepth 20000 in
theorem ggX12_deed_X12_in : GoodIn wsX12_deed wsX12_in := goodIn_r _ [15] (by decide +kernel) (by decide +kernel)
set_option maxRecDepth 20000 in
theorem gX12_deed_X12_in : GoodIn wsX12_deed (va_wsS RX12 110 yX12_in wsX12_in) := goodIn_app (goodIn_of _ (by decide +kernel)) ggX12_deed_X12_in
set_option maxRecDepth 20000 in
theorem ggX12_deed_X12_deedOf : GoodIn wsX12_deed wsX12_deedOf := goodIn_r _ [24, 20, 7, 25, 26, 27, 28, 29, 30, 31, 32, 33, 34, 35, 36, 37, 38, 39, 40, 41, 42, 43, 44, 45, 46, 47, 48, 49, 50, 51, 52, 53, 54, 55, 56, 57, 58, 59, 60, 61, 62, 63, 64, 65, 66, 67, 68, 69, 70, 71, 72, 73, 74, 75, 76, 77, 78, 79, 80, 81, 82, 83, 84, 85] (by decide +kernel) (by decide +kernel)
set_option maxRecDepth 20000 in
theorem gX12_deed_X12_deedOf : GoodIn wsX12_deed (wsV RX12 280 RX12 yX12_deedOf wsX12_deedOf) := goodIn_app (goodIn_of _ (by decide +kernel)) ggX12_deed_X12_deedOf
theorem dX12_deed_0 : decode cX12_deed 0 = .ok (.aload_n 0, 1) := by decide +kernel
theorem dX12_deed_1 : decode cX12_deed 1 = .ok (.iconst 0, 1) := by decide +kernel
theorem dX12_deed_2 : decode cX12_deed 2 = .ok (.putfield 98, 3) := by decide +kernel
theorem dX12_deed_5 : decode cX12_deed 5 = .ok (.aload_n 0, 1) := by decide +kernel
theorem dX12_deed_6 : decode cX12_deed 6 = .ok (.iload_n 1, 1) := by decide +kernel
theorem dX12_deed_7 : decode cX12_deed 7 = .ok (.invokevirtual 274, 3) := by decide +kernel
theorem dX12_deed_10 : decode cX12_deed 10 = .ok (.ifCond .ne 6, 3) := by decide +kernel
theorem dX12_deed_13 : decode cX12_deed 13 = .ok (.bipush (-2), 2) := by decide +kernel
theorem dX12_deed_15 : decode cX12_deed 15 = .ok (.ireturn, 1) := by decide +kernel
theorem dX12_deed_16 : decode cX12_deed 16 = .ok (.iload_n 2, 1) := by decide +kernel
theorem dX12_deed_17 : decode cX12_deed 17 = .ok (.iconst (-1), 1) := by decide +kernel
theorem dX12_deed_18 : decode cX12_deed 18 = .ok (.if_icmp .ne 17, 3) := by decide +kernel
theorem dX12_deed_21 : decode cX12_deed 21 = .ok (.iload_n 3, 1) := by decide +kernel
theorem dX12_deed_22 : decode cX12_deed 22 = .ok (.ifCond .ne 10, 3) := by decide +kernel
theorem dX12_deed_25 : decode cX12_deed 25 = .ok (.aload_n 0, 1) := by decide +kernel
theorem dX12_deed_26 : decode cX12_deed 26 = .ok (.invokevirtual 277, 3) := by decide +kernel
theorem dX12_deed_29 : decode cX12_deed 29 = .ok (.goto 5, 3) := by decide +kernel
theorem dX12_deed_32 : decode cX12_deed 32 = .ok (.bipush (-2), 2) := by decide +kernel
theorem dX12_deed_34 : decode cX12_deed 34 = .ok (.ireturn, 1) := by decide +kernel
theorem dX12_deed_35 : decode cX12_deed 35 = .ok (.iload_n 2, 1) := by decide +kernel
theorem dX12_deed_36 : decode cX12_deed 36 = .ok (.iconst 0, 1) := by decide +kernel
theorem dX12_deed_37 : decode cX12_deed 37 = .ok (.aload_n 0, 1) := by decide +kernel
theorem dX12_deed_38 : decode cX12_deed 38 = .ok (.invokevirtual 277, 3) := by decide +kernel
theorem dX12_deed_41 : decode cX12_deed 41 = .ok (.iconst 1, 1) := by decide +kernel
theorem dX12_deed_42 : decode cX12_deed 42 = .ok (.isub, 1) := by decide +kernel
theorem dX12_deed_43 : decode cX12_deed 43 = .ok (.invokestatic 110, 3) := by decide +kernel
theorem dX12_deed_46 : decode cX12_deed 46 = .ok (.ifCond .eq 21, 3) := by decide +kernel
theorem dX12_deed_49 : decode cX12_deed 49 = .ok (.iload_n 3, 1) := by decide +kernel
theorem dX12_deed_50 : decode cX12_deed 50 = .ok (.iconst 0, 1) := by decide +kernel
theorem dX12_deed_51 : decode cX12_deed 51 = .ok (.iconst 1, 1) := by decide +kernel
theorem dX12_deed_52 : decode cX12_deed 52 = .ok (.invokestatic 110, 3) := by decide +kernel
theorem dX12_deed_55 : decode cX12_deed 55 = .ok (.ifCond .eq 12, 3) := by decide +kernel
theorem dX12_deed_58 : decode cX12_deed 58 = .ok (.aload_n 0, 1) := by decide +kernel
theorem dX12_deed_59 : decode cX12_deed 59 = .ok (.iload_n 2, 1) := by decide +kernel
theorem dX12_deed_60 : decode cX12_deed 60 = .ok (.iload_n 3, 1) := by decide +kernel
theorem dX12_deed_61 : decode cX12_deed 61 = .ok (.invokevirtual 280, 3) := by decide +kernel
theorem dX12_deed_64 : decode cX12_deed 64 = .ok (.goto 5, 3) := by decide +kernel
theorem dX12_deed_67 : decode cX12_deed 67 = .ok (.bipush (-2), 2) := by decide +kernel
theorem dX12_deed_69 : decode cX12_deed 69 = .ok (.ireturn, 1) := by decide +kernel
theorem dX12_beginDay_0 : decode cX12_beginDay 0 = .ok (.aload_n 0, 1) := by decide +kernel
theorem dX12_beginDay_1 : decode cX12_beginDay 1 = .ok (.iconst 0, 1) := by decide +kernel
theorem dX12_beginDay_2 : decode cX12_beginDay 2 = .ok (.putfield 283, 3) := by decide +kernel
theorem dX12_beginDay_5 : decode cX12_beginDay 5 = .ok (.aload_n 0, 1) := by decide +kernel
theorem dX12_beginDay_6 : decode cX12_beginDay 6 = .ok (.iconst 0, 1) := by decide +kernel
theorem dX12_beginDay_7 : decode cX12_beginDay 7 = .ok (.putfield 286, 3) := by decide +kernel
theorem dX12_beginDay_10 : decode cX12_beginDay 10 = .ok (.aload_n 0, 1) := by decide +kernel
theorem dX12_beginDay_11 : decode cX12_beginDay 11 = .ok (.iconst 0, 1) := by decide +kernel
theorem dX12_beginDay_12 : decode cX12_beginDay 12 = .ok (.putfield 289, 3) := by decide +kernel
theorem dX12_beginDay_15 : decode cX12_beginDay 15 = .ok (.aload_n 0, 1) := by decide +kernel
theorem dX12_beginDay_16 : decode cX12_beginDay 16 = .ok (.iconst 0, 1) := by decide +kernel
theorem dX12_beginDay_17 : decode cX12_beginDay 17 = .ok (.putfield 292, 3) := by decide +kernel
theorem dX12_beginDay_20 : decode cX12_beginDay 20 = .ok (.aload_n 0, 1) := by decide +kernel
theorem dX12_beginDay_21 : decode cX12_beginDay 21 = .ok (.iconst (-1), 1) := by decide +kernel
theorem dX12_beginDay_22 : decode cX12_beginDay 22 = .ok (.putfield 295, 3) := by decide +kernel
theorem dX12_beginDay_25 : decode cX12_beginDay 25 = .ok (.aload_n 0, 1) := by decide +kernel
theorem dX12_beginDay_26 : decode cX12_beginDay 26 = .ok (.iconst 0, 1) := by decide +kernel
theorem dX12_beginDay_27 : decode cX12_beginDay 27 = .ok (.putfield 298, 3) := by decide +kernel
theorem dX12_beginDay_30 : decode cX12_beginDay 30 = .ok (.aload_n 0, 1) := by decide +kernel
theorem dX12_beginDay_31 : decode cX12_beginDay 31 = .ok (.iconst 0, 1) := by decide +kernel
theorem dX12_beginDay_32 : decode cX12_beginDay 32 = .ok (.putfield 301, 3) := by decide +kernel
theorem dX12_beginDay_35 : decode cX12_beginDay 35 = .ok (.iconst 0, 1) := by decide +kernel
theorem dX12_beginDay_36 : decode cX12_beginDay 36 = .ok (.istore_n 1, 1) := by decide +kernel
theorem dX12_beginDay_37 : decode cX12_beginDay 37 = .ok (.iload_n 1, 1) := by decide +kernel
theorem dX12_beginDay_38 : decode cX12_beginDay 38 = .ok (.iconst 4, 1) := by decide +kernel
theorem dX12_beginDay_39 : decode cX12_beginDay 39 = .ok (.if_icmp .ge 16, 3) := by decide +kernel
theorem dX12_beginDay_42 : decode cX12_beginDay 42 = .ok (.aload_n 0, 1) := by decide +kernel
theorem dX12_beginDay_43 : decode cX12_beginDay 43 = .ok (.getfield 50, 3) := by decide +kernel
theorem dX12_beginDay_46 : decode cX12_beginDay 46 = .ok (.iload_n 1, 1) := by decide +kernel
theorem dX12_beginDay_47 : decode cX12_beginDay 47 = .ok (.iconst 0, 1) := by decide +kernel
theorem dX12_beginDay_48 : decode cX12_beginDay 48 = .ok (.iastore, 1) := by decide +kernel
theorem dX12_beginDay_49 : decode cX12_beginDay 49 = .ok (.iinc 1 1, 3) := by decide +kernel
theorem dX12_beginDay_52 : decode cX12_beginDay 52 = .ok (.goto (-15), 3) := by decide +kernel
theorem dX12_beginDay_55 : decode cX12_beginDay 55 = .ok (.iconst 0, 1) := by decide +kernel
theorem dX12_beginDay_56 : decode cX12_beginDay 56 = .ok (.istore_n 1, 1) := by decide +kernel
theorem dX12_beginDay_57 : decode cX12_beginDay 57 = .ok (.iload_n 1, 1) := by decide +kernel
theorem dX12_beginDay_58 : decode cX12_beginDay 58 = .ok (.bipush 100, 2) := by decide +kernel
theorem dX12_beginDay_60 : decode cX12_beginDay 60 = .ok (.if_icmp .ge 16, 3) := by decide +kernel
theorem dX12_beginDay_63 : decode cX12_beginDay 63 = .ok (.aload_n 0, 1) := by decide +kernel
theorem dX12_beginDay_64 : decode cX12_beginDay 64 = .ok (.getfield 53, 3) := by decide +kernel
theorem dX12_beginDay_67 : decode cX12_beginDay 67 = .ok (.iload_n 1, 1) := by decide +kernel
theorem dX12_beginDay_68 : decode cX12_beginDay 68 = .ok (.iconst 0, 1) := by decide +kernel
theorem dX12_beginDay_69 : decode cX12_beginDay 69 = .ok (.iastore, 1) := by decide +kernel
theorem dX12_beginDay_70 : decode cX12_beginDay 70 = .ok (.iinc 1 1, 3) := by decide +kernel
theorem dX12_beginDay_73 : decode cX12_beginDay 73 = .ok (.goto (-16), 3) := by decide +kernel
theorem dX12_beginDay_76 : decode cX12_beginDay 76 = .ok (.return_, 1) := by decide +kernel
set_option maxRecDepth 20000 in
theorem ggX12_goBy_X12_has : GoodIn wsX12_goBy wsX12_has := goodIn_r _ [14] (by decide +kernel) (by decide +kernel)
set_option maxRecDepth 20000 in
theorem gX12_goBy_X12_has : GoodIn wsX12_goBy (va_wsS RX12 102 yX12_has wsX12_has) := goodIn_app (goodIn_of _ (by decide +kernel)) ggX12_goBy_X12_has
set_option maxRecDepth 20000 in
theorem ggX12_goBy_X12_ones : GoodIn wsX12_goBy wsX12_ones := goodIn_r _ [17, 11, 12, 13, 14] (by decide +kernel) (by decide +kernel)
set_option maxRecDepth 20000 in
theorem gX12_goBy_X12_ones : GoodIn wsX12_goBy (va_wsS RX12 304 yX12_ones wsX12_ones) := goodIn_app (goodIn_of _ (by decide +kernel)) ggX12_goBy_X12_ones
set_option maxRecDepth 20000 in
theorem ggX12_goBy_X12_greater : GoodIn wsX12_goBy wsX12_greater := goodIn_r _ [20] (by decide +kernel) (by decide +kernel)
set_option maxRecDepth 20000 in
theorem gX12_goBy_X12_greater : GoodIn wsX12_goBy (va_wsS RX12 186 yX12_greater wsX12_greater) := goodIn_app (goodIn_of _ (by decide +kernel)) ggX12_goBy_X12_greater
theorem dX12_goBy_0 : decode cX12_goBy 0 = .ok (.aload_n 0, 1) := by decide +kernel
theorem dX12_goBy_1 : decode cX12_goBy 1 = .ok (.dup, 1) := by decide +kernel
theorem dX12_goBy_2 : decode cX12_goBy 2 = .ok (.getfield 283, 3) := by decide +kernel
theorem dX12_goBy_5 : decode cX12_goBy 5 = .ok (.iconst 1, 1) := by decide +kernel
theorem dX12_goBy_6 : decode cX12_goBy 6 = .ok (.iadd, 1) := by decide +kernel
theorem dX12_goBy_7 : decode cX12_goBy 7 = .ok (.putfield 283, 3) := by decide +kernel
theorem dX12_goBy_10 : decode cX12_goBy 10 = .ok (.iconst 0, 1) := by decide +kernel
theorem dX12_goBy_11 : decode cX12_goBy 11 = .ok (.istore_n 1, 1) := by decide +kernel
theorem dX12_goBy_12 : decode cX12_goBy 12 = .ok (.iconst 0, 1) := by decide +kernel
theorem dX12_goBy_13 : decode cX12_goBy 13 = .ok (.istore_n 2, 1) := by decide +kernel
theorem dX12_goBy_14 : decode cX12_goBy 14 = .ok (.iload_n 2, 1) := by decide +kernel
theorem dX12_goBy_15 : decode cX12_goBy 15 = .ok (.aload_n 0, 1) := by decide +kernel
theorem dX12_goBy_16 : decode cX12_goBy 16 = .ok (.getfield 259, 3) := by decide +kernel
theorem dX12_goBy_19 : decode cX12_goBy 19 = .ok (.if_icmp .ge 92, 3) := by decide +kernel
theorem dX12_goBy_22 : decode cX12_goBy 22 = .ok (.aload_n 0, 1) := by decide +kernel
theorem dX12_goBy_23 : decode cX12_goBy 23 = .ok (.getfield 286, 3) := by decide +kernel
theorem dX12_goBy_26 : decode cX12_goBy 26 = .ok (.iload_n 2, 1) := by decide +kernel
theorem dX12_goBy_27 : decode cX12_goBy 27 = .ok (.invokestatic 102, 3) := by decide +kernel
theorem dX12_goBy_30 : decode cX12_goBy 30 = .ok (.ifCond .ne 75, 3) := by decide +kernel
theorem dX12_goBy_33 : decode cX12_goBy 33 = .ok (.aload_n 0, 1) := by decide +kernel
theorem dX12_goBy_34 : decode cX12_goBy 34 = .ok (.getfield 47, 3) := by decide +kernel
theorem dX12_goBy_37 : decode cX12_goBy 37 = .ok (.iload_n 2, 1) := by decide +kernel
theorem dX12_goBy_38 : decode cX12_goBy 38 = .ok (.iaload, 1) := by decide +kernel
theorem dX12_goBy_39 : decode cX12_goBy 39 = .ok (.ifCond .le 66, 3) := by decide +kernel
theorem dX12_goBy_42 : decode cX12_goBy 42 = .ok (.iconst 1, 1) := by decide +kernel
theorem dX12_goBy_43 : decode cX12_goBy 43 = .ok (.istore_n 1, 1) := by decide +kernel
theorem dX12_goBy_44 : decode cX12_goBy 44 = .ok (.aload_n 0, 1) := by decide +kernel
theorem dX12_goBy_45 : decode cX12_goBy 45 = .ok (.getfield 47, 3) := by decide +kernel
theorem dX12_goBy_48 : decode cX12_goBy 48 = .ok (.iload_n 2, 1) := by decide +kernel
theorem dX12_goBy_49 : decode cX12_goBy 49 = .ok (.dup2, 1) := by decide +kernel
theorem dX12_goBy_50 : decode cX12_goBy 50 = .ok (.iaload, 1) := by decide +kernel
theorem dX12_goBy_51 : decode cX12_goBy 51 = .ok (.iconst 1, 1) := by decide +kernel
theorem dX12_goBy_52 : decode cX12_goBy 52 = .ok (.isub, 1) := by decide +kernel
theorem dX12_goBy_53 : decode cX12_goBy 53 = .ok (.iastore, 1) := by decide +kernel
theorem dX12_goBy_54 : decode cX12_goBy 54 = .ok (.aload_n 0, 1) := by decide +kernel
theorem dX12_goBy_55 : decode cX12_goBy 55 = .ok (.getfield 53, 3) := by decide +kernel
theorem dX12_goBy_58 : decode cX12_goBy 58 = .ok (.aload_n 0, 1) := by decide +kernel
theorem dX12_goBy_59 : decode cX12_goBy 59 = .ok (.getfield 283, 3) := by decide +kernel
theorem dX12_goBy_62 : decode cX12_goBy 62 = .ok (.dup2, 1) := by decide +kernel
theorem dX12_goBy_63 : decode cX12_goBy 63 = .ok (.iaload, 1) := by decide +kernel
theorem dX12_goBy_64 : decode cX12_goBy 64 = .ok (.aload_n 0, 1) := by decide +kernel
theorem dX12_goBy_65 : decode cX12_goBy 65 = .ok (.getfield 47, 3) := by decide +kernel
theorem dX12_goBy_68 : decode cX12_goBy 68 = .ok (.iload_n 2, 1) := by decide +kernel
theorem dX12_goBy_69 : decode cX12_goBy 69 = .ok (.iaload, 1) := by decide +kernel
theorem dX12_goBy_70 : decode cX12_goBy 70 = .ok (.ifCond .ne 9, 3) := by decide +kernel
theorem dX12_goBy_73 : decode cX12_goBy 73 = .ok (.iconst 1, 1) := by decide +kernel
theorem dX12_goBy_74 : decode cX12_goBy 74 = .ok (.iload_n 2, 1) := by decide +kernel
theorem dX12_goBy_75 : decode cX12_goBy 75 = .ok (.ishl, 1) := by decide +kernel
theorem dX12_goBy_76 : decode cX12_goBy 76 = .ok (.goto 4, 3) := by decide +kernel
theorem dX12_goBy_79 : decode cX12_goBy 79 = .ok (.iconst 0, 1) := by decide +kernel
theorem dX12_goBy_80 : decode cX12_goBy 80 = .ok (.ior, 1) := by decide +kernel
theorem dX12_goBy_81 : decode cX12_goBy 81 = .ok (.iastore, 1) := by decide +kernel
theorem dX12_goBy_82 : decode cX12_goBy 82 = .ok (.aload_n 0, 1) := by decide +kernel
theorem dX12_goBy_83 : decode cX12_goBy 83 = .ok (.getfield 50, 3) := by decide +kernel
theorem dX12_goBy_86 : decode cX12_goBy 86 = .ok (.iload_n 2, 1) := by decide +kernel
theorem dX12_goBy_87 : decode cX12_goBy 87 = .ok (.dup2, 1) := by decide +kernel
theorem dX12_goBy_88 : decode cX12_goBy 88 = .ok (.iaload, 1) := by decide +kernel
theorem dX12_goBy_89 : decode cX12_goBy 89 = .ok (.aload_n 0, 1) := by decide +kernel
theorem dX12_goBy_90 : decode cX12_goBy 90 = .ok (.getfield 47, 3) := by decide +kernel
theorem dX12_goBy_93 : decode cX12_goBy 93 = .ok (.iload_n 2, 1) := by decide +kernel
theorem dX12_goBy_94 : decode cX12_goBy 94 = .ok (.iaload, 1) := by decide +kernel
theorem dX12_goBy_95 : decode cX12_goBy 95 = .ok (.ifCond .ne 7, 3) := by decide +kernel
theorem dX12_goBy_98 : decode cX12_goBy 98 = .ok (.iconst 1, 1) := by decide +kernel
theorem dX12_goBy_99 : decode cX12_goBy 99 = .ok (.goto 4, 3) := by decide +kernel
theorem dX12_goBy_102 : decode cX12_goBy 102 = .ok (.iconst 0, 1) := by decide +kernel
theorem dX12_goBy_103 : decode cX12_goBy 103 = .ok (.iadd, 1) := by decide +kernel
theorem dX12_goBy_104 : decode cX12_goBy 104 = .ok (.iastore, 1) := by decide +kernel
theorem dX12_goBy_105 : decode cX12_goBy 105 = .ok (.iinc 2 1, 3) := by decide +kernel
theorem dX12_goBy_108 : decode cX12_goBy 108 = .ok (.goto (-94), 3) := by decide +kernel
theorem dX12_goBy_111 : decode cX12_goBy 111 = .ok (.aload_n 0, 1) := by decide +kernel
theorem dX12_goBy_112 : decode cX12_goBy 112 = .ok (.getfield 53, 3) := by decide +kernel
theorem dX12_goBy_115 : decode cX12_goBy 115 = .ok (.aload_n 0, 1) := by decide +kernel
theorem dX12_goBy_116 : decode cX12_goBy 116 = .ok (.getfield 283, 3) := by decide +kernel
theorem dX12_goBy_119 : decode cX12_goBy 119 = .ok (.iaload, 1) := by decide +kernel
theorem dX12_goBy_120 : decode cX12_goBy 120 = .ok (.invokestatic 304, 3) := by decide +kernel
theorem dX12_goBy_123 : decode cX12_goBy 123 = .ok (.istore_n 2, 1) := by decide +kernel
theorem dX12_goBy_124 : decode cX12_goBy 124 = .ok (.aload_n 0, 1) := by decide +kernel
theorem dX12_goBy_125 : decode cX12_goBy 125 = .ok (.dup, 1) := by decide +kernel
theorem dX12_goBy_126 : decode cX12_goBy 126 = .ok (.getfield 289, 3) := by decide +kernel
theorem dX12_goBy_129 : decode cX12_goBy 129 = .ok (.iload_n 2, 1) := by decide +kernel
theorem dX12_goBy_130 : decode cX12_goBy 130 = .ok (.iadd, 1) := by decide +kernel
theorem dX12_goBy_131 : decode cX12_goBy 131 = .ok (.putfield 289, 3) := by decide +kernel
theorem dX12_goBy_134 : decode cX12_goBy 134 = .ok (.aload_n 0, 1) := by decide +kernel
theorem dX12_goBy_135 : decode cX12_goBy 135 = .ok (.aload_n 0, 1) := by decide +kernel
theorem dX12_goBy_136 : decode cX12_goBy 136 = .ok (.getfield 298, 3) := by decide +kernel
theorem dX12_goBy_139 : decode cX12_goBy 139 = .ok (.iload_n 2, 1) := by decide +kernel
theorem dX12_goBy_140 : decode cX12_goBy 140 = .ok (.invokestatic 186, 3) := by decide +kernel
theorem dX12_goBy_143 : decode cX12_goBy 143 = .ok (.putfield 298, 3) := by decide +kernel
theorem dX12_goBy_146 : decode cX12_goBy 146 = .ok (.aload_n 0, 1) := by decide +kernel
theorem dX12_goBy_147 : decode cX12_goBy 147 = .ok (.aload_n 0, 1) := by decide +kernel
theorem dX12_goBy_148 : decode cX12_goBy 148 = .ok (.getfield 295, 3) := by decide +kernel
theorem dX12_goBy_151 : decode cX12_goBy 151 = .ok (.iconst (-1), 1) := by decide +kernel
theorem dX12_goBy_152 : decode cX12_goBy 152 = .ok (.if_icmp .ne 14, 3) := by decide +kernel
theorem dX12_goBy_155 : decode cX12_goBy 155 = .ok (.iload_n 2, 1) := by decide +kernel
theorem dX12_goBy_156 : decode cX12_goBy 156 = .ok (.ifCond .le 10, 3) := by decide +kernel
theorem dX12_goBy_159 : decode cX12_goBy 159 = .ok (.aload_n 0, 1) := by decide +kernel
theorem dX12_goBy_160 : decode cX12_goBy 160 = .ok (.getfield 283, 3) := by decide +kernel
theorem dX12_goBy_163 : decode cX12_goBy 163 = .ok (.goto 7, 3) := by decide +kernel
theorem dX12_goBy_166 : decode cX12_goBy 166 = .ok (.aload_n 0, 1) := by decide +kernel
theorem dX12_goBy_167 : decode cX12_goBy 167 = .ok (.getfield 295, 3) := by decide +kernel
theorem dX12_goBy_170 : decode cX12_goBy 170 = .ok (.putfield 295, 3) := by decide +kernel
theorem dX12_goBy_173 : decode cX12_goBy 173 = .ok (.aload_n 0, 1) := by decide +kernel
theorem dX12_goBy_174 : decode cX12_goBy 174 = .ok (.dup, 1) := by decide +kernel
theorem dX12_goBy_175 : decode cX12_goBy 175 = .ok (.getfield 301, 3) := by decide +kernel
theorem dX12_goBy_178 : decode cX12_goBy 178 = .ok (.iload_n 1, 1) := by decide +kernel
theorem dX12_goBy_179 : decode cX12_goBy 179 = .ok (.ifCond .eq 7, 3) := by decide +kernel
theorem dX12_goBy_182 : decode cX12_goBy 182 = .ok (.iconst 0, 1) := by decide +kernel
theorem dX12_goBy_183 : decode cX12_goBy 183 = .ok (.goto 4, 3) := by decide +kernel
theorem dX12_goBy_186 : decode cX12_goBy 186 = .ok (.iconst 1, 1) := by decide +kernel
theorem dX12_goBy_187 : decode cX12_goBy 187 = .ok (.iadd, 1) := by decide +kernel
theorem dX12_goBy_188 : decode cX12_goBy 188 = .ok (.putfield 301, 3) := by decide +kernel
theorem dX12_goBy_191 : decode cX12_goBy 191 = .ok (.return_, 1) := by decide +kernel
set_option maxRecDepth 20000 in
theorem ggX12_waits_X12_goBy : GoodIn wsX12_waits wsX12_goBy := goodIn_r _ [6, 1, 7, 8, 9, 10, 11, 12, 13, 14, 15, 16, 17, 5, 18, 19, 20, 21, 22, 23, 24, 25, 26, 27, 28, 29, 30, 31, 32, 33, 34, 35, 36, 37, 38, 39, 40, 41, 42, 43, 44, 45, 46, 47, 48, 49, 50, 51, 52, 53, 54, 55, 56, 57, 58, 59, 60, 61, 62, 63, 64, 65, 66, 67, 68, 69, 70, 71, 72, 73, 74, 75, 76, 77, 78, 79, 80, 81, 82, 83, 84, 85] (by decide +kernel) (by decide +kernel)
set_option maxRecDepth 20000 in
theorem gX12_waits_X12_goBy : GoodIn wsX12_waits (wsV RX12 307 RX12 yX12_goBy wsX12_goBy) := goodIn_app (goodIn_of _ (by decide +kernel)) ggX12_waits_X12_goBy
theorem dX12_waits_0 : decode cX12_waits 0 = .ok (.aload_n 0, 1) := by decide +kernel
theorem dX12_waits_1 : decode cX12_waits 1 = .ok (.getfield 283, 3) := by decide +kernel
theorem dX12_waits_4 : decode cX12_waits 4 = .ok (.iload_n 1, 1) := by decide +kernel
theorem dX12_waits_5 : decode cX12_waits 5 = .ok (.iadd, 1) := by decide +kernel
theorem dX12_waits_6 : decode cX12_waits 6 = .ok (.bipush 99, 2) := by decide +kernel
theorem dX12_waits_8 : decode cX12_waits 8 = .ok (.if_icmp .le 5, 3) := by decide +kernel
theorem dX12_waits_11 : decode cX12_waits 11 = .ok (.iconst 0, 1) := by decide +kernel
theorem dX12_waits_12 : decode cX12_waits 12 = .ok (.ireturn, 1) := by decide +kernel
theorem dX12_waits_13 : decode cX12_waits 13 = .ok (.iconst 0, 1) := by decide +kernel
theorem dX12_waits_14 : decode cX12_waits 14 = .ok (.istore_n 2, 1) := by decide +kernel
theorem dX12_waits_15 : decode cX12_waits 15 = .ok (.iload_n 2, 1) := by decide +kernel
theorem dX12_waits_16 : decode cX12_waits 16 = .ok (.iload_n 1, 1) := by decide +kernel
theorem dX12_waits_17 : decode cX12_waits 17 = .ok (.if_icmp .ge 13, 3) := by decide +kernel
theorem dX12_waits_20 : decode cX12_waits 20 = .ok (.aload_n 0, 1) := by decide +kernel
theorem dX12_waits_21 : decode cX12_waits 21 = .ok (.invokevirtual 307, 3) := by decide +kernel
theorem dX12_waits_24 : decode cX12_waits 24 = .ok (.iinc 2 1, 3) := by decide +kernel
theorem dX12_waits_27 : decode cX12_waits 27 = .ok (.goto (-12), 3) := by decide +kernel
theorem dX12_waits_30 : decode cX12_waits 30 = .ok (.iconst 1, 1) := by decide +kernel
theorem dX12_waits_31 : decode cX12_waits 31 = .ok (.ireturn, 1) := by decide +kernel
set_option maxRecDepth 20000 in
theorem ggX12_does_X12_waits : GoodIn wsX12_does wsX12_waits := goodIn_r _ [9, 10, 11, 12, 13, 8, 14, 15, 1, 2, 16, 17, 18, 19, 20, 21, 22, 23, 24, 25, 26, 27, 28, 29, 30, 38, 39, 40, 41, 42, 43, 44, 45, 46, 47, 48, 49, 50, 51, 52, 53, 54, 55, 56, 57, 58, 59, 60, 61, 62, 63, 64, 65, 66, 67, 68, 69, 70, 71, 72, 73, 74, 75, 76, 77, 78, 79, 80, 81, 82, 83, 84, 85, 86, 87, 88, 89, 90, 91, 92, 93, 94, 95, 96, 97, 98] (by decide +kernel) (by decide +kernel)
set_option maxRecDepth 20000 in
theorem gX12_does_X12_waits : GoodIn wsX12_does (wsV RX12 310 RX12 yX12_waits wsX12_waits) := goodIn_app (goodIn_of _ (by decide +kernel)) ggX12_does_X12_waits
set_option maxRecDepth 20000 in
theorem ggX12_does_X12_isGlass : GoodIn wsX12_does wsX12_isGlass := goodIn_r _ [34, 15, 35, 36, 8, 37, 38, 39, 40, 41, 42, 43, 44, 45, 46, 47, 48, 49, 50, 51, 52, 53, 54, 55, 56, 57, 58, 59, 60, 61, 62, 63, 64, 65, 66, 67, 68, 69, 70, 71, 72, 73, 74, 75, 76, 77, 78, 79, 80, 81, 82, 83, 84, 85, 86, 87, 88, 89, 90, 91, 92, 93, 94, 95, 96, 97, 98] (by decide +kernel) (by decide +kernel)
set_option maxRecDepth 20000 in
theorem gX12_does_X12_isGlass : GoodIn wsX12_does (wsV RX12 268 RX12 yX12_isGlass wsX12_isGlass) := goodIn_app (goodIn_of _ (by decide +kernel)) ggX12_does_X12_isGlass
set_option maxRecDepth 20000 in
theorem ggX12_does_X12_has : GoodIn wsX12_does wsX12_has := goodIn_r _ [24] (by decide +kernel) (by decide +kernel)
set_option maxRecDepth 20000 in
theorem gX12_does_X12_has : GoodIn wsX12_does (va_wsS RX12 102 yX12_has wsX12_has) := goodIn_app (goodIn_of _ (by decide +kernel)) ggX12_does_X12_has
theorem dX12_does_0 : decode cX12_does 0 = .ok (.iload_n 1, 1) := by decide +kernel
theorem dX12_does_1 : decode cX12_does 1 = .ok (.ifCond .ne 9, 3) := by decide +kernel
theorem dX12_does_4 : decode cX12_does 4 = .ok (.aload_n 0, 1) := by decide +kernel
theorem dX12_does_5 : decode cX12_does 5 = .ok (.iload_n 2, 1) := by decide +kernel
theorem dX12_does_6 : decode cX12_does 6 = .ok (.invokevirtual 310, 3) := by decide +kernel
theorem dX12_does_9 : decode cX12_does 9 = .ok (.ireturn, 1) := by decide +kernel
theorem dX12_does_10 : decode cX12_does 10 = .ok (.aload_n 0, 1) := by decide +kernel
theorem dX12_does_11 : decode cX12_does 11 = .ok (.iload_n 2, 1) := by decide +kernel
theorem dX12_does_12 : decode cX12_does 12 = .ok (.invokevirtual 268, 3) := by decide +kernel
theorem dX12_does_15 : decode cX12_does 15 = .ok (.ifCond .eq 29, 3) := by decide +kernel
theorem dX12_does_18 : decode cX12_does 18 = .ok (.aload_n 0, 1) := by decide +kernel
theorem dX12_does_19 : decode cX12_does 19 = .ok (.getfield 286, 3) := by decide +kernel
theorem dX12_does_22 : decode cX12_does 22 = .ok (.iload_n 2, 1) := by decide +kernel
theorem dX12_does_23 : decode cX12_does 23 = .ok (.invokestatic 102, 3) := by decide +kernel
theorem dX12_does_26 : decode cX12_does 26 = .ok (.iload_n 1, 1) := by decide +kernel
theorem dX12_does_27 : decode cX12_does 27 = .ok (.iconst 3, 1) := by decide +kernel
theorem dX12_does_28 : decode cX12_does 28 = .ok (.if_icmp .ne 7, 3) := by decide +kernel
theorem dX12_does_31 : decode cX12_does 31 = .ok (.iconst 1, 1) := by decide +kernel
theorem dX12_does_32 : decode cX12_does 32 = .ok (.goto 4, 3) := by decide +kernel
theorem dX12_does_35 : decode cX12_does 35 = .ok (.iconst 0, 1) := by decide +kernel
theorem dX12_does_36 : decode cX12_does 36 = .ok (.if_icmp .eq 10, 3) := by decide +kernel
theorem dX12_does_39 : decode cX12_does 39 = .ok (.iload_n 1, 1) := by decide +kernel
theorem dX12_does_40 : decode cX12_does 40 = .ok (.iconst 4, 1) := by decide +kernel
theorem dX12_does_41 : decode cX12_does 41 = .ok (.if_icmp .eq 5, 3) := by decide +kernel
theorem dX12_does_44 : decode cX12_does 44 = .ok (.iconst 0, 1) := by decide +kernel
theorem dX12_does_45 : decode cX12_does 45 = .ok (.ireturn, 1) := by decide +kernel
theorem dX12_does_46 : decode cX12_does 46 = .ok (.iload_n 1, 1) := by decide +kernel
theorem dX12_does_47 : decode cX12_does 47 = .ok (.tableswitch 86 1 3 #[25, 56, 70], 25) := by decide +kernel
theorem dX12_does_72 : decode cX12_does 72 = .ok (.aload_n 0, 1) := by decide +kernel
theorem dX12_does_73 : decode cX12_does 73 = .ok (.getfield 47, 3) := by decide +kernel
theorem dX12_does_76 : decode cX12_does 76 = .ok (.iload_n 2, 1) := by decide +kernel
theorem dX12_does_77 : decode cX12_does 77 = .ok (.aload_n 0, 1) := by decide +kernel
theorem dX12_does_78 : decode cX12_does 78 = .ok (.getfield 44, 3) := by decide +kernel
theorem dX12_does_81 : decode cX12_does 81 = .ok (.iload_n 2, 1) := by decide +kernel
theorem dX12_does_82 : decode cX12_does 82 = .ok (.iaload, 1) := by decide +kernel
theorem dX12_does_83 : decode cX12_does 83 = .ok (.aload_n 0, 1) := by decide +kernel
theorem dX12_does_84 : decode cX12_does 84 = .ok (.getfield 47, 3) := by decide +kernel
theorem dX12_does_87 : decode cX12_does 87 = .ok (.iload_n 2, 1) := by decide +kernel
theorem dX12_does_88 : decode cX12_does 88 = .ok (.iaload, 1) := by decide +kernel
theorem dX12_does_89 : decode cX12_does 89 = .ok (.isub, 1) := by decide +kernel
theorem dX12_does_90 : decode cX12_does 90 = .ok (.iastore, 1) := by decide +kernel
theorem dX12_does_91 : decode cX12_does 91 = .ok (.aload_n 0, 1) := by decide +kernel
theorem dX12_does_92 : decode cX12_does 92 = .ok (.dup, 1) := by decide +kernel
theorem dX12_does_93 : decode cX12_does 93 = .ok (.getfield 292, 3) := by decide +kernel
theorem dX12_does_96 : decode cX12_does 96 = .ok (.iconst 1, 1) := by decide +kernel
theorem dX12_does_97 : decode cX12_does 97 = .ok (.iadd, 1) := by decide +kernel
theorem dX12_does_98 : decode cX12_does 98 = .ok (.putfield 292, 3) := by decide +kernel
theorem dX12_does_101 : decode cX12_does 101 = .ok (.iconst 1, 1) := by decide +kernel
theorem dX12_does_102 : decode cX12_does 102 = .ok (.ireturn, 1) := by decide +kernel
theorem dX12_does_103 : decode cX12_does 103 = .ok (.aload_n 0, 1) := by decide +kernel
theorem dX12_does_104 : decode cX12_does 104 = .ok (.dup, 1) := by decide +kernel
theorem dX12_does_105 : decode cX12_does 105 = .ok (.getfield 286, 3) := by decide +kernel
theorem dX12_does_108 : decode cX12_does 108 = .ok (.iconst 1, 1) := by decide +kernel
theorem dX12_does_109 : decode cX12_does 109 = .ok (.iload_n 2, 1) := by decide +kernel
theorem dX12_does_110 : decode cX12_does 110 = .ok (.ishl, 1) := by decide +kernel
theorem dX12_does_111 : decode cX12_does 111 = .ok (.ior, 1) := by decide +kernel
theorem dX12_does_112 : decode cX12_does 112 = .ok (.putfield 286, 3) := by decide +kernel
theorem dX12_does_115 : decode cX12_does 115 = .ok (.iconst 1, 1) := by decide +kernel
theorem dX12_does_116 : decode cX12_does 116 = .ok (.ireturn, 1) := by decide +kernel
theorem dX12_does_117 : decode cX12_does 117 = .ok (.aload_n 0, 1) := by decide +kernel
theorem dX12_does_118 : decode cX12_does 118 = .ok (.dup, 1) := by decide +kernel
theorem dX12_does_119 : decode cX12_does 119 = .ok (.getfield 286, 3) := by decide +kernel
theorem dX12_does_122 : decode cX12_does 122 = .ok (.iconst 1, 1) := by decide +kernel
theorem dX12_does_123 : decode cX12_does 123 = .ok (.iload_n 2, 1) := by decide +kernel
theorem dX12_does_124 : decode cX12_does 124 = .ok (.ishl, 1) := by decide +kernel
theorem dX12_does_125 : decode cX12_does 125 = .ok (.iconst (-1), 1) := by decide +kernel
theorem dX12_does_126 : decode cX12_does 126 = .ok (.ixor, 1) := by decide +kernel
theorem dX12_does_127 : decode cX12_does 127 = .ok (.iand, 1) := by decide +kernel
theorem dX12_does_128 : decode cX12_does 128 = .ok (.putfield 286, 3) := by decide +kernel
theorem dX12_does_131 : decode cX12_does 131 = .ok (.iconst 1, 1) := by decide +kernel
theorem dX12_does_132 : decode cX12_does 132 = .ok (.ireturn, 1) := by decide +kernel
theorem dX12_does_133 : decode cX12_does 133 = .ok (.aload_n 0, 1) := by decide +kernel
theorem dX12_does_134 : decode cX12_does 134 = .ok (.getfield 44, 3) := by decide +kernel
theorem dX12_does_137 : decode cX12_does 137 = .ok (.iload_n 2, 1) := by decide +kernel
theorem dX12_does_138 : decode cX12_does 138 = .ok (.iaload, 1) := by decide +kernel
theorem dX12_does_139 : decode cX12_does 139 = .ok (.iconst 1, 1) := by decide +kernel
theorem dX12_does_140 : decode cX12_does 140 = .ok (.if_icmp .eq 18, 3) := by decide +kernel
theorem dX12_does_143 : decode cX12_does 143 = .ok (.aload_n 0, 1) := by decide +kernel
theorem dX12_does_144 : decode cX12_does 144 = .ok (.getfield 47, 3) := by decide +kernel
theorem dX12_does_147 : decode cX12_does 147 = .ok (.iload_n 2, 1) := by decide +kernel
theorem dX12_does_148 : decode cX12_does 148 = .ok (.iaload, 1) := by decide +kernel
theorem dX12_does_149 : decode cX12_does 149 = .ok (.aload_n 0, 1) := by decide +kernel
theorem dX12_does_150 : decode cX12_does 150 = .ok (.getfield 44, 3) := by decide +kernel
theorem dX12_does_153 : decode cX12_does 153 = .ok (.iload_n 2, 1) := by decide +kernel
theorem dX12_does_154 : decode cX12_does 154 = .ok (.iaload, 1) := by decide +kernel
theorem dX12_does_155 : decode cX12_does 155 = .ok (.if_icmp .ne 5, 3) := by decide +kernel
theorem dX12_does_158 : decode cX12_does 158 = .ok (.iconst 0, 1) := by decide +kernel
theorem dX12_does_159 : decode cX12_does 159 = .ok (.ireturn, 1) := by decide +kernel
theorem dX12_does_160 : decode cX12_does 160 = .ok (.aload_n 0, 1) := by decide +kernel
theorem dX12_does_161 : decode cX12_does 161 = .ok (.getfield 44, 3) := by decide +kernel
theorem dX12_does_164 : decode cX12_does 164 = .ok (.iload_n 2, 1) := by decide +kernel
theorem dX12_does_165 : decode cX12_does 165 = .ok (.dup2, 1) := by decide +kernel
theorem dX12_does_166 : decode cX12_does 166 = .ok (.iaload, 1) := by decide +kernel
theorem dX12_does_167 : decode cX12_does 167 = .ok (.iconst 1, 1) := by decide +kernel
theorem dX12_does_168 : decode cX12_does 168 = .ok (.isub, 1) := by decide +kernel
theorem dX12_does_169 : decode cX12_does 169 = .ok (.iastore, 1) := by decide +kernel
theorem dX12_does_170 : decode cX12_does 170 = .ok (.iconst 1, 1) := by decide +kernel
theorem dX12_does_171 : decode cX12_does 171 = .ok (.ireturn, 1) := by decide +kernel
set_option maxRecDepth 20000 in
theorem ggX12_doesDeed_X12_deedOf : GoodIn wsX12_doesDeed wsX12_deedOf := goodIn_r _ [5, 6, 7, 48, 49, 50, 51, 52, 53, 54, 55, 56, 57, 58, 59, 60, 61, 62, 63, 64, 65, 66, 67, 68, 69, 70, 71, 72, 73, 74, 75, 76, 77, 78, 79, 80, 81, 82, 83, 84, 85, 86, 87, 88, 89, 90, 91, 92, 93, 94, 95, 96, 97, 98, 99, 100, 101, 102, 103, 104, 105, 106, 107, 108] (by decide +kernel) (by decide +kernel)
set_option maxRecDepth 20000 in
theorem gX12_doesDeed_X12_deedOf : GoodIn wsX12_doesDeed (wsV RX12 280 RX12 yX12_deedOf wsX12_deedOf) := goodIn_app (goodIn_of _ (by decide +kernel)) ggX12_doesDeed_X12_deedOf
set_option maxRecDepth 20000 in
theorem ggX12_doesDeed_X12_does : GoodIn wsX12_doesDeed wsX12_does := goodIn_r _ [11, 12, 13, 14, 15, 16, 17, 18, 4, 19, 20, 21, 22, 23, 24, 25, 26, 27, 28, 29, 30, 31, 32, 33, 34, 35, 36, 37, 38, 39, 40, 41, 42, 43, 44, 45, 46, 47, 48, 49, 50, 51, 52, 53, 54, 55, 56, 57, 58, 59, 60, 61, 62, 63, 64, 65, 66, 67, 68, 69, 70, 71, 72, 73, 74, 75, 76, 77, 78, 79, 80, 81, 82, 83, 84, 85, 86, 87, 88, 89, 90, 91, 92, 93, 94, 95, 96, 97, 98, 99, 100, 101, 102, 103, 104, 105, 106, 107, 108] (by decide +kernel) (by decide +kernel)
set_option maxRecDepth 20000 in
theorem gX12_doesDeed_X12_does : GoodIn wsX12_doesDeed (wsV RX12 313 RX12 yX12_does wsX12_does) := goodIn_app (goodIn_of _ (by decide +kernel)) ggX12_doesDeed_X12_does
theorem dX12_doesDeed_0 : decode cX12_doesDeed 0 = .ok (.aload_n 0, 1) := by decide +kernel
theorem dX12_doesDeed_1 : decode cX12_doesDeed 1 = .ok (.aload_n 0, 1) := by decide +kernel
theorem dX12_doesDeed_2 : decode cX12_doesDeed 2 = .ok (.iload_n 1, 1) := by decide +kernel
theorem dX12_doesDeed_3 : decode cX12_doesDeed 3 = .ok (.iconst 0, 1) := by decide +kernel
theorem dX12_doesDeed_4 : decode cX12_doesDeed 4 = .ok (.invokevirtual 280, 3) := by decide +kernel
theorem dX12_doesDeed_7 : decode cX12_doesDeed 7 = .ok (.aload_n 0, 1) := by decide +kernel
theorem dX12_doesDeed_8 : decode cX12_doesDeed 8 = .ok (.iload_n 1, 1) := by decide +kernel
theorem dX12_doesDeed_9 : decode cX12_doesDeed 9 = .ok (.iconst 1, 1) := by decide +kernel
theorem dX12_doesDeed_10 : decode cX12_doesDeed 10 = .ok (.invokevirtual 280, 3) := by decide +kernel
theorem dX12_doesDeed_13 : decode cX12_doesDeed 13 = .ok (.invokevirtual 313, 3) := by decide +kernel
theorem dX12_doesDeed_16 : decode cX12_doesDeed 16 = .ok (.ireturn, 1) := by decide +kernel
set_option maxRecDepth 20000 in
theorem ggX12_play_X12_doesDeed : GoodIn wsX12_play wsX12_doesDeed := goodIn_r _ [5, 6, 7, 8, 4, 9, 10, 11, 12, 13, 14, 15, 16, 17, 18, 19, 20, 21, 22, 23, 24, 25, 26, 27, 28, 29, 30, 31, 32, 33, 34, 35, 36, 37, 38, 39, 40, 41, 42, 43, 44, 45, 46, 47, 48, 49, 50, 51, 52, 53, 54, 55, 56, 57, 58, 59, 60, 61, 62, 63, 64, 65, 66, 67, 68, 69, 70, 71, 72, 73, 74, 75, 76, 77, 78, 79, 80, 81, 82, 83, 84, 85, 86, 87, 88, 89, 90, 91, 92, 93, 94, 95, 96, 97, 98, 99, 100, 101, 102, 103, 104, 105, 106, 107, 108, 109, 110, 111, 112] (by decide +kernel) (by decide +kernel)
set_option maxRecDepth 20000 in
theorem gX12_play_X12_doesDeed : GoodIn wsX12_play (wsV RX12 316 RX12 yX12_doesDeed wsX12_doesDeed) := goodIn_app (goodIn_of _ (by decide +kernel)) ggX12_play_X12_doesDeed
theorem dX12_play_0 : decode cX12_play 0 = .ok (.iconst 0, 1) := by decide +kernel
theorem dX12_play_1 : decode cX12_play 1 = .ok (.istore_n 2, 1) := by decide +kernel
theorem dX12_play_2 : decode cX12_play 2 = .ok (.iload_n 2, 1) := by decide +kernel
theorem dX12_play_3 : decode cX12_play 3 = .ok (.iload_n 1, 1) := by decide +kernel
theorem dX12_play_4 : decode cX12_play 4 = .ok (.if_icmp .ge 17, 3) := by decide +kernel
theorem dX12_play_7 : decode cX12_play 7 = .ok (.aload_n 0, 1) := by decide +kernel
theorem dX12_play_8 : decode cX12_play 8 = .ok (.iload_n 2, 1) := by decide +kernel
theorem dX12_play_9 : decode cX12_play 9 = .ok (.invokevirtual 316, 3) := by decide +kernel
theorem dX12_play_12 : decode cX12_play 12 = .ok (.ifCond .eq 9, 3) := by decide +kernel
theorem dX12_play_15 : decode cX12_play 15 = .ok (.iinc 2 1, 3) := by decide +kernel
theorem dX12_play_18 : decode cX12_play 18 = .ok (.goto (-16), 3) := by decide +kernel
theorem dX12_play_21 : decode cX12_play 21 = .ok (.iload_n 2, 1) := by decide +kernel
theorem dX12_play_22 : decode cX12_play 22 = .ok (.ireturn, 1) := by decide +kernel
set_option maxRecDepth 20000 in
theorem ggX12_layAll_X12_hasDay : GoodIn wsX12_layAll wsX12_hasDay := goodIn_r _ [5, 6, 7, 8, 9, 4, 10, 11, 12, 13, 14, 50, 51, 52, 53, 54, 55, 56, 57, 58, 59, 60, 61, 62, 63, 64, 65, 66, 67, 68, 69, 70, 71, 72, 73, 74, 75, 76, 77, 78, 79, 80, 81, 82, 83, 84, 85, 86, 87, 88, 89, 90, 91, 92, 93, 94, 95, 96, 97, 98, 99, 100, 101, 102, 103, 104, 105, 106, 107, 108, 109, 110] (by decide +kernel) (by decide +kernel)
set_option maxRecDepth 20000 in
theorem gX12_layAll_X12_hasDay : GoodIn wsX12_layAll (wsV RX12 274 RX12 yX12_hasDay wsX12_hasDay) := goodIn_app (goodIn_of _ (by decide +kernel)) ggX12_layAll_X12_hasDay
set_option maxRecDepth 20000 in
theorem ggX12_layAll_X12_hand : GoodIn wsX12_layAll wsX12_hand := goodIn_r _ [18, 19, 20, 7, 8, 9, 4, 10, 11, 12, 13, 14, 21, 22, 23, 24, 25, 26, 27, 28, 29, 30, 31, 32, 33, 34, 35, 36, 50, 51, 52, 53, 54, 55, 56, 57, 58, 59, 60, 61, 62, 63, 64, 65, 66, 67, 68, 69, 70, 71, 72, 73, 74, 75, 76, 77, 78, 79, 80, 81, 82, 83, 84, 85, 86, 87, 88, 89, 90, 91, 92, 93, 94, 95, 96, 97, 98, 99, 100, 101, 102, 103, 104, 105, 106, 107, 108, 109, 110] (by decide +kernel) (by decide +kernel)
set_option maxRecDepth 20000 in
theorem gX12_layAll_X12_hand : GoodIn wsX12_layAll (wsV RX12 265 RX12 yX12_hand wsX12_hand) := goodIn_app (goodIn_of _ (by decide +kernel)) ggX12_layAll_X12_hand
set_option maxRecDepth 20000 in
theorem ggX12_layAll_X12_beginDay : GoodIn wsX12_layAll wsX12_beginDay := goodIn_r _ [40, 41, 42, 43, 44, 45, 46, 47, 48, 49, 50, 51, 52, 53, 54, 55, 56, 57, 58, 59, 60, 61, 62, 63, 64, 65, 66, 67, 68, 69, 70, 71, 72, 73, 74, 75, 76, 77, 78, 79, 80, 81, 82, 83, 84, 85, 86, 87, 88, 89, 90, 91, 92, 93, 94, 95, 96, 97, 98, 99, 100, 101, 102, 103, 104, 105, 106, 107, 108, 109, 110] (by decide +kernel) (by decide +kernel)
set_option maxRecDepth 20000 in
theorem gX12_layAll_X12_beginDay : GoodIn wsX12_layAll (wsV RX12 319 RX12 yX12_beginDay wsX12_beginDay) := goodIn_app (goodIn_of _ (by decide +kernel)) ggX12_layAll_X12_beginDay
theorem dX12_layAll_0 : decode cX12_layAll 0 = .ok (.aload_n 0, 1) := by decide +kernel
theorem dX12_layAll_1 : decode cX12_layAll 1 = .ok (.iload_n 2, 1) := by decide +kernel
theorem dX12_layAll_2 : decode cX12_layAll 2 = .ok (.invokevirtual 274, 3) := by decide +kernel
theorem dX12_layAll_5 : decode cX12_layAll 5 = .ok (.ifCond .eq 11, 3) := by decide +kernel
theorem dX12_layAll_8 : decode cX12_layAll 8 = .ok (.aload_n 0, 1) := by decide +kernel
theorem dX12_layAll_9 : decode cX12_layAll 9 = .ok (.iload_n 1, 1) := by decide +kernel
theorem dX12_layAll_10 : decode cX12_layAll 10 = .ok (.invokevirtual 265, 3) := by decide +kernel
theorem dX12_layAll_13 : decode cX12_layAll 13 = .ok (.ifCond .ne 5, 3) := by decide +kernel
theorem dX12_layAll_16 : decode cX12_layAll 16 = .ok (.iconst 0, 1) := by decide +kernel
theorem dX12_layAll_17 : decode cX12_layAll 17 = .ok (.ireturn, 1) := by decide +kernel
theorem dX12_layAll_18 : decode cX12_layAll 18 = .ok (.aload_n 0, 1) := by decide +kernel
theorem dX12_layAll_19 : decode cX12_layAll 19 = .ok (.invokevirtual 319, 3) := by decide +kernel
theorem dX12_layAll_22 : decode cX12_layAll 22 = .ok (.iconst 1, 1) := by decide +kernel
theorem dX12_layAll_23 : decode cX12_layAll 23 = .ok (.ireturn, 1) := by decide +kernel
set_option maxRecDepth 20000 in
theorem ggX12_stop_X12_layAll : GoodIn wsX12_stop wsX12_layAll := goodIn_r _ [6, 7, 8, 9, 5, 10, 11, 12, 13, 14, 15, 16, 17, 18, 19, 20, 21, 22, 23, 24, 25, 26, 27, 28, 29, 30, 31, 32, 33, 34, 35, 36, 37, 38, 39, 40, 41, 42, 43, 44, 45, 46, 47, 48, 49, 50, 51, 52, 53, 54, 94, 95, 96, 97, 98, 99, 100, 101, 102, 103, 104, 105, 106, 107, 108, 109, 110, 111, 112, 113, 114, 115, 116, 117, 118, 119, 120, 121, 122, 123, 124, 125, 126, 127, 128, 129, 130, 131, 132, 133, 134, 135, 136, 137, 138, 139, 140, 141, 142, 143, 144, 145, 146, 147, 148, 149, 150, 151, 152, 153, 154] (by decide +kernel) (by decide +kernel)
set_option maxRecDepth 20000 in
theorem gX12_stop_X12_layAll : GoodIn wsX12_stop (wsV RX12 322 RX12 yX12_layAll wsX12_layAll) := goodIn_app (goodIn_of _ (by decide +kernel)) ggX12_stop_X12_layAll
set_option maxRecDepth 20000 in
theorem ggX12_stop_X12_deeds : GoodIn wsX12_stop wsX12_deeds := goodIn_r _ [58, 59, 11, 94, 95, 96, 97, 98, 99, 100, 101, 102, 103, 104, 105, 106, 107, 108, 109, 110, 111, 112, 113, 114, 115, 116, 117, 118, 119, 120, 121, 122, 123, 124, 125, 126, 127, 128, 129, 130, 131, 132, 133, 134, 135, 136, 137, 138, 139, 140, 141, 142, 143, 144, 145, 146, 147, 148, 149, 150, 151, 152, 153, 154] (by decide +kernel) (by decide +kernel)
set_option maxRecDepth 20000 in
theorem gX12_stop_X12_deeds : GoodIn wsX12_stop (wsV RX12 277 RX12 yX12_deeds wsX12_deeds) := goodIn_app (goodIn_of _ (by decide +kernel)) ggX12_stop_X12_deeds
set_option maxRecDepth 20000 in
theorem ggX12_stop_X12_play : GoodIn wsX12_stop wsX12_play := goodIn_r _ [63, 64, 65, 66, 5, 67, 68, 69, 70, 71, 59, 11, 72, 73, 74, 75, 47, 38, 37, 49, 76, 77, 78, 79, 46, 80, 81, 82, 83, 25, 54, 53, 48, 51, 50, 52, 39, 40, 41, 84, 85, 86, 87, 88, 89, 90, 91, 92, 93, 17, 18, 19, 94, 95, 96, 97, 98, 99, 100, 101, 102, 103, 104, 105, 106, 107, 108, 109, 110, 111, 112, 113, 114, 115, 116, 117, 118, 119, 120, 121, 122, 123, 124, 125, 126, 127, 128, 129, 130, 131, 132, 133, 134, 135, 136, 137, 138, 139, 140, 141, 142, 143, 144, 145, 146, 147, 148, 149, 150, 151, 152, 153, 154] (by decide +kernel) (by decide +kernel)
set_option maxRecDepth 20000 in
theorem gX12_stop_X12_play : GoodIn wsX12_stop (wsV RX12 325 RX12 yX12_play wsX12_play) := goodIn_app (goodIn_of _ (by decide +kernel)) ggX12_stop_X12_play
theorem dX12_stop_0 : decode cX12_stop 0 = .ok (.aload_n 0, 1) := by decide +kernel
theorem dX12_stop_1 : decode cX12_stop 1 = .ok (.iconst 0, 1) := by decide +kernel
theorem dX12_stop_2 : decode cX12_stop 2 = .ok (.putfield 98, 3) := by decide +kernel
theorem dX12_stop_5 : decode cX12_stop 5 = .ok (.aload_n 0, 1) := by decide +kernel
theorem dX12_stop_6 : decode cX12_stop 6 = .ok (.iload_n 1, 1) := by decide +kernel
theorem dX12_stop_7 : decode cX12_stop 7 = .ok (.iload_n 2, 1) := by decide +kernel
theorem dX12_stop_8 : decode cX12_stop 8 = .ok (.invokevirtual 322, 3) := by decide +kernel
theorem dX12_stop_11 : decode cX12_stop 11 = .ok (.ifCond .eq 14, 3) := by decide +kernel
theorem dX12_stop_14 : decode cX12_stop 14 = .ok (.aload_n 0, 1) := by decide +kernel
theorem dX12_stop_15 : decode cX12_stop 15 = .ok (.aload_n 0, 1) := by decide +kernel
theorem dX12_stop_16 : decode cX12_stop 16 = .ok (.invokevirtual 277, 3) := by decide +kernel
theorem dX12_stop_19 : decode cX12_stop 19 = .ok (.invokevirtual 325, 3) := by decide +kernel
theorem dX12_stop_22 : decode cX12_stop 22 = .ok (.goto 4, 3) := by decide +kernel
theorem dX12_stop_25 : decode cX12_stop 25 = .ok (.iconst (-1), 1) := by decide +kernel
theorem dX12_stop_26 : decode cX12_stop 26 = .ok (.ireturn, 1) := by decide +kernel
set_option maxRecDepth 20000 in
theorem ggX12_ofState_X12_isGlass : GoodIn wsX12_ofState wsX12_isGlass := goodIn_r _ [12, 13, 14, 15, 11, 16, 17, 18, 19, 20, 21, 22, 23, 24, 25, 26, 27, 28, 29, 30, 31, 32, 33, 34, 35, 36, 37, 38, 39, 40, 41, 42, 43, 44, 45, 46, 47, 48, 49, 50, 51, 52, 53, 54, 55, 56, 57, 58, 59, 60, 61, 62, 63, 64, 65, 66, 67, 68, 69, 70, 71, 72, 73, 74, 75, 76, 77] (by decide +kernel) (by decide +kernel)
set_option maxRecDepth 20000 in
theorem gX12_ofState_X12_isGlass : GoodIn wsX12_ofState (wsV RX12 268 RX12 yX12_isGlass wsX12_isGlass) := goodIn_app (goodIn_of _ (by decide +kernel)) ggX12_ofState_X12_isGlass
theorem dX12_ofState_0 : decode cX12_ofState 0 = .ok (.iload_n 1, 1) := by decide +kernel
theorem dX12_ofState_1 : decode cX12_ofState 1 = .ok (.bipush 10, 2) := by decide +kernel
theorem dX12_ofState_3 : decode cX12_ofState 3 = .ok (.irem, 1) := by decide +kernel
theorem dX12_ofState_4 : decode cX12_ofState 4 = .ok (.istore_n 2, 1) := by decide +kernel
theorem dX12_ofState_5 : decode cX12_ofState 5 = .ok (.iload_n 1, 1) := by decide +kernel
theorem dX12_ofState_6 : decode cX12_ofState 6 = .ok (.bipush 10, 2) := by decide +kernel
theorem dX12_ofState_8 : decode cX12_ofState 8 = .ok (.if_icmp .lt 63, 3) := by decide +kernel
theorem dX12_ofState_11 : decode cX12_ofState 11 = .ok (.aload_n 0, 1) := by decide +kernel
theorem dX12_ofState_12 : decode cX12_ofState 12 = .ok (.iload_n 2, 1) := by decide +kernel
theorem dX12_ofState_13 : decode cX12_ofState 13 = .ok (.invokevirtual 268, 3) := by decide +kernel
theorem dX12_ofState_16 : decode cX12_ofState 16 = .ok (.ifCond .eq 9, 3) := by decide +kernel
theorem dX12_ofState_19 : decode cX12_ofState 19 = .ok (.iload_n 1, 1) := by decide +kernel
theorem dX12_ofState_20 : decode cX12_ofState 20 = .ok (.bipush 40, 2) := by decide +kernel
theorem dX12_ofState_22 : decode cX12_ofState 22 = .ok (.if_icmp .lt 5, 3) := by decide +kernel
theorem dX12_ofState_25 : decode cX12_ofState 25 = .ok (.iconst (-1), 1) := by decide +kernel
theorem dX12_ofState_26 : decode cX12_ofState 26 = .ok (.ireturn, 1) := by decide +kernel
theorem dX12_ofState_27 : decode cX12_ofState 27 = .ok (.iload_n 1, 1) := by decide +kernel
theorem dX12_ofState_28 : decode cX12_ofState 28 = .ok (.bipush 20, 2) := by decide +kernel
theorem dX12_ofState_30 : decode cX12_ofState 30 = .ok (.if_icmp .ge 12, 3) := by decide +kernel
theorem dX12_ofState_33 : decode cX12_ofState 33 = .ok (.aload_n 0, 1) := by decide +kernel
theorem dX12_ofState_34 : decode cX12_ofState 34 = .ok (.getfield 47, 3) := by decide +kernel
theorem dX12_ofState_37 : decode cX12_ofState 37 = .ok (.iload_n 2, 1) := by decide +kernel
theorem dX12_ofState_38 : decode cX12_ofState 38 = .ok (.iaload, 1) := by decide +kernel
theorem dX12_ofState_39 : decode cX12_ofState 39 = .ok (.goto 31, 3) := by decide +kernel
theorem dX12_ofState_42 : decode cX12_ofState 42 = .ok (.iload_n 1, 1) := by decide +kernel
theorem dX12_ofState_43 : decode cX12_ofState 43 = .ok (.bipush 30, 2) := by decide +kernel
theorem dX12_ofState_45 : decode cX12_ofState 45 = .ok (.if_icmp .ge 19, 3) := by decide +kernel
theorem dX12_ofState_48 : decode cX12_ofState 48 = .ok (.aload_n 0, 1) := by decide +kernel
theorem dX12_ofState_49 : decode cX12_ofState 49 = .ok (.getfield 44, 3) := by decide +kernel
theorem dX12_ofState_52 : decode cX12_ofState 52 = .ok (.iload_n 2, 1) := by decide +kernel
theorem dX12_ofState_53 : decode cX12_ofState 53 = .ok (.iaload, 1) := by decide +kernel
theorem dX12_ofState_54 : decode cX12_ofState 54 = .ok (.aload_n 0, 1) := by decide +kernel
theorem dX12_ofState_55 : decode cX12_ofState 55 = .ok (.getfield 47, 3) := by decide +kernel
theorem dX12_ofState_58 : decode cX12_ofState 58 = .ok (.iload_n 2, 1) := by decide +kernel
theorem dX12_ofState_59 : decode cX12_ofState 59 = .ok (.iaload, 1) := by decide +kernel
theorem dX12_ofState_60 : decode cX12_ofState 60 = .ok (.isub, 1) := by decide +kernel
theorem dX12_ofState_61 : decode cX12_ofState 61 = .ok (.goto 9, 3) := by decide +kernel
theorem dX12_ofState_64 : decode cX12_ofState 64 = .ok (.aload_n 0, 1) := by decide +kernel
theorem dX12_ofState_65 : decode cX12_ofState 65 = .ok (.getfield 50, 3) := by decide +kernel
theorem dX12_ofState_68 : decode cX12_ofState 68 = .ok (.iload_n 2, 1) := by decide +kernel
theorem dX12_ofState_69 : decode cX12_ofState 69 = .ok (.iaload, 1) := by decide +kernel
theorem dX12_ofState_70 : decode cX12_ofState 70 = .ok (.ireturn, 1) := by decide +kernel
theorem dX12_ofState_71 : decode cX12_ofState 71 = .ok (.iload_n 1, 1) := by decide +kernel
theorem dX12_ofState_72 : decode cX12_ofState 72 = .ok (.ifCond .ne 10, 3) := by decide +kernel
theorem dX12_ofState_75 : decode cX12_ofState 75 = .ok (.aload_n 0, 1) := by decide +kernel
theorem dX12_ofState_76 : decode cX12_ofState 76 = .ok (.getfield 283, 3) := by decide +kernel
theorem dX12_ofState_79 : decode cX12_ofState 79 = .ok (.goto 40, 3) := by decide +kernel
theorem dX12_ofState_82 : decode cX12_ofState 82 = .ok (.iload_n 1, 1) := by decide +kernel
theorem dX12_ofState_83 : decode cX12_ofState 83 = .ok (.iconst 1, 1) := by decide +kernel
theorem dX12_ofState_84 : decode cX12_ofState 84 = .ok (.if_icmp .ne 10, 3) := by decide +kernel
theorem dX12_ofState_87 : decode cX12_ofState 87 = .ok (.aload_n 0, 1) := by decide +kernel
theorem dX12_ofState_88 : decode cX12_ofState 88 = .ok (.getfield 286, 3) := by decide +kernel
theorem dX12_ofState_91 : decode cX12_ofState 91 = .ok (.goto 28, 3) := by decide +kernel
theorem dX12_ofState_94 : decode cX12_ofState 94 = .ok (.iload_n 1, 1) := by decide +kernel
theorem dX12_ofState_95 : decode cX12_ofState 95 = .ok (.iconst 2, 1) := by decide +kernel
theorem dX12_ofState_96 : decode cX12_ofState 96 = .ok (.if_icmp .ne 10, 3) := by decide +kernel
theorem dX12_ofState_99 : decode cX12_ofState 99 = .ok (.aload_n 0, 1) := by decide +kernel
theorem dX12_ofState_100 : decode cX12_ofState 100 = .ok (.getfield 289, 3) := by decide +kernel
theorem dX12_ofState_103 : decode cX12_ofState 103 = .ok (.goto 16, 3) := by decide +kernel
theorem dX12_ofState_106 : decode cX12_ofState 106 = .ok (.iload_n 1, 1) := by decide +kernel
theorem dX12_ofState_107 : decode cX12_ofState 107 = .ok (.iconst 3, 1) := by decide +kernel
theorem dX12_ofState_108 : decode cX12_ofState 108 = .ok (.if_icmp .ne 10, 3) := by decide +kernel
theorem dX12_ofState_111 : decode cX12_ofState 111 = .ok (.aload_n 0, 1) := by decide +kernel
theorem dX12_ofState_112 : decode cX12_ofState 112 = .ok (.getfield 292, 3) := by decide +kernel
theorem dX12_ofState_115 : decode cX12_ofState 115 = .ok (.goto 4, 3) := by decide +kernel
theorem dX12_ofState_118 : decode cX12_ofState 118 = .ok (.iconst (-1), 1) := by decide +kernel
theorem dX12_ofState_119 : decode cX12_ofState 119 = .ok (.ireturn, 1) := by decide +kernel
set_option maxRecDepth 20000 in
theorem ggX12_state_X12_layAll : GoodIn wsX12_state wsX12_layAll := goodIn_r _ [6, 7, 8, 9, 5, 10, 11, 12, 13, 14, 15, 16, 17, 18, 19, 20, 21, 22, 23, 24, 25, 26, 27, 28, 29, 30, 31, 32, 33, 34, 35, 36, 37, 38, 39, 40, 41, 42, 43, 44, 45, 46, 47, 48, 49, 50, 51, 52, 53, 54, 98, 99, 100, 101, 102, 103, 104, 105, 106, 107, 108, 109, 110, 111, 112, 113, 114, 115, 116, 117, 118, 119, 120, 121, 122, 123, 124, 125, 126, 127, 128, 129, 130, 131, 132, 133, 134, 135, 136, 137, 138, 139, 140, 141, 142, 143, 144, 145, 146, 147, 148, 149, 150, 151, 152, 153, 154, 155, 156, 157, 158] (by decide +kernel) (by decide +kernel)
set_option maxRecDepth 20000 in
theorem gX12_state_X12_layAll : GoodIn wsX12_state (wsV RX12 322 RX12 yX12_layAll wsX12_layAll) := goodIn_app (goodIn_of _ (by decide +kernel)) ggX12_state_X12_layAll
set_option maxRecDepth 20000 in
theorem ggX12_state_X12_deeds : GoodIn wsX12_state wsX12_deeds := goodIn_r _ [58, 59, 11, 98, 99, 100, 101, 102, 103, 104, 105, 106, 107, 108, 109, 110, 111, 112, 113, 114, 115, 116, 117, 118, 119, 120, 121, 122, 123, 124, 125, 126, 127, 128, 129, 130, 131, 132, 133, 134, 135, 136, 137, 138, 139, 140, 141, 142, 143, 144, 145, 146, 147, 148, 149, 150, 151, 152, 153, 154, 155, 156, 157, 158] (by decide +kernel) (by decide +kernel)
set_option maxRecDepth 20000 in
theorem gX12_state_X12_deeds : GoodIn wsX12_state (wsV RX12 277 RX12 yX12_deeds wsX12_deeds) := goodIn_app (goodIn_of _ (by decide +kernel)) ggX12_state_X12_deeds
set_option maxRecDepth 20000 in
theorem ggX12_state_X12_in : GoodIn wsX12_state wsX12_in := goodIn_r _ [19] (by decide +kernel) (by decide +kernel)
set_option maxRecDepth 20000 in
theorem gX12_state_X12_in : GoodIn wsX12_state (va_wsS RX12 110 yX12_in wsX12_in) := goodIn_app (goodIn_of _ (by decide +kernel)) ggX12_state_X12_in
set_option maxRecDepth 20000 in
theorem ggX12_state_X12_play : GoodIn wsX12_state wsX12_play := goodIn_r _ [63, 64, 65, 66, 5, 67, 68, 69, 70, 71, 59, 11, 72, 73, 74, 75, 47, 38, 37, 49, 76, 77, 78, 79, 46, 80, 81, 82, 83, 25, 54, 53, 48, 51, 50, 52, 39, 40, 41, 84, 85, 86, 87, 88, 89, 90, 91, 92, 93, 17, 18, 19, 98, 99, 100, 101, 102, 103, 104, 105, 106, 107, 108, 109, 110, 111, 112, 113, 114, 115, 116, 117, 118, 119, 120, 121, 122, 123, 124, 125, 126, 127, 128, 129, 130, 131, 132, 133, 134, 135, 136, 137, 138, 139, 140, 141, 142, 143, 144, 145, 146, 147, 148, 149, 150, 151, 152, 153, 154, 155, 156, 157, 158] (by decide +kernel) (by decide +kernel)
set_option maxRecDepth 20000 in
theorem gX12_state_X12_play : GoodIn wsX12_state (wsV RX12 325 RX12 yX12_play wsX12_play) := goodIn_app (goodIn_of _ (by decide +kernel)) ggX12_state_X12_play
set_option maxRecDepth 20000 in
theorem ggX12_state_X12_ofState : GoodIn wsX12_state wsX12_ofState := goodIn_r _ [97, 38, 37, 53, 46, 47, 48, 49, 90, 91, 92, 5, 93, 25, 17, 18, 19, 98, 99, 100, 101, 102, 103, 104, 105, 106, 107, 108, 109, 110, 111, 112, 113, 114, 115, 116, 117, 118, 119, 120, 121, 122, 123, 124, 125, 126, 127, 128, 129, 130, 131, 132, 133, 134, 135, 136, 137, 138, 139, 140, 141, 142, 143, 144, 145, 146, 147, 148, 149, 150, 151, 152, 153, 154, 155, 156, 157, 158] (by decide +kernel) (by decide +kernel)
set_option maxRecDepth 20000 in
theorem gX12_state_X12_ofState : GoodIn wsX12_state (wsV RX12 328 RX12 yX12_ofState wsX12_ofState) := goodIn_app (goodIn_of _ (by decide +kernel)) ggX12_state_X12_ofState
theorem dX12_state_0 : decode cX12_state 0 = .ok (.aload_n 0, 1) := by decide +kernel
theorem dX12_state_1 : decode cX12_state 1 = .ok (.iconst 0, 1) := by decide +kernel
theorem dX12_state_2 : decode cX12_state 2 = .ok (.putfield 98, 3) := by decide +kernel
theorem dX12_state_5 : decode cX12_state 5 = .ok (.aload_n 0, 1) := by decide +kernel
theorem dX12_state_6 : decode cX12_state 6 = .ok (.iload_n 1, 1) := by decide +kernel
theorem dX12_state_7 : decode cX12_state 7 = .ok (.iload_n 2, 1) := by decide +kernel
theorem dX12_state_8 : decode cX12_state 8 = .ok (.invokevirtual 322, 3) := by decide +kernel
theorem dX12_state_11 : decode cX12_state 11 = .ok (.ifCond .eq 33, 3) := by decide +kernel
theorem dX12_state_14 : decode cX12_state 14 = .ok (.iload_n 3, 1) := by decide +kernel
theorem dX12_state_15 : decode cX12_state 15 = .ok (.iconst 0, 1) := by decide +kernel
theorem dX12_state_16 : decode cX12_state 16 = .ok (.aload_n 0, 1) := by decide +kernel
theorem dX12_state_17 : decode cX12_state 17 = .ok (.invokevirtual 277, 3) := by decide +kernel
theorem dX12_state_20 : decode cX12_state 20 = .ok (.invokestatic 110, 3) := by decide +kernel
theorem dX12_state_23 : decode cX12_state 23 = .ok (.ifCond .eq 21, 3) := by decide +kernel
theorem dX12_state_26 : decode cX12_state 26 = .ok (.aload_n 0, 1) := by decide +kernel
theorem dX12_state_27 : decode cX12_state 27 = .ok (.iload_n 3, 1) := by decide +kernel
theorem dX12_state_28 : decode cX12_state 28 = .ok (.invokevirtual 325, 3) := by decide +kernel
theorem dX12_state_31 : decode cX12_state 31 = .ok (.iload_n 3, 1) := by decide +kernel
theorem dX12_state_32 : decode cX12_state 32 = .ok (.if_icmp .ne 12, 3) := by decide +kernel
theorem dX12_state_35 : decode cX12_state 35 = .ok (.aload_n 0, 1) := by decide +kernel
theorem dX12_state_36 : decode cX12_state 36 = .ok (.iload 4, 2) := by decide +kernel
theorem dX12_state_38 : decode cX12_state 38 = .ok (.invokevirtual 328, 3) := by decide +kernel
theorem dX12_state_41 : decode cX12_state 41 = .ok (.goto 4, 3) := by decide +kernel
theorem dX12_state_44 : decode cX12_state 44 = .ok (.iconst (-1), 1) := by decide +kernel
theorem dX12_state_45 : decode cX12_state 45 = .ok (.ireturn, 1) := by decide +kernel
set_option maxRecDepth 20000 in
theorem ggX12_next_X12_has : GoodIn wsX12_next wsX12_has := goodIn_r _ [7] (by decide +kernel) (by decide +kernel)
set_option maxRecDepth 20000 in
theorem gX12_next_X12_has : GoodIn wsX12_next (va_wsS RX12 102 yX12_has wsX12_has) := goodIn_app (goodIn_of _ (by decide +kernel)) ggX12_next_X12_has
set_option maxRecDepth 20000 in
theorem ggX12_next_X12_greater : GoodIn wsX12_next wsX12_greater := goodIn_r _ [10] (by decide +kernel) (by decide +kernel)
set_option maxRecDepth 20000 in
theorem gX12_next_X12_greater : GoodIn wsX12_next (va_wsS RX12 186 yX12_greater wsX12_greater) := goodIn_app (goodIn_of _ (by decide +kernel)) ggX12_next_X12_greater
theorem dX12_next_0 : decode cX12_next 0 = .ok (.ldc_w 331, 3) := by decide +kernel
theorem dX12_next_3 : decode cX12_next 3 = .ok (.istore_n 3, 1) := by decide +kernel
theorem dX12_next_4 : decode cX12_next 4 = .ok (.iconst 0, 1) := by decide +kernel
theorem dX12_next_5 : decode cX12_next 5 = .ok (.istore 4, 2) := by decide +kernel
theorem dX12_next_7 : decode cX12_next 7 = .ok (.iconst 0, 1) := by decide +kernel
theorem dX12_next_8 : decode cX12_next 8 = .ok (.istore 5, 2) := by decide +kernel
theorem dX12_next_10 : decode cX12_next 10 = .ok (.iload 5, 2) := by decide +kernel
theorem dX12_next_12 : decode cX12_next 12 = .ok (.iconst 4, 1) := by decide +kernel
theorem dX12_next_13 : decode cX12_next 13 = .ok (.if_icmp .ge 76, 3) := by decide +kernel
theorem dX12_next_16 : decode cX12_next 16 = .ok (.iload_n 1, 1) := by decide +kernel
theorem dX12_next_17 : decode cX12_next 17 = .ok (.iconst 3, 1) := by decide +kernel
theorem dX12_next_18 : decode cX12_next 18 = .ok (.iload 5, 2) := by decide +kernel
theorem dX12_next_20 : decode cX12_next 20 = .ok (.imul, 1) := by decide +kernel
theorem dX12_next_21 : decode cX12_next 21 = .ok (.ishr, 1) := by decide +kernel
theorem dX12_next_22 : decode cX12_next 22 = .ok (.bipush 7, 2) := by decide +kernel
theorem dX12_next_24 : decode cX12_next 24 = .ok (.iand, 1) := by decide +kernel
theorem dX12_next_25 : decode cX12_next 25 = .ok (.istore 6, 2) := by decide +kernel
theorem dX12_next_27 : decode cX12_next 27 = .ok (.iload_n 2, 1) := by decide +kernel
theorem dX12_next_28 : decode cX12_next 28 = .ok (.iload 5, 2) := by decide +kernel
theorem dX12_next_30 : decode cX12_next 30 = .ok (.invokestatic 102, 3) := by decide +kernel
theorem dX12_next_33 : decode cX12_next 33 = .ok (.ifCond .eq 16, 3) := by decide +kernel
theorem dX12_next_36 : decode cX12_next 36 = .ok (.aload_n 0, 1) := by decide +kernel
theorem dX12_next_37 : decode cX12_next 37 = .ok (.getfield 44, 3) := by decide +kernel
theorem dX12_next_40 : decode cX12_next 40 = .ok (.iload 5, 2) := by decide +kernel
theorem dX12_next_42 : decode cX12_next 42 = .ok (.iaload, 1) := by decide +kernel
theorem dX12_next_43 : decode cX12_next 43 = .ok (.iload 6, 2) := by decide +kernel
theorem dX12_next_45 : decode cX12_next 45 = .ok (.isub, 1) := by decide +kernel
theorem dX12_next_46 : decode cX12_next 46 = .ok (.goto 5, 3) := by decide +kernel
theorem dX12_next_49 : decode cX12_next 49 = .ok (.iload 6, 2) := by decide +kernel
theorem dX12_next_51 : decode cX12_next 51 = .ok (.istore 6, 2) := by decide +kernel
theorem dX12_next_53 : decode cX12_next 53 = .ok (.iload 6, 2) := by decide +kernel
theorem dX12_next_55 : decode cX12_next 55 = .ok (.ifCond .le 14, 3) := by decide +kernel
theorem dX12_next_58 : decode cX12_next 58 = .ok (.iload 6, 2) := by decide +kernel
theorem dX12_next_60 : decode cX12_next 60 = .ok (.iload_n 3, 1) := by decide +kernel
theorem dX12_next_61 : decode cX12_next 61 = .ok (.if_icmp .ge 8, 3) := by decide +kernel
theorem dX12_next_64 : decode cX12_next 64 = .ok (.iload 6, 2) := by decide +kernel
theorem dX12_next_66 : decode cX12_next 66 = .ok (.goto 4, 3) := by decide +kernel
theorem dX12_next_69 : decode cX12_next 69 = .ok (.iload_n 3, 1) := by decide +kernel
theorem dX12_next_70 : decode cX12_next 70 = .ok (.istore_n 3, 1) := by decide +kernel
theorem dX12_next_71 : decode cX12_next 71 = .ok (.iload 4, 2) := by decide +kernel
theorem dX12_next_73 : decode cX12_next 73 = .ok (.iload 6, 2) := by decide +kernel
theorem dX12_next_75 : decode cX12_next 75 = .ok (.iconst 3, 1) := by decide +kernel
theorem dX12_next_76 : decode cX12_next 76 = .ok (.iload 5, 2) := by decide +kernel
theorem dX12_next_78 : decode cX12_next 78 = .ok (.imul, 1) := by decide +kernel
theorem dX12_next_79 : decode cX12_next 79 = .ok (.ishl, 1) := by decide +kernel
theorem dX12_next_80 : decode cX12_next 80 = .ok (.ior, 1) := by decide +kernel
theorem dX12_next_81 : decode cX12_next 81 = .ok (.istore 4, 2) := by decide +kernel
theorem dX12_next_83 : decode cX12_next 83 = .ok (.iinc 5 1, 3) := by decide +kernel
theorem dX12_next_86 : decode cX12_next 86 = .ok (.goto (-76), 3) := by decide +kernel
theorem dX12_next_89 : decode cX12_next 89 = .ok (.iload_n 3, 1) := by decide +kernel
theorem dX12_next_90 : decode cX12_next 90 = .ok (.ldc_w 331, 3) := by decide +kernel
theorem dX12_next_93 : decode cX12_next 93 = .ok (.if_icmp .ne 5, 3) := by decide +kernel
theorem dX12_next_96 : decode cX12_next 96 = .ok (.iconst 0, 1) := by decide +kernel
theorem dX12_next_97 : decode cX12_next 97 = .ok (.ireturn, 1) := by decide +kernel
theorem dX12_next_98 : decode cX12_next 98 = .ok (.aload_n 0, 1) := by decide +kernel
theorem dX12_next_99 : decode cX12_next 99 = .ok (.iconst 0, 1) := by decide +kernel
theorem dX12_next_100 : decode cX12_next 100 = .ok (.putfield 332, 3) := by decide +kernel
theorem dX12_next_103 : decode cX12_next 103 = .ok (.iconst 0, 1) := by decide +kernel
theorem dX12_next_104 : decode cX12_next 104 = .ok (.istore 5, 2) := by decide +kernel
theorem dX12_next_106 : decode cX12_next 106 = .ok (.iload 5, 2) := by decide +kernel
theorem dX12_next_108 : decode cX12_next 108 = .ok (.iconst 4, 1) := by decide +kernel
theorem dX12_next_109 : decode cX12_next 109 = .ok (.if_icmp .ge 43, 3) := by decide +kernel
theorem dX12_next_112 : decode cX12_next 112 = .ok (.iload 4, 2) := by decide +kernel
theorem dX12_next_114 : decode cX12_next 114 = .ok (.iconst 3, 1) := by decide +kernel
theorem dX12_next_115 : decode cX12_next 115 = .ok (.iload 5, 2) := by decide +kernel
theorem dX12_next_117 : decode cX12_next 117 = .ok (.imul, 1) := by decide +kernel
theorem dX12_next_118 : decode cX12_next 118 = .ok (.ishr, 1) := by decide +kernel
theorem dX12_next_119 : decode cX12_next 119 = .ok (.bipush 7, 2) := by decide +kernel
theorem dX12_next_121 : decode cX12_next 121 = .ok (.iand, 1) := by decide +kernel
theorem dX12_next_122 : decode cX12_next 122 = .ok (.istore 6, 2) := by decide +kernel
theorem dX12_next_124 : decode cX12_next 124 = .ok (.aload_n 0, 1) := by decide +kernel
theorem dX12_next_125 : decode cX12_next 125 = .ok (.dup, 1) := by decide +kernel
theorem dX12_next_126 : decode cX12_next 126 = .ok (.getfield 332, 3) := by decide +kernel
theorem dX12_next_129 : decode cX12_next 129 = .ok (.iconst 0, 1) := by decide +kernel
theorem dX12_next_130 : decode cX12_next 130 = .ok (.iload 6, 2) := by decide +kernel
theorem dX12_next_132 : decode cX12_next 132 = .ok (.iload_n 3, 1) := by decide +kernel
theorem dX12_next_133 : decode cX12_next 133 = .ok (.isub, 1) := by decide +kernel
theorem dX12_next_134 : decode cX12_next 134 = .ok (.invokestatic 186, 3) := by decide +kernel
theorem dX12_next_137 : decode cX12_next 137 = .ok (.iconst 3, 1) := by decide +kernel
theorem dX12_next_138 : decode cX12_next 138 = .ok (.iload 5, 2) := by decide +kernel
theorem dX12_next_140 : decode cX12_next 140 = .ok (.imul, 1) := by decide +kernel
theorem dX12_next_141 : decode cX12_next 141 = .ok (.ishl, 1) := by decide +kernel
theorem dX12_next_142 : decode cX12_next 142 = .ok (.ior, 1) := by decide +kernel
theorem dX12_next_143 : decode cX12_next 143 = .ok (.putfield 332, 3) := by decide +kernel
theorem dX12_next_146 : decode cX12_next 146 = .ok (.iinc 5 1, 3) := by decide +kernel
theorem dX12_next_149 : decode cX12_next 149 = .ok (.goto (-43), 3) := by decide +kernel
theorem dX12_next_152 : decode cX12_next 152 = .ok (.iload_n 3, 1) := by decide +kernel
theorem dX12_next_153 : decode cX12_next 153 = .ok (.ireturn, 1) := by decide +kernel
set_option maxRecDepth 20000 in
theorem ggX12_costOf_X12_has : GoodIn wsX12_costOf wsX12_has := goodIn_r _ [4] (by decide +kernel) (by decide +kernel)
set_option maxRecDepth 20000 in
theorem gX12_costOf_X12_has : GoodIn wsX12_costOf (va_wsS RX12 102 yX12_has wsX12_has) := goodIn_app (goodIn_of _ (by decide +kernel)) ggX12_costOf_X12_has
set_option maxRecDepth 20000 in
theorem ggX12_costOf_X12_of : GoodIn wsX12_costOf wsX12_of := goodIn_r _ [8, 9, 10, 11, 12, 13, 14, 15, 16, 17, 18, 19, 20, 21, 22, 23, 24, 25, 26, 27, 28, 29, 30, 31, 32, 33, 34, 35, 36, 37, 38, 39, 40, 41, 42, 43, 44, 45, 46, 47, 48, 49, 50, 51, 52, 53, 54, 55, 56, 57, 58, 59, 60, 61, 62, 63, 64, 65, 66, 67, 68, 69, 70, 71] (by decide +kernel) (by decide +kernel)
set_option maxRecDepth 20000 in
theorem gX12_costOf_X12_of : GoodIn wsX12_costOf (wsV RX12 255 RX12 yX12_of wsX12_of) := goodIn_app (goodIn_of _ (by decide +kernel)) ggX12_costOf_X12_of
theorem dX12_costOf_0 : decode cX12_costOf 0 = .ok (.iload_n 2, 1) := by decide +kernel
theorem dX12_costOf_1 : decode cX12_costOf 1 = .ok (.iconst 1, 1) := by decide +kernel
theorem dX12_costOf_2 : decode cX12_costOf 2 = .ok (.if_icmp .ne 5, 3) := by decide +kernel
theorem dX12_costOf_5 : decode cX12_costOf 5 = .ok (.iconst 1, 1) := by decide +kernel
theorem dX12_costOf_6 : decode cX12_costOf 6 = .ok (.ireturn, 1) := by decide +kernel
theorem dX12_costOf_7 : decode cX12_costOf 7 = .ok (.iconst 0, 1) := by decide +kernel
theorem dX12_costOf_8 : decode cX12_costOf 8 = .ok (.istore_n 3, 1) := by decide +kernel
theorem dX12_costOf_9 : decode cX12_costOf 9 = .ok (.iconst 0, 1) := by decide +kernel
theorem dX12_costOf_10 : decode cX12_costOf 10 = .ok (.istore 4, 2) := by decide +kernel
theorem dX12_costOf_12 : decode cX12_costOf 12 = .ok (.iload 4, 2) := by decide +kernel
theorem dX12_costOf_14 : decode cX12_costOf 14 = .ok (.iconst 4, 1) := by decide +kernel
theorem dX12_costOf_15 : decode cX12_costOf 15 = .ok (.if_icmp .ge 42, 3) := by decide +kernel
theorem dX12_costOf_18 : decode cX12_costOf 18 = .ok (.iload_n 3, 1) := by decide +kernel
theorem dX12_costOf_19 : decode cX12_costOf 19 = .ok (.iload_n 1, 1) := by decide +kernel
theorem dX12_costOf_20 : decode cX12_costOf 20 = .ok (.iload 4, 2) := by decide +kernel
theorem dX12_costOf_22 : decode cX12_costOf 22 = .ok (.invokestatic 102, 3) := by decide +kernel
theorem dX12_costOf_25 : decode cX12_costOf 25 = .ok (.ifCond .eq 23, 3) := by decide +kernel
theorem dX12_costOf_28 : decode cX12_costOf 28 = .ok (.iload_n 2, 1) := by decide +kernel
theorem dX12_costOf_29 : decode cX12_costOf 29 = .ok (.ifCond .ne 7, 3) := by decide +kernel
theorem dX12_costOf_32 : decode cX12_costOf 32 = .ok (.iconst 1, 1) := by decide +kernel
theorem dX12_costOf_33 : decode cX12_costOf 33 = .ok (.goto 16, 3) := by decide +kernel
theorem dX12_costOf_36 : decode cX12_costOf 36 = .ok (.aload_n 0, 1) := by decide +kernel
theorem dX12_costOf_37 : decode cX12_costOf 37 = .ok (.bipush 9, 2) := by decide +kernel
theorem dX12_costOf_39 : decode cX12_costOf 39 = .ok (.iload 4, 2) := by decide +kernel
theorem dX12_costOf_41 : decode cX12_costOf 41 = .ok (.iadd, 1) := by decide +kernel
theorem dX12_costOf_42 : decode cX12_costOf 42 = .ok (.invokevirtual 255, 3) := by decide +kernel
theorem dX12_costOf_45 : decode cX12_costOf 45 = .ok (.goto 4, 3) := by decide +kernel
theorem dX12_costOf_48 : decode cX12_costOf 48 = .ok (.iconst 0, 1) := by decide +kernel
theorem dX12_costOf_49 : decode cX12_costOf 49 = .ok (.iadd, 1) := by decide +kernel
theorem dX12_costOf_50 : decode cX12_costOf 50 = .ok (.istore_n 3, 1) := by decide +kernel
theorem dX12_costOf_51 : decode cX12_costOf 51 = .ok (.iinc 4 1, 3) := by decide +kernel
theorem dX12_costOf_54 : decode cX12_costOf 54 = .ok (.goto (-42), 3) := by decide +kernel
theorem dX12_costOf_57 : decode cX12_costOf 57 = .ok (.iload_n 3, 1) := by decide +kernel
theorem dX12_costOf_58 : decode cX12_costOf 58 = .ok (.ireturn, 1) := by decide +kernel
theorem dX12_clear_0 : decode cX12_clear 0 = .ok (.sipush 4096, 3) := by decide +kernel
theorem dX12_clear_3 : decode cX12_clear 3 = .ok (.iload_n 1, 1) := by decide +kernel
theorem dX12_clear_4 : decode cX12_clear 4 = .ok (.imul, 1) := by decide +kernel
theorem dX12_clear_5 : decode cX12_clear 5 = .ok (.istore_n 3, 1) := by decide +kernel
theorem dX12_clear_6 : decode cX12_clear 6 = .ok (.iload_n 3, 1) := by decide +kernel
theorem dX12_clear_7 : decode cX12_clear 7 = .ok (.sipush 4096, 3) := by decide +kernel
theorem dX12_clear_10 : decode cX12_clear 10 = .ok (.iload_n 2, 1) := by decide +kernel
theorem dX12_clear_11 : decode cX12_clear 11 = .ok (.iconst 1, 1) := by decide +kernel
theorem dX12_clear_12 : decode cX12_clear 12 = .ok (.iadd, 1) := by decide +kernel
theorem dX12_clear_13 : decode cX12_clear 13 = .ok (.imul, 1) := by decide +kernel
theorem dX12_clear_14 : decode cX12_clear 14 = .ok (.if_icmp .ge 16, 3) := by decide +kernel
theorem dX12_clear_17 : decode cX12_clear 17 = .ok (.aload_n 0, 1) := by decide +kernel
theorem dX12_clear_18 : decode cX12_clear 18 = .ok (.getfield 57, 3) := by decide +kernel
theorem dX12_clear_21 : decode cX12_clear 21 = .ok (.iload_n 3, 1) := by decide +kernel
theorem dX12_clear_22 : decode cX12_clear 22 = .ok (.iconst (-1), 1) := by decide +kernel
theorem dX12_clear_23 : decode cX12_clear 23 = .ok (.iastore, 1) := by decide +kernel
theorem dX12_clear_24 : decode cX12_clear 24 = .ok (.iinc 3 1, 3) := by decide +kernel
theorem dX12_clear_27 : decode cX12_clear 27 = .ok (.goto (-21), 3) := by decide +kernel
theorem dX12_clear_30 : decode cX12_clear 30 = .ok (.return_, 1) := by decide +kernel
theorem dX12_offer_0 : decode cX12_offer 0 = .ok (.aload_n 0, 1) := by decide +kernel
theorem dX12_offer_1 : decode cX12_offer 1 = .ok (.getfield 57, 3) := by decide +kernel
theorem dX12_offer_4 : decode cX12_offer 4 = .ok (.iload_n 1, 1) := by decide +kernel
theorem dX12_offer_5 : decode cX12_offer 5 = .ok (.aload_n 0, 1) := by decide +kernel
theorem dX12_offer_6 : decode cX12_offer 6 = .ok (.getfield 57, 3) := by decide +kernel
theorem dX12_offer_9 : decode cX12_offer 9 = .ok (.iload_n 1, 1) := by decide +kernel
theorem dX12_offer_10 : decode cX12_offer 10 = .ok (.iaload, 1) := by decide +kernel
theorem dX12_offer_11 : decode cX12_offer 11 = .ok (.iconst (-1), 1) := by decide +kernel
theorem dX12_offer_12 : decode cX12_offer 12 = .ok (.if_icmp .eq 13, 3) := by decide +kernel
theorem dX12_offer_15 : decode cX12_offer 15 = .ok (.iload_n 2, 1) := by decide +kernel
theorem dX12_offer_16 : decode cX12_offer 16 = .ok (.aload_n 0, 1) := by decide +kernel
theorem dX12_offer_17 : decode cX12_offer 17 = .ok (.getfield 57, 3) := by decide +kernel
theorem dX12_offer_20 : decode cX12_offer 20 = .ok (.iload_n 1, 1) := by decide +kernel
theorem dX12_offer_21 : decode cX12_offer 21 = .ok (.iaload, 1) := by decide +kernel
theorem dX12_offer_22 : decode cX12_offer 22 = .ok (.if_icmp .ge 7, 3) := by decide +kernel
theorem dX12_offer_25 : decode cX12_offer 25 = .ok (.iload_n 2, 1) := by decide +kernel
theorem dX12_offer_26 : decode cX12_offer 26 = .ok (.goto 9, 3) := by decide +kernel
theorem dX12_offer_29 : decode cX12_offer 29 = .ok (.aload_n 0, 1) := by decide +kernel
theorem dX12_offer_30 : decode cX12_offer 30 = .ok (.getfield 57, 3) := by decide +kernel
theorem dX12_offer_33 : decode cX12_offer 33 = .ok (.iload_n 1, 1) := by decide +kernel
theorem dX12_offer_34 : decode cX12_offer 34 = .ok (.iaload, 1) := by decide +kernel
theorem dX12_offer_35 : decode cX12_offer 35 = .ok (.iastore, 1) := by decide +kernel
theorem dX12_offer_36 : decode cX12_offer 36 = .ok (.return_, 1) := by decide +kernel
set_option maxRecDepth 20000 in
theorem ggX12_goOn_X12_next : GoodIn wsX12_goOn wsX12_next := goodIn_r _ [8, 9, 10, 3, 11, 12, 7, 13, 14, 15, 16, 31, 32, 33, 34, 35, 36, 37, 38, 39, 40, 41, 42, 43, 44, 45, 46, 47, 48, 49, 50, 51, 52, 53, 54, 55, 56, 57, 58, 59, 60, 61, 62, 63, 64, 65, 66, 67, 68, 69, 70, 71, 72, 73, 74, 75, 76, 77, 78, 79, 80, 81, 82, 83, 84, 85, 86, 87, 88, 89, 90, 91] (by decide +kernel) (by decide +kernel)
set_option maxRecDepth 20000 in
theorem gX12_goOn_X12_next : GoodIn wsX12_goOn (wsV RX12 335 RX12 yX12_next wsX12_next) := goodIn_app (goodIn_of _ (by decide +kernel)) ggX12_goOn_X12_next
set_option maxRecDepth 20000 in
theorem ggX12_goOn_X12_costOf : GoodIn wsX12_goOn wsX12_costOf := goodIn_r _ [20, 11, 12, 7, 13, 21, 22, 23, 24, 25, 26, 31, 32, 33, 34, 35, 36, 37, 38, 39, 40, 41, 42, 43, 44, 45, 46, 47, 48, 49, 50, 51, 52, 53, 54, 55, 56, 57, 58, 59, 60, 61, 62, 63, 64, 65, 66, 67, 68, 69, 70, 71, 72, 73, 74, 75, 76, 77, 78, 79, 80, 81, 82, 83, 84, 85, 86, 87, 88, 89, 90, 91] (by decide +kernel) (by decide +kernel)
set_option maxRecDepth 20000 in
theorem gX12_goOn_X12_costOf : GoodIn wsX12_goOn (wsV RX12 338 RX12 yX12_costOf wsX12_costOf) := goodIn_app (goodIn_of _ (by decide +kernel)) ggX12_goOn_X12_costOf
set_option maxRecDepth 20000 in
theorem ggX12_goOn_X12_offer : GoodIn wsX12_goOn wsX12_offer := goodIn_r _ [30, 1, 31, 32, 33, 34, 35, 36, 37, 38, 39, 40, 41, 42, 43, 44, 45, 46, 47, 48, 49, 50, 51, 52, 53, 54, 55, 56, 57, 58, 59, 60, 61, 62, 63, 64, 65, 66, 67, 68, 69, 70, 71, 72, 73, 74, 75, 76, 77, 78, 79, 80, 81, 82, 83, 84, 85, 86, 87, 88, 89, 90, 91] (by decide +kernel) (by decide +kernel)
set_option maxRecDepth 20000 in
theorem gX12_goOn_X12_offer : GoodIn wsX12_goOn (wsV RX12 341 RX12 yX12_offer wsX12_offer) := goodIn_app (goodIn_of _ (by decide +kernel)) ggX12_goOn_X12_offer
theorem dX12_goOn_0 : decode cX12_goOn 0 = .ok (.iload_n 1, 1) := by decide +kernel
theorem dX12_goOn_1 : decode cX12_goOn 1 = .ok (.istore 4, 2) := by decide +kernel
theorem dX12_goOn_3 : decode cX12_goOn 3 = .ok (.iload 4, 2) := by decide +kernel
theorem dX12_goOn_5 : decode cX12_goOn 5 = .ok (.iload_n 2, 1) := by decide +kernel
theorem dX12_goOn_6 : decode cX12_goOn 6 = .ok (.if_icmp .ge 134, 3) := by decide +kernel
theorem dX12_goOn_9 : decode cX12_goOn 9 = .ok (.iconst 0, 1) := by decide +kernel
theorem dX12_goOn_10 : decode cX12_goOn 10 = .ok (.istore 5, 2) := by decide +kernel
theorem dX12_goOn_12 : decode cX12_goOn 12 = .ok (.iload 5, 2) := by decide +kernel
theorem dX12_goOn_14 : decode cX12_goOn 14 = .ok (.sipush 4096, 3) := by decide +kernel
theorem dX12_goOn_17 : decode cX12_goOn 17 = .ok (.if_icmp .ge 117, 3) := by decide +kernel
theorem dX12_goOn_20 : decode cX12_goOn 20 = .ok (.aload_n 0, 1) := by decide +kernel
theorem dX12_goOn_21 : decode cX12_goOn 21 = .ok (.getfield 57, 3) := by decide +kernel
theorem dX12_goOn_24 : decode cX12_goOn 24 = .ok (.sipush 4096, 3) := by decide +kernel
theorem dX12_goOn_27 : decode cX12_goOn 27 = .ok (.iload 4, 2) := by decide +kernel
theorem dX12_goOn_29 : decode cX12_goOn 29 = .ok (.imul, 1) := by decide +kernel
theorem dX12_goOn_30 : decode cX12_goOn 30 = .ok (.iload 5, 2) := by decide +kernel
theorem dX12_goOn_32 : decode cX12_goOn 32 = .ok (.iadd, 1) := by decide +kernel
theorem dX12_goOn_33 : decode cX12_goOn 33 = .ok (.iaload, 1) := by decide +kernel
theorem dX12_goOn_34 : decode cX12_goOn 34 = .ok (.istore 6, 2) := by decide +kernel
theorem dX12_goOn_36 : decode cX12_goOn 36 = .ok (.iconst 0, 1) := by decide +kernel
theorem dX12_goOn_37 : decode cX12_goOn 37 = .ok (.istore 7, 2) := by decide +kernel
theorem dX12_goOn_39 : decode cX12_goOn 39 = .ok (.iload 7, 2) := by decide +kernel
theorem dX12_goOn_41 : decode cX12_goOn 41 = .ok (.aload_n 0, 1) := by decide +kernel
theorem dX12_goOn_42 : decode cX12_goOn 42 = .ok (.getfield 249, 3) := by decide +kernel
theorem dX12_goOn_45 : decode cX12_goOn 45 = .ok (.if_icmp .gt 83, 3) := by decide +kernel
theorem dX12_goOn_48 : decode cX12_goOn 48 = .ok (.iload 6, 2) := by decide +kernel
theorem dX12_goOn_50 : decode cX12_goOn 50 = .ok (.iconst (-1), 1) := by decide +kernel
theorem dX12_goOn_51 : decode cX12_goOn 51 = .ok (.if_icmp .eq 77, 3) := by decide +kernel
theorem dX12_goOn_54 : decode cX12_goOn 54 = .ok (.iload 7, 2) := by decide +kernel
theorem dX12_goOn_56 : decode cX12_goOn 56 = .ok (.aload_n 0, 1) := by decide +kernel
theorem dX12_goOn_57 : decode cX12_goOn 57 = .ok (.getfield 249, 3) := by decide +kernel
theorem dX12_goOn_60 : decode cX12_goOn 60 = .ok (.iconst (-1), 1) := by decide +kernel
theorem dX12_goOn_61 : decode cX12_goOn 61 = .ok (.ixor, 1) := by decide +kernel
theorem dX12_goOn_62 : decode cX12_goOn 62 = .ok (.iand, 1) := by decide +kernel
theorem dX12_goOn_63 : decode cX12_goOn 63 = .ok (.ifCond .ne 14, 3) := by decide +kernel
theorem dX12_goOn_66 : decode cX12_goOn 66 = .ok (.aload_n 0, 1) := by decide +kernel
theorem dX12_goOn_67 : decode cX12_goOn 67 = .ok (.iload 5, 2) := by decide +kernel
theorem dX12_goOn_69 : decode cX12_goOn 69 = .ok (.iload 7, 2) := by decide +kernel
theorem dX12_goOn_71 : decode cX12_goOn 71 = .ok (.invokevirtual 335, 3) := by decide +kernel
theorem dX12_goOn_74 : decode cX12_goOn 74 = .ok (.goto 4, 3) := by decide +kernel
theorem dX12_goOn_77 : decode cX12_goOn 77 = .ok (.iconst 0, 1) := by decide +kernel
theorem dX12_goOn_78 : decode cX12_goOn 78 = .ok (.istore 8, 2) := by decide +kernel
theorem dX12_goOn_80 : decode cX12_goOn 80 = .ok (.iload 8, 2) := by decide +kernel
theorem dX12_goOn_82 : decode cX12_goOn 82 = .ok (.ifCond .le 40, 3) := by decide +kernel
theorem dX12_goOn_85 : decode cX12_goOn 85 = .ok (.iload 4, 2) := by decide +kernel
theorem dX12_goOn_87 : decode cX12_goOn 87 = .ok (.iload 8, 2) := by decide +kernel
theorem dX12_goOn_89 : decode cX12_goOn 89 = .ok (.iadd, 1) := by decide +kernel
theorem dX12_goOn_90 : decode cX12_goOn 90 = .ok (.iload_n 2, 1) := by decide +kernel
theorem dX12_goOn_91 : decode cX12_goOn 91 = .ok (.if_icmp .gt 31, 3) := by decide +kernel
theorem dX12_goOn_94 : decode cX12_goOn 94 = .ok (.aload_n 0, 1) := by decide +kernel
theorem dX12_goOn_95 : decode cX12_goOn 95 = .ok (.sipush 4096, 3) := by decide +kernel
theorem dX12_goOn_98 : decode cX12_goOn 98 = .ok (.iload 4, 2) := by decide +kernel
theorem dX12_goOn_100 : decode cX12_goOn 100 = .ok (.iload 8, 2) := by decide +kernel
theorem dX12_goOn_102 : decode cX12_goOn 102 = .ok (.iadd, 1) := by decide +kernel
theorem dX12_goOn_103 : decode cX12_goOn 103 = .ok (.imul, 1) := by decide +kernel
theorem dX12_goOn_104 : decode cX12_goOn 104 = .ok (.aload_n 0, 1) := by decide +kernel
theorem dX12_goOn_105 : decode cX12_goOn 105 = .ok (.getfield 332, 3) := by decide +kernel
theorem dX12_goOn_108 : decode cX12_goOn 108 = .ok (.iadd, 1) := by decide +kernel
theorem dX12_goOn_109 : decode cX12_goOn 109 = .ok (.iload 6, 2) := by decide +kernel
theorem dX12_goOn_111 : decode cX12_goOn 111 = .ok (.aload_n 0, 1) := by decide +kernel
theorem dX12_goOn_112 : decode cX12_goOn 112 = .ok (.iload 7, 2) := by decide +kernel
theorem dX12_goOn_114 : decode cX12_goOn 114 = .ok (.iload_n 3, 1) := by decide +kernel
theorem dX12_goOn_115 : decode cX12_goOn 115 = .ok (.invokevirtual 338, 3) := by decide +kernel
theorem dX12_goOn_118 : decode cX12_goOn 118 = .ok (.iadd, 1) := by decide +kernel
theorem dX12_goOn_119 : decode cX12_goOn 119 = .ok (.invokevirtual 341, 3) := by decide +kernel
theorem dX12_goOn_122 : decode cX12_goOn 122 = .ok (.iinc 7 1, 3) := by decide +kernel
theorem dX12_goOn_125 : decode cX12_goOn 125 = .ok (.goto (-86), 3) := by decide +kernel
theorem dX12_goOn_128 : decode cX12_goOn 128 = .ok (.iinc 5 1, 3) := by decide +kernel
theorem dX12_goOn_131 : decode cX12_goOn 131 = .ok (.goto (-119), 3) := by decide +kernel
theorem dX12_goOn_134 : decode cX12_goOn 134 = .ok (.iinc 4 1, 3) := by decide +kernel
theorem dX12_goOn_137 : decode cX12_goOn 137 = .ok (.goto (-134), 3) := by decide +kernel
theorem dX12_goOn_140 : decode cX12_goOn 140 = .ok (.return_, 1) := by decide +kernel
set_option maxRecDepth 20000 in
theorem ggX12_layOut_X12_clear : GoodIn wsX12_layOut wsX12_clear := goodIn_r _ [7, 1, 40, 41, 42, 43, 44, 45, 46, 47, 48, 49, 50, 51, 52, 53, 54, 55, 56, 57, 58, 59, 60, 61, 62, 63, 64, 65, 66, 67, 68, 69, 70, 71, 72, 73, 74, 75, 76, 77, 78, 79, 80, 81, 82, 83, 84, 85, 86, 87, 88, 89, 90, 91, 92, 93, 94, 95, 96, 97, 98, 99, 100] (by decide +kernel) (by decide +kernel)
set_option maxRecDepth 20000 in
theorem gX12_layOut_X12_clear : GoodIn wsX12_layOut (wsV RX12 344 RX12 yX12_clear wsX12_clear) := goodIn_app (goodIn_of _ (by decide +kernel)) ggX12_layOut_X12_clear
set_option maxRecDepth 20000 in
theorem ggX12_layOut_X12_goOn : GoodIn wsX12_layOut wsX12_goOn := goodIn_r _ [11, 1, 12, 13, 14, 15, 16, 6, 17, 18, 19, 20, 21, 22, 23, 24, 25, 26, 27, 28, 29, 30, 31, 32, 33, 34, 35, 36, 37, 38, 39, 40, 41, 42, 43, 44, 45, 46, 47, 48, 49, 50, 51, 52, 53, 54, 55, 56, 57, 58, 59, 60, 61, 62, 63, 64, 65, 66, 67, 68, 69, 70, 71, 72, 73, 74, 75, 76, 77, 78, 79, 80, 81, 82, 83, 84, 85, 86, 87, 88, 89, 90, 91, 92, 93, 94, 95, 96, 97, 98, 99, 100] (by decide +kernel) (by decide +kernel)
set_option maxRecDepth 20000 in
theorem gX12_layOut_X12_goOn : GoodIn wsX12_layOut (wsV RX12 347 RX12 yX12_goOn wsX12_goOn) := goodIn_app (goodIn_of _ (by decide +kernel)) ggX12_layOut_X12_goOn
theorem dX12_layOut_0 : decode cX12_layOut 0 = .ok (.aload_n 0, 1) := by decide +kernel
theorem dX12_layOut_1 : decode cX12_layOut 1 = .ok (.iconst 0, 1) := by decide +kernel
theorem dX12_layOut_2 : decode cX12_layOut 2 = .ok (.bipush 30, 2) := by decide +kernel
theorem dX12_layOut_4 : decode cX12_layOut 4 = .ok (.invokevirtual 344, 3) := by decide +kernel
theorem dX12_layOut_7 : decode cX12_layOut 7 = .ok (.aload_n 0, 1) := by decide +kernel
theorem dX12_layOut_8 : decode cX12_layOut 8 = .ok (.getfield 57, 3) := by decide +kernel
theorem dX12_layOut_11 : decode cX12_layOut 11 = .ok (.aload_n 0, 1) := by decide +kernel
theorem dX12_layOut_12 : decode cX12_layOut 12 = .ok (.getfield 252, 3) := by decide +kernel
theorem dX12_layOut_15 : decode cX12_layOut 15 = .ok (.iconst 0, 1) := by decide +kernel
theorem dX12_layOut_16 : decode cX12_layOut 16 = .ok (.iastore, 1) := by decide +kernel
theorem dX12_layOut_17 : decode cX12_layOut 17 = .ok (.aload_n 0, 1) := by decide +kernel
theorem dX12_layOut_18 : decode cX12_layOut 18 = .ok (.iconst 0, 1) := by decide +kernel
theorem dX12_layOut_19 : decode cX12_layOut 19 = .ok (.bipush 30, 2) := by decide +kernel
theorem dX12_layOut_21 : decode cX12_layOut 21 = .ok (.iload_n 1, 1) := by decide +kernel
theorem dX12_layOut_22 : decode cX12_layOut 22 = .ok (.invokevirtual 347, 3) := by decide +kernel
theorem dX12_layOut_25 : decode cX12_layOut 25 = .ok (.return_, 1) := by decide +kernel
theorem dX12_leastAt_0 : decode cX12_leastAt 0 = .ok (.iconst (-1), 1) := by decide +kernel
theorem dX12_leastAt_1 : decode cX12_leastAt 1 = .ok (.istore_n 2, 1) := by decide +kernel
theorem dX12_leastAt_2 : decode cX12_leastAt 2 = .ok (.iconst 0, 1) := by decide +kernel
theorem dX12_leastAt_3 : decode cX12_leastAt 3 = .ok (.istore_n 3, 1) := by decide +kernel
theorem dX12_leastAt_4 : decode cX12_leastAt 4 = .ok (.iload_n 3, 1) := by decide +kernel
theorem dX12_leastAt_5 : decode cX12_leastAt 5 = .ok (.sipush 4096, 3) := by decide +kernel
theorem dX12_leastAt_8 : decode cX12_leastAt 8 = .ok (.if_icmp .ge 47, 3) := by decide +kernel
theorem dX12_leastAt_11 : decode cX12_leastAt 11 = .ok (.aload_n 0, 1) := by decide +kernel
theorem dX12_leastAt_12 : decode cX12_leastAt 12 = .ok (.getfield 57, 3) := by decide +kernel
theorem dX12_leastAt_15 : decode cX12_leastAt 15 = .ok (.sipush 4096, 3) := by decide +kernel
theorem dX12_leastAt_18 : decode cX12_leastAt 18 = .ok (.iload_n 1, 1) := by decide +kernel
theorem dX12_leastAt_19 : decode cX12_leastAt 19 = .ok (.imul, 1) := by decide +kernel
theorem dX12_leastAt_20 : decode cX12_leastAt 20 = .ok (.iload_n 3, 1) := by decide +kernel
theorem dX12_leastAt_21 : decode cX12_leastAt 21 = .ok (.iadd, 1) := by decide +kernel
theorem dX12_leastAt_22 : decode cX12_leastAt 22 = .ok (.iaload, 1) := by decide +kernel
theorem dX12_leastAt_23 : decode cX12_leastAt 23 = .ok (.istore 4, 2) := by decide +kernel
theorem dX12_leastAt_25 : decode cX12_leastAt 25 = .ok (.iload 4, 2) := by decide +kernel
theorem dX12_leastAt_27 : decode cX12_leastAt 27 = .ok (.iconst (-1), 1) := by decide +kernel
theorem dX12_leastAt_28 : decode cX12_leastAt 28 = .ok (.if_icmp .eq 19, 3) := by decide +kernel
theorem dX12_leastAt_31 : decode cX12_leastAt 31 = .ok (.iload_n 2, 1) := by decide +kernel
theorem dX12_leastAt_32 : decode cX12_leastAt 32 = .ok (.iconst (-1), 1) := by decide +kernel
theorem dX12_leastAt_33 : decode cX12_leastAt 33 = .ok (.if_icmp .eq 9, 3) := by decide +kernel
theorem dX12_leastAt_36 : decode cX12_leastAt 36 = .ok (.iload 4, 2) := by decide +kernel
theorem dX12_leastAt_38 : decode cX12_leastAt 38 = .ok (.iload_n 2, 1) := by decide +kernel
theorem dX12_leastAt_39 : decode cX12_leastAt 39 = .ok (.if_icmp .ge 8, 3) := by decide +kernel
theorem dX12_leastAt_42 : decode cX12_leastAt 42 = .ok (.iload 4, 2) := by decide +kernel
theorem dX12_leastAt_44 : decode cX12_leastAt 44 = .ok (.goto 4, 3) := by decide +kernel
theorem dX12_leastAt_47 : decode cX12_leastAt 47 = .ok (.iload_n 2, 1) := by decide +kernel
theorem dX12_leastAt_48 : decode cX12_leastAt 48 = .ok (.istore_n 2, 1) := by decide +kernel
theorem dX12_leastAt_49 : decode cX12_leastAt 49 = .ok (.iinc 3 1, 3) := by decide +kernel
theorem dX12_leastAt_52 : decode cX12_leastAt 52 = .ok (.goto (-48), 3) := by decide +kernel
theorem dX12_leastAt_55 : decode cX12_leastAt 55 = .ok (.iload_n 2, 1) := by decide +kernel
theorem dX12_leastAt_56 : decode cX12_leastAt 56 = .ok (.ireturn, 1) := by decide +kernel
set_option maxRecDepth 20000 in
theorem ggX12_bitsOf_X12_leastAt : GoodIn wsX12_bitsOf wsX12_leastAt := goodIn_r _ [5, 6, 10, 11, 12, 13, 14, 15, 16, 17, 18, 19, 20, 21, 22, 23, 24, 25, 26, 27, 28, 29, 30, 31, 32, 33, 34, 35, 36, 37, 38, 39, 40, 41, 42, 43, 44, 45, 46, 47, 48, 49, 50, 51, 52, 53, 54, 55, 56, 57, 58, 59, 60, 61, 62, 63, 64, 65, 66, 67, 68, 69, 70] (by decide +kernel) (by decide +kernel)
set_option maxRecDepth 20000 in
theorem gX12_bitsOf_X12_leastAt : GoodIn wsX12_bitsOf (wsV RX12 350 RX12 yX12_leastAt wsX12_leastAt) := goodIn_app (goodIn_of _ (by decide +kernel)) ggX12_bitsOf_X12_leastAt
set_option maxRecDepth 20000 in
theorem ggX12_bitsOf_X12_in : GoodIn wsX12_bitsOf wsX12_in := goodIn_r _ [9] (by decide +kernel) (by decide +kernel)
set_option maxRecDepth 20000 in
theorem gX12_bitsOf_X12_in : GoodIn wsX12_bitsOf (va_wsS RX12 110 yX12_in wsX12_in) := goodIn_app (goodIn_of _ (by decide +kernel)) ggX12_bitsOf_X12_in
theorem dX12_bitsOf_0 : decode cX12_bitsOf 0 = .ok (.iconst 0, 1) := by decide +kernel
theorem dX12_bitsOf_1 : decode cX12_bitsOf 1 = .ok (.istore_n 2, 1) := by decide +kernel
theorem dX12_bitsOf_2 : decode cX12_bitsOf 2 = .ok (.iconst 1, 1) := by decide +kernel
theorem dX12_bitsOf_3 : decode cX12_bitsOf 3 = .ok (.istore_n 3, 1) := by decide +kernel
theorem dX12_bitsOf_4 : decode cX12_bitsOf 4 = .ok (.iload_n 3, 1) := by decide +kernel
theorem dX12_bitsOf_5 : decode cX12_bitsOf 5 = .ok (.bipush 30, 2) := by decide +kernel
theorem dX12_bitsOf_7 : decode cX12_bitsOf 7 = .ok (.if_icmp .gt 32, 3) := by decide +kernel
theorem dX12_bitsOf_10 : decode cX12_bitsOf 10 = .ok (.iload_n 2, 1) := by decide +kernel
theorem dX12_bitsOf_11 : decode cX12_bitsOf 11 = .ok (.aload_n 0, 1) := by decide +kernel
theorem dX12_bitsOf_12 : decode cX12_bitsOf 12 = .ok (.iload_n 3, 1) := by decide +kernel
theorem dX12_bitsOf_13 : decode cX12_bitsOf 13 = .ok (.invokevirtual 350, 3) := by decide +kernel
theorem dX12_bitsOf_16 : decode cX12_bitsOf 16 = .ok (.iconst 0, 1) := by decide +kernel
theorem dX12_bitsOf_17 : decode cX12_bitsOf 17 = .ok (.iload_n 1, 1) := by decide +kernel
theorem dX12_bitsOf_18 : decode cX12_bitsOf 18 = .ok (.invokestatic 110, 3) := by decide +kernel
theorem dX12_bitsOf_21 : decode cX12_bitsOf 21 = .ok (.ifCond .eq 9, 3) := by decide +kernel
theorem dX12_bitsOf_24 : decode cX12_bitsOf 24 = .ok (.iconst 1, 1) := by decide +kernel
theorem dX12_bitsOf_25 : decode cX12_bitsOf 25 = .ok (.iload_n 3, 1) := by decide +kernel
theorem dX12_bitsOf_26 : decode cX12_bitsOf 26 = .ok (.ishl, 1) := by decide +kernel
theorem dX12_bitsOf_27 : decode cX12_bitsOf 27 = .ok (.goto 4, 3) := by decide +kernel
theorem dX12_bitsOf_30 : decode cX12_bitsOf 30 = .ok (.iconst 0, 1) := by decide +kernel
theorem dX12_bitsOf_31 : decode cX12_bitsOf 31 = .ok (.ior, 1) := by decide +kernel
theorem dX12_bitsOf_32 : decode cX12_bitsOf 32 = .ok (.istore_n 2, 1) := by decide +kernel
theorem dX12_bitsOf_33 : decode cX12_bitsOf 33 = .ok (.iinc 3 1, 3) := by decide +kernel
theorem dX12_bitsOf_36 : decode cX12_bitsOf 36 = .ok (.goto (-32), 3) := by decide +kernel
theorem dX12_bitsOf_39 : decode cX12_bitsOf 39 = .ok (.iload_n 2, 1) := by decide +kernel
theorem dX12_bitsOf_40 : decode cX12_bitsOf 40 = .ok (.ireturn, 1) := by decide +kernel
set_option maxRecDepth 20000 in
theorem ggX12_timesOf_X12_alone : GoodIn wsX12_timesOf wsX12_alone := goodIn_r _ [6, 7, 8, 9, 10, 11, 12, 5, 13, 14, 15, 16, 17, 18, 19, 60, 61, 62, 63, 64, 65, 66, 67, 68, 69, 70, 71, 72, 73, 74, 75, 76, 77, 78, 79, 80, 81, 82, 83, 84, 85, 86, 87, 88, 89, 90, 91, 92, 93, 94, 95, 96, 97, 98, 99, 100, 101, 102, 103, 104, 105, 106, 107, 108, 109, 110, 111, 112, 113, 114, 115, 116, 117, 118, 119, 120] (by decide +kernel) (by decide +kernel)
set_option maxRecDepth 20000 in
theorem gX12_timesOf_X12_alone : GoodIn wsX12_timesOf (wsV RX12 262 RX12 yX12_alone wsX12_alone) := goodIn_app (goodIn_of _ (by decide +kernel)) ggX12_timesOf_X12_alone
set_option maxRecDepth 20000 in
theorem ggX12_timesOf_X12_layOut : GoodIn wsX12_timesOf wsX12_layOut := goodIn_r _ [23, 24, 8, 25, 26, 27, 5, 28, 29, 30, 31, 32, 7, 33, 34, 35, 36, 37, 1, 9, 11, 12, 13, 38, 39, 40, 41, 42, 43, 44, 14, 15, 16, 17, 18, 19, 45, 46, 47, 48, 60, 61, 62, 63, 64, 65, 66, 67, 68, 69, 70, 71, 72, 73, 74, 75, 76, 77, 78, 79, 80, 81, 82, 83, 84, 85, 86, 87, 88, 89, 90, 91, 92, 93, 94, 95, 96, 97, 98, 99, 100, 101, 102, 103, 104, 105, 106, 107, 108, 109, 110, 111, 112, 113, 114, 115, 116, 117, 118, 119, 120] (by decide +kernel) (by decide +kernel)
set_option maxRecDepth 20000 in
theorem gX12_timesOf_X12_layOut : GoodIn wsX12_timesOf (wsV RX12 353 RX12 yX12_layOut wsX12_layOut) := goodIn_app (goodIn_of _ (by decide +kernel)) ggX12_timesOf_X12_layOut
set_option maxRecDepth 20000 in
theorem ggX12_timesOf_X12_bitsOf : GoodIn wsX12_timesOf wsX12_bitsOf := goodIn_r _ [52, 53, 54, 55, 5, 56, 24, 57, 58, 59, 60, 61, 62, 63, 64, 65, 66, 67, 68, 69, 70, 71, 72, 73, 74, 75, 76, 77, 78, 79, 80, 81, 82, 83, 84, 85, 86, 87, 88, 89, 90, 91, 92, 93, 94, 95, 96, 97, 98, 99, 100, 101, 102, 103, 104, 105, 106, 107, 108, 109, 110, 111, 112, 113, 114, 115, 116, 117, 118, 119, 120] (by decide +kernel) (by decide +kernel)
set_option maxRecDepth 20000 in
theorem gX12_timesOf_X12_bitsOf : GoodIn wsX12_timesOf (wsV RX12 356 RX12 yX12_bitsOf wsX12_bitsOf) := goodIn_app (goodIn_of _ (by decide +kernel)) ggX12_timesOf_X12_bitsOf
theorem dX12_timesOf_0 : decode cX12_timesOf 0 = .ok (.aload_n 0, 1) := by decide +kernel
theorem dX12_timesOf_1 : decode cX12_timesOf 1 = .ok (.iload_n 1, 1) := by decide +kernel
theorem dX12_timesOf_2 : decode cX12_timesOf 2 = .ok (.invokevirtual 262, 3) := by decide +kernel
theorem dX12_timesOf_5 : decode cX12_timesOf 5 = .ok (.aload_n 0, 1) := by decide +kernel
theorem dX12_timesOf_6 : decode cX12_timesOf 6 = .ok (.iconst 0, 1) := by decide +kernel
theorem dX12_timesOf_7 : decode cX12_timesOf 7 = .ok (.invokevirtual 353, 3) := by decide +kernel
theorem dX12_timesOf_10 : decode cX12_timesOf 10 = .ok (.aload_n 0, 1) := by decide +kernel
theorem dX12_timesOf_11 : decode cX12_timesOf 11 = .ok (.ldc_w 331, 3) := by decide +kernel
theorem dX12_timesOf_14 : decode cX12_timesOf 14 = .ok (.invokevirtual 356, 3) := by decide +kernel
theorem dX12_timesOf_17 : decode cX12_timesOf 17 = .ok (.ireturn, 1) := by decide +kernel
set_option maxRecDepth 20000 in
theorem ggX12_leftBy_X12_next : GoodIn wsX12_leftBy wsX12_next := goodIn_r _ [7, 8, 9, 2, 10, 11, 6, 12, 13, 14, 15, 26, 27, 28, 29, 30, 31, 32, 33, 34, 35, 36, 37, 38, 39, 40, 41, 42, 43, 44, 45, 46, 47, 48, 49, 50, 51, 52, 53, 54, 55, 56, 57, 58, 59, 60, 61, 62, 63, 64, 65, 66, 67, 68, 69, 70, 71, 72, 73, 74, 75, 76, 77, 78, 79, 80, 81, 82, 83, 84, 85, 86] (by decide +kernel) (by decide +kernel)
set_option maxRecDepth 20000 in
theorem gX12_leftBy_X12_next : GoodIn wsX12_leftBy (wsV RX12 335 RX12 yX12_next wsX12_next) := goodIn_app (goodIn_of _ (by decide +kernel)) ggX12_leftBy_X12_next
set_option maxRecDepth 20000 in
theorem ggX12_leftBy_X12_costOf : GoodIn wsX12_leftBy wsX12_costOf := goodIn_r _ [19, 10, 11, 6, 12, 20, 21, 22, 23, 24, 25, 26, 27, 28, 29, 30, 31, 32, 33, 34, 35, 36, 37, 38, 39, 40, 41, 42, 43, 44, 45, 46, 47, 48, 49, 50, 51, 52, 53, 54, 55, 56, 57, 58, 59, 60, 61, 62, 63, 64, 65, 66, 67, 68, 69, 70, 71, 72, 73, 74, 75, 76, 77, 78, 79, 80, 81, 82, 83, 84, 85, 86] (by decide +kernel) (by decide +kernel)
set_option maxRecDepth 20000 in
theorem gX12_leftBy_X12_costOf : GoodIn wsX12_leftBy (wsV RX12 338 RX12 yX12_costOf wsX12_costOf) := goodIn_app (goodIn_of _ (by decide +kernel)) ggX12_leftBy_X12_costOf
theorem dX12_leftBy_0 : decode cX12_leftBy 0 = .ok (.aload_n 0, 1) := by decide +kernel
theorem dX12_leftBy_1 : decode cX12_leftBy 1 = .ok (.iload_n 3, 1) := by decide +kernel
theorem dX12_leftBy_2 : decode cX12_leftBy 2 = .ok (.iload 4, 2) := by decide +kernel
theorem dX12_leftBy_4 : decode cX12_leftBy 4 = .ok (.invokevirtual 335, 3) := by decide +kernel
theorem dX12_leftBy_7 : decode cX12_leftBy 7 = .ok (.istore 5, 2) := by decide +kernel
theorem dX12_leftBy_9 : decode cX12_leftBy 9 = .ok (.iload 5, 2) := by decide +kernel
theorem dX12_leftBy_11 : decode cX12_leftBy 11 = .ok (.ifCond .eq 11, 3) := by decide +kernel
theorem dX12_leftBy_14 : decode cX12_leftBy 14 = .ok (.iload_n 2, 1) := by decide +kernel
theorem dX12_leftBy_15 : decode cX12_leftBy 15 = .ok (.iload 5, 2) := by decide +kernel
theorem dX12_leftBy_17 : decode cX12_leftBy 17 = .ok (.iadd, 1) := by decide +kernel
theorem dX12_leftBy_18 : decode cX12_leftBy 18 = .ok (.iload_n 1, 1) := by decide +kernel
theorem dX12_leftBy_19 : decode cX12_leftBy 19 = .ok (.if_icmp .le 5, 3) := by decide +kernel
theorem dX12_leftBy_22 : decode cX12_leftBy 22 = .ok (.iconst (-1), 1) := by decide +kernel
theorem dX12_leftBy_23 : decode cX12_leftBy 23 = .ok (.ireturn, 1) := by decide +kernel
theorem dX12_leftBy_24 : decode cX12_leftBy 24 = .ok (.aload_n 0, 1) := by decide +kernel
theorem dX12_leftBy_25 : decode cX12_leftBy 25 = .ok (.getfield 57, 3) := by decide +kernel
theorem dX12_leftBy_28 : decode cX12_leftBy 28 = .ok (.sipush 4096, 3) := by decide +kernel
theorem dX12_leftBy_31 : decode cX12_leftBy 31 = .ok (.iload_n 2, 1) := by decide +kernel
theorem dX12_leftBy_32 : decode cX12_leftBy 32 = .ok (.iload 5, 2) := by decide +kernel
theorem dX12_leftBy_34 : decode cX12_leftBy 34 = .ok (.iadd, 1) := by decide +kernel
theorem dX12_leftBy_35 : decode cX12_leftBy 35 = .ok (.imul, 1) := by decide +kernel
theorem dX12_leftBy_36 : decode cX12_leftBy 36 = .ok (.aload_n 0, 1) := by decide +kernel
theorem dX12_leftBy_37 : decode cX12_leftBy 37 = .ok (.getfield 332, 3) := by decide +kernel
theorem dX12_leftBy_40 : decode cX12_leftBy 40 = .ok (.iadd, 1) := by decide +kernel
theorem dX12_leftBy_41 : decode cX12_leftBy 41 = .ok (.iaload, 1) := by decide +kernel
theorem dX12_leftBy_42 : decode cX12_leftBy 42 = .ok (.istore 6, 2) := by decide +kernel
theorem dX12_leftBy_44 : decode cX12_leftBy 44 = .ok (.iload 6, 2) := by decide +kernel
theorem dX12_leftBy_46 : decode cX12_leftBy 46 = .ok (.iconst (-1), 1) := by decide +kernel
theorem dX12_leftBy_47 : decode cX12_leftBy 47 = .ok (.if_icmp .ne 7, 3) := by decide +kernel
theorem dX12_leftBy_50 : decode cX12_leftBy 50 = .ok (.iconst (-1), 1) := by decide +kernel
theorem dX12_leftBy_51 : decode cX12_leftBy 51 = .ok (.goto 13, 3) := by decide +kernel
theorem dX12_leftBy_54 : decode cX12_leftBy 54 = .ok (.iload 6, 2) := by decide +kernel
theorem dX12_leftBy_56 : decode cX12_leftBy 56 = .ok (.aload_n 0, 1) := by decide +kernel
theorem dX12_leftBy_57 : decode cX12_leftBy 57 = .ok (.iload 4, 2) := by decide +kernel
theorem dX12_leftBy_59 : decode cX12_leftBy 59 = .ok (.iconst 0, 1) := by decide +kernel
theorem dX12_leftBy_60 : decode cX12_leftBy 60 = .ok (.invokevirtual 338, 3) := by decide +kernel
theorem dX12_leftBy_63 : decode cX12_leftBy 63 = .ok (.iadd, 1) := by decide +kernel
theorem dX12_leftBy_64 : decode cX12_leftBy 64 = .ok (.ireturn, 1) := by decide +kernel
set_option maxRecDepth 20000 in
theorem ggX12_layBack_X12_layOut : GoodIn wsX12_layBack wsX12_layOut := goodIn_r _ [8, 1, 9, 10, 11, 12, 7, 13, 14, 15, 16, 17, 3, 18, 19, 20, 21, 22, 23, 24, 25, 26, 27, 28, 29, 30, 31, 32, 33, 34, 35, 36, 37, 38, 39, 40, 41, 42, 43, 44, 54, 55, 56, 57, 58, 59, 60, 61, 62, 63, 64, 65, 66, 67, 68, 69, 70, 71, 72, 73, 74, 75, 76, 77, 78, 79, 80, 81, 82, 83, 84, 85, 86, 87, 88, 89, 90, 91, 92, 93, 94, 95, 96, 97, 98, 99, 100, 101, 102, 103, 104, 105, 106, 107, 108, 109, 110, 111, 112, 113, 114] (by decide +kernel) (by decide +kernel)
set_option maxRecDepth 20000 in
theorem gX12_layBack_X12_layOut : GoodIn wsX12_layBack (wsV RX12 353 RX12 yX12_layOut wsX12_layOut) := goodIn_app (goodIn_of _ (by decide +kernel)) ggX12_layBack_X12_layOut
set_option maxRecDepth 20000 in
theorem ggX12_layBack_X12_keepAll : GoodIn wsX12_layBack wsX12_keepAll := goodIn_r _ [48, 49, 2, 1, 54, 55, 56, 57, 58, 59, 60, 61, 62, 63, 64, 65, 66, 67, 68, 69, 70, 71, 72, 73, 74, 75, 76, 77, 78, 79, 80, 81, 82, 83, 84, 85, 86, 87, 88, 89, 90, 91, 92, 93, 94, 95, 96, 97, 98, 99, 100, 101, 102, 103, 104, 105, 106, 107, 108, 109, 110, 111, 112, 113, 114] (by decide +kernel) (by decide +kernel)
set_option maxRecDepth 20000 in
theorem gX12_layBack_X12_keepAll : GoodIn wsX12_layBack (wsV RX12 359 RX12 yX12_keepAll wsX12_keepAll) := goodIn_app (goodIn_of _ (by decide +kernel)) ggX12_layBack_X12_keepAll
set_option maxRecDepth 20000 in
theorem ggX12_layBack_X12_clear : GoodIn wsX12_layBack wsX12_clear := goodIn_r _ [13, 1, 54, 55, 56, 57, 58, 59, 60, 61, 62, 63, 64, 65, 66, 67, 68, 69, 70, 71, 72, 73, 74, 75, 76, 77, 78, 79, 80, 81, 82, 83, 84, 85, 86, 87, 88, 89, 90, 91, 92, 93, 94, 95, 96, 97, 98, 99, 100, 101, 102, 103, 104, 105, 106, 107, 108, 109, 110, 111, 112, 113, 114] (by decide +kernel) (by decide +kernel)
set_option maxRecDepth 20000 in
theorem gX12_layBack_X12_clear : GoodIn wsX12_layBack (wsV RX12 344 RX12 yX12_clear wsX12_clear) := goodIn_app (goodIn_of _ (by decide +kernel)) ggX12_layBack_X12_clear
set_option maxRecDepth 20000 in
theorem ggX12_layBack_X12_leftBy : GoodIn wsX12_layBack wsX12_leftBy := goodIn_r _ [53, 1, 18, 19, 20, 21, 7, 22, 23, 24, 25, 26, 27, 28, 29, 30, 31, 32, 33, 34, 35, 36, 37, 38, 39, 40, 54, 55, 56, 57, 58, 59, 60, 61, 62, 63, 64, 65, 66, 67, 68, 69, 70, 71, 72, 73, 74, 75, 76, 77, 78, 79, 80, 81, 82, 83, 84, 85, 86, 87, 88, 89, 90, 91, 92, 93, 94, 95, 96, 97, 98, 99, 100, 101, 102, 103, 104, 105, 106, 107, 108, 109, 110, 111, 112, 113, 114] (by decide +kernel) (by decide +kernel)
set_option maxRecDepth 20000 in
theorem gX12_layBack_X12_leftBy : GoodIn wsX12_layBack (wsV RX12 362 RX12 yX12_leftBy wsX12_leftBy) := goodIn_app (goodIn_of _ (by decide +kernel)) ggX12_layBack_X12_leftBy
set_option maxRecDepth 20000 in
theorem ggX12_layBack_X12_offer : GoodIn wsX12_layBack wsX12_offer := goodIn_r _ [44, 1, 54, 55, 56, 57, 58, 59, 60, 61, 62, 63, 64, 65, 66, 67, 68, 69, 70, 71, 72, 73, 74, 75, 76, 77, 78, 79, 80, 81, 82, 83, 84, 85, 86, 87, 88, 89, 90, 91, 92, 93, 94, 95, 96, 97, 98, 99, 100, 101, 102, 103, 104, 105, 106, 107, 108, 109, 110, 111, 112, 113, 114] (by decide +kernel) (by decide +kernel)
set_option maxRecDepth 20000 in
theorem gX12_layBack_X12_offer : GoodIn wsX12_layBack (wsV RX12 341 RX12 yX12_offer wsX12_offer) := goodIn_app (goodIn_of _ (by decide +kernel)) ggX12_layBack_X12_offer
theorem dX12_layBack_0 : decode cX12_layBack 0 = .ok (.aload_n 0, 1) := by decide +kernel
theorem dX12_layBack_1 : decode cX12_layBack 1 = .ok (.iconst 0, 1) := by decide +kernel
theorem dX12_layBack_2 : decode cX12_layBack 2 = .ok (.invokevirtual 353, 3) := by decide +kernel
theorem dX12_layBack_5 : decode cX12_layBack 5 = .ok (.aload_n 0, 1) := by decide +kernel
theorem dX12_layBack_6 : decode cX12_layBack 6 = .ok (.invokevirtual 359, 3) := by decide +kernel
theorem dX12_layBack_9 : decode cX12_layBack 9 = .ok (.aload_n 0, 1) := by decide +kernel
theorem dX12_layBack_10 : decode cX12_layBack 10 = .ok (.iconst 0, 1) := by decide +kernel
theorem dX12_layBack_11 : decode cX12_layBack 11 = .ok (.iload_n 1, 1) := by decide +kernel
theorem dX12_layBack_12 : decode cX12_layBack 12 = .ok (.invokevirtual 344, 3) := by decide +kernel
theorem dX12_layBack_15 : decode cX12_layBack 15 = .ok (.iconst 0, 1) := by decide +kernel
theorem dX12_layBack_16 : decode cX12_layBack 16 = .ok (.istore_n 2, 1) := by decide +kernel
theorem dX12_layBack_17 : decode cX12_layBack 17 = .ok (.iload_n 2, 1) := by decide +kernel
theorem dX12_layBack_18 : decode cX12_layBack 18 = .ok (.sipush 4096, 3) := by decide +kernel
theorem dX12_layBack_21 : decode cX12_layBack 21 = .ok (.if_icmp .ge 42, 3) := by decide +kernel
theorem dX12_layBack_24 : decode cX12_layBack 24 = .ok (.aload_n 0, 1) := by decide +kernel
theorem dX12_layBack_25 : decode cX12_layBack 25 = .ok (.getfield 57, 3) := by decide +kernel
theorem dX12_layBack_28 : decode cX12_layBack 28 = .ok (.sipush 4096, 3) := by decide +kernel
theorem dX12_layBack_31 : decode cX12_layBack 31 = .ok (.iload_n 1, 1) := by decide +kernel
theorem dX12_layBack_32 : decode cX12_layBack 32 = .ok (.imul, 1) := by decide +kernel
theorem dX12_layBack_33 : decode cX12_layBack 33 = .ok (.iload_n 2, 1) := by decide +kernel
theorem dX12_layBack_34 : decode cX12_layBack 34 = .ok (.iadd, 1) := by decide +kernel
theorem dX12_layBack_35 : decode cX12_layBack 35 = .ok (.aload_n 0, 1) := by decide +kernel
theorem dX12_layBack_36 : decode cX12_layBack 36 = .ok (.getfield 66, 3) := by decide +kernel
theorem dX12_layBack_39 : decode cX12_layBack 39 = .ok (.sipush 4096, 3) := by decide +kernel
theorem dX12_layBack_42 : decode cX12_layBack 42 = .ok (.iload_n 1, 1) := by decide +kernel
theorem dX12_layBack_43 : decode cX12_layBack 43 = .ok (.imul, 1) := by decide +kernel
theorem dX12_layBack_44 : decode cX12_layBack 44 = .ok (.iload_n 2, 1) := by decide +kernel
theorem dX12_layBack_45 : decode cX12_layBack 45 = .ok (.iadd, 1) := by decide +kernel
theorem dX12_layBack_46 : decode cX12_layBack 46 = .ok (.iaload, 1) := by decide +kernel
theorem dX12_layBack_47 : decode cX12_layBack 47 = .ok (.iconst (-1), 1) := by decide +kernel
theorem dX12_layBack_48 : decode cX12_layBack 48 = .ok (.if_icmp .ne 7, 3) := by decide +kernel
theorem dX12_layBack_51 : decode cX12_layBack 51 = .ok (.iconst (-1), 1) := by decide +kernel
theorem dX12_layBack_52 : decode cX12_layBack 52 = .ok (.goto 4, 3) := by decide +kernel
theorem dX12_layBack_55 : decode cX12_layBack 55 = .ok (.iconst 0, 1) := by decide +kernel
theorem dX12_layBack_56 : decode cX12_layBack 56 = .ok (.iastore, 1) := by decide +kernel
theorem dX12_layBack_57 : decode cX12_layBack 57 = .ok (.iinc 2 1, 3) := by decide +kernel
theorem dX12_layBack_60 : decode cX12_layBack 60 = .ok (.goto (-43), 3) := by decide +kernel
theorem dX12_layBack_63 : decode cX12_layBack 63 = .ok (.sipush 4096, 3) := by decide +kernel
theorem dX12_layBack_66 : decode cX12_layBack 66 = .ok (.iload_n 1, 1) := by decide +kernel
theorem dX12_layBack_67 : decode cX12_layBack 67 = .ok (.imul, 1) := by decide +kernel
theorem dX12_layBack_68 : decode cX12_layBack 68 = .ok (.iconst 1, 1) := by decide +kernel
theorem dX12_layBack_69 : decode cX12_layBack 69 = .ok (.isub, 1) := by decide +kernel
theorem dX12_layBack_70 : decode cX12_layBack 70 = .ok (.istore_n 2, 1) := by decide +kernel
theorem dX12_layBack_71 : decode cX12_layBack 71 = .ok (.iload_n 2, 1) := by decide +kernel
theorem dX12_layBack_72 : decode cX12_layBack 72 = .ok (.ifCond .lt 66, 3) := by decide +kernel
theorem dX12_layBack_75 : decode cX12_layBack 75 = .ok (.iconst 0, 1) := by decide +kernel
theorem dX12_layBack_76 : decode cX12_layBack 76 = .ok (.istore_n 3, 1) := by decide +kernel
theorem dX12_layBack_77 : decode cX12_layBack 77 = .ok (.iload_n 3, 1) := by decide +kernel
theorem dX12_layBack_78 : decode cX12_layBack 78 = .ok (.aload_n 0, 1) := by decide +kernel
theorem dX12_layBack_79 : decode cX12_layBack 79 = .ok (.getfield 249, 3) := by decide +kernel
theorem dX12_layBack_82 : decode cX12_layBack 82 = .ok (.if_icmp .gt 50, 3) := by decide +kernel
theorem dX12_layBack_85 : decode cX12_layBack 85 = .ok (.aload_n 0, 1) := by decide +kernel
theorem dX12_layBack_86 : decode cX12_layBack 86 = .ok (.getfield 66, 3) := by decide +kernel
theorem dX12_layBack_89 : decode cX12_layBack 89 = .ok (.iload_n 2, 1) := by decide +kernel
theorem dX12_layBack_90 : decode cX12_layBack 90 = .ok (.iaload, 1) := by decide +kernel
theorem dX12_layBack_91 : decode cX12_layBack 91 = .ok (.iconst (-1), 1) := by decide +kernel
theorem dX12_layBack_92 : decode cX12_layBack 92 = .ok (.if_icmp .eq 40, 3) := by decide +kernel
theorem dX12_layBack_95 : decode cX12_layBack 95 = .ok (.aload_n 0, 1) := by decide +kernel
theorem dX12_layBack_96 : decode cX12_layBack 96 = .ok (.iload_n 1, 1) := by decide +kernel
theorem dX12_layBack_97 : decode cX12_layBack 97 = .ok (.iload_n 2, 1) := by decide +kernel
theorem dX12_layBack_98 : decode cX12_layBack 98 = .ok (.sipush 4096, 3) := by decide +kernel
theorem dX12_layBack_101 : decode cX12_layBack 101 = .ok (.idiv, 1) := by decide +kernel
theorem dX12_layBack_102 : decode cX12_layBack 102 = .ok (.iload_n 2, 1) := by decide +kernel
theorem dX12_layBack_103 : decode cX12_layBack 103 = .ok (.sipush 4096, 3) := by decide +kernel
theorem dX12_layBack_106 : decode cX12_layBack 106 = .ok (.irem, 1) := by decide +kernel
theorem dX12_layBack_107 : decode cX12_layBack 107 = .ok (.iload_n 3, 1) := by decide +kernel
theorem dX12_layBack_108 : decode cX12_layBack 108 = .ok (.invokevirtual 362, 3) := by decide +kernel
theorem dX12_layBack_111 : decode cX12_layBack 111 = .ok (.istore 4, 2) := by decide +kernel
theorem dX12_layBack_113 : decode cX12_layBack 113 = .ok (.iload 4, 2) := by decide +kernel
theorem dX12_layBack_115 : decode cX12_layBack 115 = .ok (.iconst (-1), 1) := by decide +kernel
theorem dX12_layBack_116 : decode cX12_layBack 116 = .ok (.if_icmp .eq 10, 3) := by decide +kernel
theorem dX12_layBack_119 : decode cX12_layBack 119 = .ok (.aload_n 0, 1) := by decide +kernel
theorem dX12_layBack_120 : decode cX12_layBack 120 = .ok (.iload_n 2, 1) := by decide +kernel
theorem dX12_layBack_121 : decode cX12_layBack 121 = .ok (.iload 4, 2) := by decide +kernel
theorem dX12_layBack_123 : decode cX12_layBack 123 = .ok (.invokevirtual 341, 3) := by decide +kernel
theorem dX12_layBack_126 : decode cX12_layBack 126 = .ok (.iinc 3 1, 3) := by decide +kernel
theorem dX12_layBack_129 : decode cX12_layBack 129 = .ok (.goto (-52), 3) := by decide +kernel
theorem dX12_layBack_132 : decode cX12_layBack 132 = .ok (.iinc 2 (-1), 3) := by decide +kernel
theorem dX12_layBack_135 : decode cX12_layBack 135 = .ok (.goto (-64), 3) := by decide +kernel
theorem dX12_layBack_138 : decode cX12_layBack 138 = .ok (.return_, 1) := by decide +kernel
set_option maxRecDepth 20000 in
theorem ggX12_layRow_X12_leftBy : GoodIn wsX12_layRow wsX12_leftBy := goodIn_r _ [11, 3, 6, 12, 13, 14, 10, 15, 16, 17, 18, 19, 20, 21, 22, 23, 24, 25, 26, 27, 28, 29, 30, 31, 32, 33, 34, 35, 36, 37, 38, 39, 40, 41, 42, 43, 44, 45, 46, 47, 48, 49, 50, 51, 52, 53, 54, 55, 56, 57, 58, 59, 60, 61, 62, 63, 64, 65, 66, 67, 68, 69, 70, 71, 72, 73, 74, 75, 76, 77, 78, 79, 80, 81, 82, 83, 84, 85, 86, 87, 88, 89, 90, 91, 92, 93, 94] (by decide +kernel) (by decide +kernel)
set_option maxRecDepth 20000 in
theorem gX12_layRow_X12_leftBy : GoodIn wsX12_layRow (wsV RX12 362 RX12 yX12_leftBy wsX12_leftBy) := goodIn_app (goodIn_of _ (by decide +kernel)) ggX12_layRow_X12_leftBy
set_option maxRecDepth 20000 in
theorem ggX12_layRow_X12_next : GoodIn wsX12_layRow wsX12_next := goodIn_r _ [15, 16, 17, 6, 18, 19, 10, 20, 21, 22, 23, 34, 35, 36, 37, 38, 39, 40, 41, 42, 43, 44, 45, 46, 47, 48, 49, 50, 51, 52, 53, 54, 55, 56, 57, 58, 59, 60, 61, 62, 63, 64, 65, 66, 67, 68, 69, 70, 71, 72, 73, 74, 75, 76, 77, 78, 79, 80, 81, 82, 83, 84, 85, 86, 87, 88, 89, 90, 91, 92, 93, 94] (by decide +kernel) (by decide +kernel)
set_option maxRecDepth 20000 in
theorem gX12_layRow_X12_next : GoodIn wsX12_layRow (wsV RX12 335 RX12 yX12_next wsX12_next) := goodIn_app (goodIn_of _ (by decide +kernel)) ggX12_layRow_X12_next
theorem dX12_layRow_0 : decode cX12_layRow 0 = .ok (.aload_n 0, 1) := by decide +kernel
theorem dX12_layRow_1 : decode cX12_layRow 1 = .ok (.iconst 0, 1) := by decide +kernel
theorem dX12_layRow_2 : decode cX12_layRow 2 = .ok (.putfield 366, 3) := by decide +kernel
theorem dX12_layRow_5 : decode cX12_layRow 5 = .ok (.iconst 0, 1) := by decide +kernel
theorem dX12_layRow_6 : decode cX12_layRow 6 = .ok (.istore_n 2, 1) := by decide +kernel
theorem dX12_layRow_7 : decode cX12_layRow 7 = .ok (.aload_n 0, 1) := by decide +kernel
theorem dX12_layRow_8 : decode cX12_layRow 8 = .ok (.getfield 252, 3) := by decide +kernel
theorem dX12_layRow_11 : decode cX12_layRow 11 = .ok (.istore_n 3, 1) := by decide +kernel
theorem dX12_layRow_12 : decode cX12_layRow 12 = .ok (.iload_n 2, 1) := by decide +kernel
theorem dX12_layRow_13 : decode cX12_layRow 13 = .ok (.iload_n 1, 1) := by decide +kernel
theorem dX12_layRow_14 : decode cX12_layRow 14 = .ok (.if_icmp .ge 85, 3) := by decide +kernel
theorem dX12_layRow_17 : decode cX12_layRow 17 = .ok (.iconst 0, 1) := by decide +kernel
theorem dX12_layRow_18 : decode cX12_layRow 18 = .ok (.istore 4, 2) := by decide +kernel
theorem dX12_layRow_20 : decode cX12_layRow 20 = .ok (.aload_n 0, 1) := by decide +kernel
theorem dX12_layRow_21 : decode cX12_layRow 21 = .ok (.iload_n 1, 1) := by decide +kernel
theorem dX12_layRow_22 : decode cX12_layRow 22 = .ok (.iload_n 2, 1) := by decide +kernel
theorem dX12_layRow_23 : decode cX12_layRow 23 = .ok (.iload_n 3, 1) := by decide +kernel
theorem dX12_layRow_24 : decode cX12_layRow 24 = .ok (.iload 4, 2) := by decide +kernel
theorem dX12_layRow_26 : decode cX12_layRow 26 = .ok (.invokevirtual 362, 3) := by decide +kernel
theorem dX12_layRow_29 : decode cX12_layRow 29 = .ok (.aload_n 0, 1) := by decide +kernel
theorem dX12_layRow_30 : decode cX12_layRow 30 = .ok (.getfield 57, 3) := by decide +kernel
theorem dX12_layRow_33 : decode cX12_layRow 33 = .ok (.sipush 4096, 3) := by decide +kernel
theorem dX12_layRow_36 : decode cX12_layRow 36 = .ok (.iload_n 2, 1) := by decide +kernel
theorem dX12_layRow_37 : decode cX12_layRow 37 = .ok (.imul, 1) := by decide +kernel
theorem dX12_layRow_38 : decode cX12_layRow 38 = .ok (.iload_n 3, 1) := by decide +kernel
theorem dX12_layRow_39 : decode cX12_layRow 39 = .ok (.iadd, 1) := by decide +kernel
theorem dX12_layRow_40 : decode cX12_layRow 40 = .ok (.iaload, 1) := by decide +kernel
theorem dX12_layRow_41 : decode cX12_layRow 41 = .ok (.if_icmp .eq 9, 3) := by decide +kernel
theorem dX12_layRow_44 : decode cX12_layRow 44 = .ok (.iinc 4 1, 3) := by decide +kernel
theorem dX12_layRow_47 : decode cX12_layRow 47 = .ok (.goto (-27), 3) := by decide +kernel
theorem dX12_layRow_50 : decode cX12_layRow 50 = .ok (.aload_n 0, 1) := by decide +kernel
theorem dX12_layRow_51 : decode cX12_layRow 51 = .ok (.getfield 60, 3) := by decide +kernel
theorem dX12_layRow_54 : decode cX12_layRow 54 = .ok (.aload_n 0, 1) := by decide +kernel
theorem dX12_layRow_55 : decode cX12_layRow 55 = .ok (.getfield 366, 3) := by decide +kernel
theorem dX12_layRow_58 : decode cX12_layRow 58 = .ok (.iload 4, 2) := by decide +kernel
theorem dX12_layRow_60 : decode cX12_layRow 60 = .ok (.iastore, 1) := by decide +kernel
theorem dX12_layRow_61 : decode cX12_layRow 61 = .ok (.aload_n 0, 1) := by decide +kernel
theorem dX12_layRow_62 : decode cX12_layRow 62 = .ok (.getfield 63, 3) := by decide +kernel
theorem dX12_layRow_65 : decode cX12_layRow 65 = .ok (.aload_n 0, 1) := by decide +kernel
theorem dX12_layRow_66 : decode cX12_layRow 66 = .ok (.getfield 366, 3) := by decide +kernel
theorem dX12_layRow_69 : decode cX12_layRow 69 = .ok (.iload_n 2, 1) := by decide +kernel
theorem dX12_layRow_70 : decode cX12_layRow 70 = .ok (.iastore, 1) := by decide +kernel
theorem dX12_layRow_71 : decode cX12_layRow 71 = .ok (.aload_n 0, 1) := by decide +kernel
theorem dX12_layRow_72 : decode cX12_layRow 72 = .ok (.dup, 1) := by decide +kernel
theorem dX12_layRow_73 : decode cX12_layRow 73 = .ok (.getfield 366, 3) := by decide +kernel
theorem dX12_layRow_76 : decode cX12_layRow 76 = .ok (.iconst 1, 1) := by decide +kernel
theorem dX12_layRow_77 : decode cX12_layRow 77 = .ok (.iadd, 1) := by decide +kernel
theorem dX12_layRow_78 : decode cX12_layRow 78 = .ok (.putfield 366, 3) := by decide +kernel
theorem dX12_layRow_81 : decode cX12_layRow 81 = .ok (.iload_n 2, 1) := by decide +kernel
theorem dX12_layRow_82 : decode cX12_layRow 82 = .ok (.aload_n 0, 1) := by decide +kernel
theorem dX12_layRow_83 : decode cX12_layRow 83 = .ok (.iload_n 3, 1) := by decide +kernel
theorem dX12_layRow_84 : decode cX12_layRow 84 = .ok (.iload 4, 2) := by decide +kernel
theorem dX12_layRow_86 : decode cX12_layRow 86 = .ok (.invokevirtual 335, 3) := by decide +kernel
theorem dX12_layRow_89 : decode cX12_layRow 89 = .ok (.iadd, 1) := by decide +kernel
theorem dX12_layRow_90 : decode cX12_layRow 90 = .ok (.istore_n 2, 1) := by decide +kernel
theorem dX12_layRow_91 : decode cX12_layRow 91 = .ok (.aload_n 0, 1) := by decide +kernel
theorem dX12_layRow_92 : decode cX12_layRow 92 = .ok (.getfield 332, 3) := by decide +kernel
theorem dX12_layRow_95 : decode cX12_layRow 95 = .ok (.istore_n 3, 1) := by decide +kernel
theorem dX12_layRow_96 : decode cX12_layRow 96 = .ok (.goto (-84), 3) := by decide +kernel
theorem dX12_layRow_99 : decode cX12_layRow 99 = .ok (.return_, 1) := by decide +kernel
set_option maxRecDepth 20000 in
theorem ggX12_ofRow_X12_layBack : GoodIn wsX12_ofRow wsX12_layBack := goodIn_r _ [10, 1, 11, 12, 13, 14, 15, 9, 16, 2, 17, 18, 19, 20, 21, 22, 23, 24, 25, 26, 27, 28, 29, 30, 31, 32, 33, 34, 35, 36, 37, 38, 39, 40, 41, 42, 43, 44, 45, 46, 47, 48, 49, 50, 51, 52, 53, 54, 55, 56, 57, 58, 59, 60, 68, 69, 70, 71, 72, 73, 74, 75, 76, 77, 78, 79, 80, 81, 82, 83, 84, 85, 86, 87, 88, 89, 90, 91, 92, 93, 94, 95, 96, 97, 98, 99, 100, 101, 102, 103, 104, 105, 106, 107, 108, 109, 110, 111, 112, 113, 114, 115, 116, 117, 118, 119, 120, 121, 122, 123, 124, 125, 126, 127, 128] (by decide +kernel) (by decide +kernel)
set_option maxRecDepth 20000 in
theorem gX12_ofRow_X12_layBack : GoodIn wsX12_ofRow (wsV RX12 369 RX12 yX12_layBack wsX12_layBack) := goodIn_app (goodIn_of _ (by decide +kernel)) ggX12_ofRow_X12_layBack
set_option maxRecDepth 20000 in
theorem ggX12_ofRow_X12_layRow : GoodIn wsX12_ofRow wsX12_layRow := goodIn_r _ [64, 3, 2, 1, 4, 5, 25, 57, 58, 59, 9, 60, 26, 27, 28, 29, 30, 31, 32, 33, 34, 35, 36, 37, 38, 39, 40, 41, 42, 43, 44, 45, 46, 47, 68, 69, 70, 71, 72, 73, 74, 75, 76, 77, 78, 79, 80, 81, 82, 83, 84, 85, 86, 87, 88, 89, 90, 91, 92, 93, 94, 95, 96, 97, 98, 99, 100, 101, 102, 103, 104, 105, 106, 107, 108, 109, 110, 111, 112, 113, 114, 115, 116, 117, 118, 119, 120, 121, 122, 123, 124, 125, 126, 127, 128] (by decide +kernel) (by decide +kernel)
set_option maxRecDepth 20000 in
theorem gX12_ofRow_X12_layRow : GoodIn wsX12_ofRow (wsV RX12 372 RX12 yX12_layRow wsX12_layRow) := goodIn_app (goodIn_of _ (by decide +kernel)) ggX12_ofRow_X12_layRow
set_option maxRecDepth 20000 in
theorem ggX12_ofRow_X12_in : GoodIn wsX12_ofRow wsX12_in := goodIn_r _ [67] (by decide +kernel) (by decide +kernel)
set_option maxRecDepth 20000 in
theorem gX12_ofRow_X12_in : GoodIn wsX12_ofRow (va_wsS RX12 110 yX12_in wsX12_in) := goodIn_app (goodIn_of _ (by decide +kernel)) ggX12_ofRow_X12_in
set_option maxRecDepth 20000 in
theorem ggX12_ofRow_X12_has : GoodIn wsX12_ofRow wsX12_has := goodIn_r _ [34] (by decide +kernel) (by decide +kernel)
set_option maxRecDepth 20000 in
theorem gX12_ofRow_X12_has : GoodIn wsX12_ofRow (va_wsS RX12 102 yX12_has wsX12_has) := goodIn_app (goodIn_of _ (by decide +kernel)) ggX12_ofRow_X12_has
theorem dX12_ofRow_0 : decode cX12_ofRow 0 = .ok (.aload_n 0, 1) := by decide +kernel
theorem dX12_ofRow_1 : decode cX12_ofRow 1 = .ok (.iload_n 1, 1) := by decide +kernel
theorem dX12_ofRow_2 : decode cX12_ofRow 2 = .ok (.invokevirtual 369, 3) := by decide +kernel
theorem dX12_ofRow_5 : decode cX12_ofRow 5 = .ok (.aload_n 0, 1) := by decide +kernel
theorem dX12_ofRow_6 : decode cX12_ofRow 6 = .ok (.getfield 57, 3) := by decide +kernel
theorem dX12_ofRow_9 : decode cX12_ofRow 9 = .ok (.aload_n 0, 1) := by decide +kernel
theorem dX12_ofRow_10 : decode cX12_ofRow 10 = .ok (.getfield 252, 3) := by decide +kernel
theorem dX12_ofRow_13 : decode cX12_ofRow 13 = .ok (.iaload, 1) := by decide +kernel
theorem dX12_ofRow_14 : decode cX12_ofRow 14 = .ok (.iconst (-1), 1) := by decide +kernel
theorem dX12_ofRow_15 : decode cX12_ofRow 15 = .ok (.if_icmp .ne 5, 3) := by decide +kernel
theorem dX12_ofRow_18 : decode cX12_ofRow 18 = .ok (.iconst (-1), 1) := by decide +kernel
theorem dX12_ofRow_19 : decode cX12_ofRow 19 = .ok (.ireturn, 1) := by decide +kernel
theorem dX12_ofRow_20 : decode cX12_ofRow 20 = .ok (.aload_n 0, 1) := by decide +kernel
theorem dX12_ofRow_21 : decode cX12_ofRow 21 = .ok (.iload_n 1, 1) := by decide +kernel
theorem dX12_ofRow_22 : decode cX12_ofRow 22 = .ok (.invokevirtual 372, 3) := by decide +kernel
theorem dX12_ofRow_25 : decode cX12_ofRow 25 = .ok (.iload_n 2, 1) := by decide +kernel
theorem dX12_ofRow_26 : decode cX12_ofRow 26 = .ok (.bipush 10, 2) := by decide +kernel
theorem dX12_ofRow_28 : decode cX12_ofRow 28 = .ok (.if_icmp .lt 61, 3) := by decide +kernel
theorem dX12_ofRow_31 : decode cX12_ofRow 31 = .ok (.iload_n 2, 1) := by decide +kernel
theorem dX12_ofRow_32 : decode cX12_ofRow 32 = .ok (.bipush 50, 2) := by decide +kernel
theorem dX12_ofRow_34 : decode cX12_ofRow 34 = .ok (.if_icmp .ge 10, 3) := by decide +kernel
theorem dX12_ofRow_37 : decode cX12_ofRow 37 = .ok (.iload_n 2, 1) := by decide +kernel
theorem dX12_ofRow_38 : decode cX12_ofRow 38 = .ok (.bipush 10, 2) := by decide +kernel
theorem dX12_ofRow_40 : decode cX12_ofRow 40 = .ok (.isub, 1) := by decide +kernel
theorem dX12_ofRow_41 : decode cX12_ofRow 41 = .ok (.goto 7, 3) := by decide +kernel
theorem dX12_ofRow_44 : decode cX12_ofRow 44 = .ok (.iload_n 2, 1) := by decide +kernel
theorem dX12_ofRow_45 : decode cX12_ofRow 45 = .ok (.bipush 50, 2) := by decide +kernel
theorem dX12_ofRow_47 : decode cX12_ofRow 47 = .ok (.isub, 1) := by decide +kernel
theorem dX12_ofRow_48 : decode cX12_ofRow 48 = .ok (.istore_n 3, 1) := by decide +kernel
theorem dX12_ofRow_49 : decode cX12_ofRow 49 = .ok (.iload_n 3, 1) := by decide +kernel
theorem dX12_ofRow_50 : decode cX12_ofRow 50 = .ok (.iconst 0, 1) := by decide +kernel
theorem dX12_ofRow_51 : decode cX12_ofRow 51 = .ok (.aload_n 0, 1) := by decide +kernel
theorem dX12_ofRow_52 : decode cX12_ofRow 52 = .ok (.getfield 366, 3) := by decide +kernel
theorem dX12_ofRow_55 : decode cX12_ofRow 55 = .ok (.iconst 1, 1) := by decide +kernel
theorem dX12_ofRow_56 : decode cX12_ofRow 56 = .ok (.isub, 1) := by decide +kernel
theorem dX12_ofRow_57 : decode cX12_ofRow 57 = .ok (.invokestatic 110, 3) := by decide +kernel
theorem dX12_ofRow_60 : decode cX12_ofRow 60 = .ok (.ifCond .ne 7, 3) := by decide +kernel
theorem dX12_ofRow_63 : decode cX12_ofRow 63 = .ok (.iconst (-1), 1) := by decide +kernel
theorem dX12_ofRow_64 : decode cX12_ofRow 64 = .ok (.goto 24, 3) := by decide +kernel
theorem dX12_ofRow_67 : decode cX12_ofRow 67 = .ok (.iload_n 2, 1) := by decide +kernel
theorem dX12_ofRow_68 : decode cX12_ofRow 68 = .ok (.bipush 50, 2) := by decide +kernel
theorem dX12_ofRow_70 : decode cX12_ofRow 70 = .ok (.if_icmp .ge 12, 3) := by decide +kernel
theorem dX12_ofRow_73 : decode cX12_ofRow 73 = .ok (.aload_n 0, 1) := by decide +kernel
theorem dX12_ofRow_74 : decode cX12_ofRow 74 = .ok (.getfield 60, 3) := by decide +kernel
theorem dX12_ofRow_77 : decode cX12_ofRow 77 = .ok (.iload_n 3, 1) := by decide +kernel
theorem dX12_ofRow_78 : decode cX12_ofRow 78 = .ok (.iaload, 1) := by decide +kernel
theorem dX12_ofRow_79 : decode cX12_ofRow 79 = .ok (.goto 9, 3) := by decide +kernel
theorem dX12_ofRow_82 : decode cX12_ofRow 82 = .ok (.aload_n 0, 1) := by decide +kernel
theorem dX12_ofRow_83 : decode cX12_ofRow 83 = .ok (.getfield 63, 3) := by decide +kernel
theorem dX12_ofRow_86 : decode cX12_ofRow 86 = .ok (.iload_n 3, 1) := by decide +kernel
theorem dX12_ofRow_87 : decode cX12_ofRow 87 = .ok (.iaload, 1) := by decide +kernel
theorem dX12_ofRow_88 : decode cX12_ofRow 88 = .ok (.ireturn, 1) := by decide +kernel
theorem dX12_ofRow_89 : decode cX12_ofRow 89 = .ok (.iconst 0, 1) := by decide +kernel
theorem dX12_ofRow_90 : decode cX12_ofRow 90 = .ok (.istore_n 3, 1) := by decide +kernel
theorem dX12_ofRow_91 : decode cX12_ofRow 91 = .ok (.iconst 0, 1) := by decide +kernel
theorem dX12_ofRow_92 : decode cX12_ofRow 92 = .ok (.istore 4, 2) := by decide +kernel
theorem dX12_ofRow_94 : decode cX12_ofRow 94 = .ok (.iload 4, 2) := by decide +kernel
theorem dX12_ofRow_96 : decode cX12_ofRow 96 = .ok (.aload_n 0, 1) := by decide +kernel
theorem dX12_ofRow_97 : decode cX12_ofRow 97 = .ok (.getfield 366, 3) := by decide +kernel
theorem dX12_ofRow_100 : decode cX12_ofRow 100 = .ok (.if_icmp .ge 33, 3) := by decide +kernel
theorem dX12_ofRow_103 : decode cX12_ofRow 103 = .ok (.iload_n 3, 1) := by decide +kernel
theorem dX12_ofRow_104 : decode cX12_ofRow 104 = .ok (.aload_n 0, 1) := by decide +kernel
theorem dX12_ofRow_105 : decode cX12_ofRow 105 = .ok (.getfield 60, 3) := by decide +kernel
theorem dX12_ofRow_108 : decode cX12_ofRow 108 = .ok (.iload 4, 2) := by decide +kernel
theorem dX12_ofRow_110 : decode cX12_ofRow 110 = .ok (.iaload, 1) := by decide +kernel
theorem dX12_ofRow_111 : decode cX12_ofRow 111 = .ok (.iload_n 2, 1) := by decide +kernel
theorem dX12_ofRow_112 : decode cX12_ofRow 112 = .ok (.iconst 3, 1) := by decide +kernel
theorem dX12_ofRow_113 : decode cX12_ofRow 113 = .ok (.isub, 1) := by decide +kernel
theorem dX12_ofRow_114 : decode cX12_ofRow 114 = .ok (.invokestatic 102, 3) := by decide +kernel
theorem dX12_ofRow_117 : decode cX12_ofRow 117 = .ok (.ifCond .eq 7, 3) := by decide +kernel
theorem dX12_ofRow_120 : decode cX12_ofRow 120 = .ok (.iconst 1, 1) := by decide +kernel
theorem dX12_ofRow_121 : decode cX12_ofRow 121 = .ok (.goto 4, 3) := by decide +kernel
theorem dX12_ofRow_124 : decode cX12_ofRow 124 = .ok (.iconst 0, 1) := by decide +kernel
theorem dX12_ofRow_125 : decode cX12_ofRow 125 = .ok (.iadd, 1) := by decide +kernel
theorem dX12_ofRow_126 : decode cX12_ofRow 126 = .ok (.istore_n 3, 1) := by decide +kernel
theorem dX12_ofRow_127 : decode cX12_ofRow 127 = .ok (.iinc 4 1, 3) := by decide +kernel
theorem dX12_ofRow_130 : decode cX12_ofRow 130 = .ok (.goto (-36), 3) := by decide +kernel
theorem dX12_ofRow_133 : decode cX12_ofRow 133 = .ok (.iload_n 3, 1) := by decide +kernel
theorem dX12_ofRow_134 : decode cX12_ofRow 134 = .ok (.ireturn, 1) := by decide +kernel
set_option maxRecDepth 20000 in
theorem ggX12_tell_X12_in : GoodIn wsX12_tell wsX12_in := goodIn_r _ [5] (by decide +kernel) (by decide +kernel)
set_option maxRecDepth 20000 in
theorem gX12_tell_X12_in : GoodIn wsX12_tell (va_wsS RX12 110 yX12_in wsX12_in) := goodIn_app (goodIn_of _ (by decide +kernel)) ggX12_tell_X12_in
set_option maxRecDepth 20000 in
theorem ggX12_tell_X12_hand : GoodIn wsX12_tell wsX12_hand := goodIn_r _ [9, 10, 11, 12, 13, 14, 4, 15, 16, 2, 3, 5, 17, 18, 19, 20, 21, 22, 23, 24, 25, 26, 27, 28, 29, 30, 31, 32, 96, 97, 98, 99, 100, 101, 102, 103, 104, 105, 106, 107, 108, 109, 110, 111, 112, 113, 114, 115, 116, 117, 118, 119, 120, 121, 122, 123, 124, 125, 126, 127, 128, 129, 130, 131, 132, 133, 134, 135, 136, 137, 138, 139, 140, 141, 142, 143, 144, 145, 146, 147, 148, 149, 150, 151, 152, 153, 154, 155, 156] (by decide +kernel) (by decide +kernel)
set_option maxRecDepth 20000 in
theorem gX12_tell_X12_hand : GoodIn wsX12_tell (wsV RX12 265 RX12 yX12_hand wsX12_hand) := goodIn_app (goodIn_of _ (by decide +kernel)) ggX12_tell_X12_hand
set_option maxRecDepth 20000 in
theorem ggX12_tell_X12_layOut : GoodIn wsX12_tell wsX12_layOut := goodIn_r _ [36, 37, 27, 38, 39, 40, 4, 41, 42, 43, 44, 45, 26, 46, 47, 48, 49, 50, 51, 28, 30, 31, 32, 52, 53, 54, 55, 56, 57, 58, 17, 18, 19, 20, 21, 10, 59, 60, 61, 62, 96, 97, 98, 99, 100, 101, 102, 103, 104, 105, 106, 107, 108, 109, 110, 111, 112, 113, 114, 115, 116, 117, 118, 119, 120, 121, 122, 123, 124, 125, 126, 127, 128, 129, 130, 131, 132, 133, 134, 135, 136, 137, 138, 139, 140, 141, 142, 143, 144, 145, 146, 147, 148, 149, 150, 151, 152, 153, 154, 155, 156] (by decide +kernel) (by decide +kernel)
set_option maxRecDepth 20000 in
theorem gX12_tell_X12_layOut : GoodIn wsX12_tell (wsV RX12 353 RX12 yX12_layOut wsX12_layOut) := goodIn_app (goodIn_of _ (by decide +kernel)) ggX12_tell_X12_layOut
set_option maxRecDepth 20000 in
theorem ggX12_tell_X12_leastAt : GoodIn wsX12_tell wsX12_leastAt := goodIn_r _ [66, 37, 96, 97, 98, 99, 100, 101, 102, 103, 104, 105, 106, 107, 108, 109, 110, 111, 112, 113, 114, 115, 116, 117, 118, 119, 120, 121, 122, 123, 124, 125, 126, 127, 128, 129, 130, 131, 132, 133, 134, 135, 136, 137, 138, 139, 140, 141, 142, 143, 144, 145, 146, 147, 148, 149, 150, 151, 152, 153, 154, 155, 156] (by decide +kernel) (by decide +kernel)
set_option maxRecDepth 20000 in
theorem gX12_tell_X12_leastAt : GoodIn wsX12_tell (wsV RX12 350 RX12 yX12_leastAt wsX12_leastAt) := goodIn_app (goodIn_of _ (by decide +kernel)) ggX12_tell_X12_leastAt
set_option maxRecDepth 20000 in
theorem ggX12_tell_X12_isGlass : GoodIn wsX12_tell wsX12_isGlass := goodIn_r _ [70, 11, 2, 3, 4, 5, 96, 97, 98, 99, 100, 101, 102, 103, 104, 105, 106, 107, 108, 109, 110, 111, 112, 113, 114, 115, 116, 117, 118, 119, 120, 121, 122, 123, 124, 125, 126, 127, 128, 129, 130, 131, 132, 133, 134, 135, 136, 137, 138, 139, 140, 141, 142, 143, 144, 145, 146, 147, 148, 149, 150, 151, 152, 153, 154, 155, 156] (by decide +kernel) (by decide +kernel)
set_option maxRecDepth 20000 in
theorem gX12_tell_X12_isGlass : GoodIn wsX12_tell (wsV RX12 268 RX12 yX12_isGlass wsX12_isGlass) := goodIn_app (goodIn_of _ (by decide +kernel)) ggX12_tell_X12_isGlass
set_option maxRecDepth 20000 in
theorem ggX12_tell_X12_ofRow : GoodIn wsX12_tell wsX12_ofRow := goodIn_r _ [74, 37, 27, 75, 76, 77, 78, 79, 80, 4, 81, 82, 26, 33, 34, 35, 36, 38, 39, 40, 41, 42, 43, 44, 45, 46, 47, 48, 49, 50, 51, 28, 30, 31, 32, 52, 53, 54, 55, 56, 57, 58, 17, 18, 19, 20, 21, 10, 59, 60, 61, 62, 83, 84, 85, 86, 87, 88, 89, 90, 91, 92, 93, 94, 95, 2, 3, 5, 96, 97, 98, 99, 100, 101, 102, 103, 104, 105, 106, 107, 108, 109, 110, 111, 112, 113, 114, 115, 116, 117, 118, 119, 120, 121, 122, 123, 124, 125, 126, 127, 128, 129, 130, 131, 132, 133, 134, 135, 136, 137, 138, 139, 140, 141, 142, 143, 144, 145, 146, 147, 148, 149, 150, 151, 152, 153, 154, 155, 156] (by decide +kernel) (by decide +kernel)
set_option maxRecDepth 20000 in
theorem gX12_tell_X12_ofRow : GoodIn wsX12_tell (wsV RX12 375 RX12 yX12_ofRow wsX12_ofRow) := goodIn_app (goodIn_of _ (by decide +kernel)) ggX12_tell_X12_ofRow
theorem dX12_tell_0 : decode cX12_tell 0 = .ok (.aload_n 0, 1) := by decide +kernel
theorem dX12_tell_1 : decode cX12_tell 1 = .ok (.iconst 0, 1) := by decide +kernel
theorem dX12_tell_2 : decode cX12_tell 2 = .ok (.putfield 98, 3) := by decide +kernel
theorem dX12_tell_5 : decode cX12_tell 5 = .ok (.iload_n 2, 1) := by decide +kernel
theorem dX12_tell_6 : decode cX12_tell 6 = .ok (.iconst 1, 1) := by decide +kernel
theorem dX12_tell_7 : decode cX12_tell 7 = .ok (.bipush 30, 2) := by decide +kernel
theorem dX12_tell_9 : decode cX12_tell 9 = .ok (.invokestatic 110, 3) := by decide +kernel
theorem dX12_tell_12 : decode cX12_tell 12 = .ok (.ifCond .eq 11, 3) := by decide +kernel
theorem dX12_tell_15 : decode cX12_tell 15 = .ok (.aload_n 0, 1) := by decide +kernel
theorem dX12_tell_16 : decode cX12_tell 16 = .ok (.iload_n 1, 1) := by decide +kernel
theorem dX12_tell_17 : decode cX12_tell 17 = .ok (.invokevirtual 265, 3) := by decide +kernel
theorem dX12_tell_20 : decode cX12_tell 20 = .ok (.ifCond .ne 5, 3) := by decide +kernel
theorem dX12_tell_23 : decode cX12_tell 23 = .ok (.iconst (-1), 1) := by decide +kernel
theorem dX12_tell_24 : decode cX12_tell 24 = .ok (.ireturn, 1) := by decide +kernel
theorem dX12_tell_25 : decode cX12_tell 25 = .ok (.iload_n 3, 1) := by decide +kernel
theorem dX12_tell_26 : decode cX12_tell 26 = .ok (.iconst 0, 1) := by decide +kernel
theorem dX12_tell_27 : decode cX12_tell 27 = .ok (.iconst 2, 1) := by decide +kernel
theorem dX12_tell_28 : decode cX12_tell 28 = .ok (.invokestatic 110, 3) := by decide +kernel
theorem dX12_tell_31 : decode cX12_tell 31 = .ok (.ifCond .eq 14, 3) := by decide +kernel
theorem dX12_tell_34 : decode cX12_tell 34 = .ok (.aload_n 0, 1) := by decide +kernel
theorem dX12_tell_35 : decode cX12_tell 35 = .ok (.iload_n 3, 1) := by decide +kernel
theorem dX12_tell_36 : decode cX12_tell 36 = .ok (.invokevirtual 353, 3) := by decide +kernel
theorem dX12_tell_39 : decode cX12_tell 39 = .ok (.aload_n 0, 1) := by decide +kernel
theorem dX12_tell_40 : decode cX12_tell 40 = .ok (.iload_n 2, 1) := by decide +kernel
theorem dX12_tell_41 : decode cX12_tell 41 = .ok (.invokevirtual 350, 3) := by decide +kernel
theorem dX12_tell_44 : decode cX12_tell 44 = .ok (.ireturn, 1) := by decide +kernel
theorem dX12_tell_45 : decode cX12_tell 45 = .ok (.iload_n 3, 1) := by decide +kernel
theorem dX12_tell_46 : decode cX12_tell 46 = .ok (.bipush 10, 2) := by decide +kernel
theorem dX12_tell_48 : decode cX12_tell 48 = .ok (.bipush 39, 2) := by decide +kernel
theorem dX12_tell_50 : decode cX12_tell 50 = .ok (.invokestatic 110, 3) := by decide +kernel
theorem dX12_tell_53 : decode cX12_tell 53 = .ok (.ifCond .ne 14, 3) := by decide +kernel
theorem dX12_tell_56 : decode cX12_tell 56 = .ok (.iload_n 3, 1) := by decide +kernel
theorem dX12_tell_57 : decode cX12_tell 57 = .ok (.bipush 50, 2) := by decide +kernel
theorem dX12_tell_59 : decode cX12_tell 59 = .ok (.bipush 79, 2) := by decide +kernel
theorem dX12_tell_61 : decode cX12_tell 61 = .ok (.invokestatic 110, 3) := by decide +kernel
theorem dX12_tell_64 : decode cX12_tell 64 = .ok (.ifCond .eq 7, 3) := by decide +kernel
theorem dX12_tell_67 : decode cX12_tell 67 = .ok (.iconst 1, 1) := by decide +kernel
theorem dX12_tell_68 : decode cX12_tell 68 = .ok (.goto 4, 3) := by decide +kernel
theorem dX12_tell_71 : decode cX12_tell 71 = .ok (.iconst 0, 1) := by decide +kernel
theorem dX12_tell_72 : decode cX12_tell 72 = .ok (.istore 4, 2) := by decide +kernel
theorem dX12_tell_74 : decode cX12_tell 74 = .ok (.iload 4, 2) := by decide +kernel
theorem dX12_tell_76 : decode cX12_tell 76 = .ok (.ifCond .ne 23, 3) := by decide +kernel
theorem dX12_tell_79 : decode cX12_tell 79 = .ok (.iload_n 3, 1) := by decide +kernel
theorem dX12_tell_80 : decode cX12_tell 80 = .ok (.iconst 3, 1) := by decide +kernel
theorem dX12_tell_81 : decode cX12_tell 81 = .ok (.bipush 6, 2) := by decide +kernel
theorem dX12_tell_83 : decode cX12_tell 83 = .ok (.invokestatic 110, 3) := by decide +kernel
theorem dX12_tell_86 : decode cX12_tell 86 = .ok (.ifCond .eq 22, 3) := by decide +kernel
theorem dX12_tell_89 : decode cX12_tell 89 = .ok (.aload_n 0, 1) := by decide +kernel
theorem dX12_tell_90 : decode cX12_tell 90 = .ok (.iload_n 3, 1) := by decide +kernel
theorem dX12_tell_91 : decode cX12_tell 91 = .ok (.iconst 3, 1) := by decide +kernel
theorem dX12_tell_92 : decode cX12_tell 92 = .ok (.isub, 1) := by decide +kernel
theorem dX12_tell_93 : decode cX12_tell 93 = .ok (.invokevirtual 268, 3) := by decide +kernel
theorem dX12_tell_96 : decode cX12_tell 96 = .ok (.ifCond .eq 12, 3) := by decide +kernel
theorem dX12_tell_99 : decode cX12_tell 99 = .ok (.aload_n 0, 1) := by decide +kernel
theorem dX12_tell_100 : decode cX12_tell 100 = .ok (.iload_n 2, 1) := by decide +kernel
theorem dX12_tell_101 : decode cX12_tell 101 = .ok (.iload_n 3, 1) := by decide +kernel
theorem dX12_tell_102 : decode cX12_tell 102 = .ok (.invokevirtual 375, 3) := by decide +kernel
theorem dX12_tell_105 : decode cX12_tell 105 = .ok (.goto 4, 3) := by decide +kernel
theorem dX12_tell_108 : decode cX12_tell 108 = .ok (.iconst (-1), 1) := by decide +kernel
theorem dX12_tell_109 : decode cX12_tell 109 = .ok (.ireturn, 1) := by decide +kernel
set_option maxRecDepth 20000 in
theorem ggX12_purse_X12_in : GoodIn wsX12_purse wsX12_in := goodIn_r _ [5] (by decide +kernel) (by decide +kernel)
set_option maxRecDepth 20000 in
theorem gX12_purse_X12_in : GoodIn wsX12_purse (va_wsS RX12 110 yX12_in wsX12_in) := goodIn_app (goodIn_of _ (by decide +kernel)) ggX12_purse_X12_in
set_option maxRecDepth 20000 in
theorem ggX12_purse_X12_hand : GoodIn wsX12_purse wsX12_hand := goodIn_r _ [9, 10, 11, 12, 13, 14, 4, 15, 16, 2, 3, 5, 17, 18, 19, 20, 21, 22, 23, 24, 25, 26, 27, 28, 29, 30, 31, 32, 71, 72, 73, 74, 75, 76, 77, 78, 79, 80, 81, 82, 83, 84, 85, 86, 87, 88, 89, 90, 91, 92, 93, 94, 95, 96, 97, 98, 99, 100, 101, 102, 103, 104, 105, 106, 107, 108, 109, 110, 111, 112, 113, 114, 115, 116, 117, 118, 119, 120, 121, 122, 123, 124, 125, 126, 127, 128, 129, 130, 131] (by decide +kernel) (by decide +kernel)
set_option maxRecDepth 20000 in
theorem gX12_purse_X12_hand : GoodIn wsX12_purse (wsV RX12 265 RX12 yX12_hand wsX12_hand) := goodIn_app (goodIn_of _ (by decide +kernel)) ggX12_purse_X12_hand
set_option maxRecDepth 20000 in
theorem ggX12_purse_X12_layOut : GoodIn wsX12_purse wsX12_layOut := goodIn_r _ [36, 37, 27, 38, 39, 40, 4, 41, 42, 43, 44, 45, 26, 46, 47, 48, 49, 50, 51, 28, 30, 31, 32, 52, 53, 54, 55, 56, 57, 58, 17, 18, 19, 20, 21, 10, 59, 60, 61, 62, 71, 72, 73, 74, 75, 76, 77, 78, 79, 80, 81, 82, 83, 84, 85, 86, 87, 88, 89, 90, 91, 92, 93, 94, 95, 96, 97, 98, 99, 100, 101, 102, 103, 104, 105, 106, 107, 108, 109, 110, 111, 112, 113, 114, 115, 116, 117, 118, 119, 120, 121, 122, 123, 124, 125, 126, 127, 128, 129, 130, 131] (by decide +kernel) (by decide +kernel)
set_option maxRecDepth 20000 in
theorem gX12_purse_X12_layOut : GoodIn wsX12_purse (wsV RX12 353 RX12 yX12_layOut wsX12_layOut) := goodIn_app (goodIn_of _ (by decide +kernel)) ggX12_purse_X12_layOut
set_option maxRecDepth 20000 in
theorem ggX12_purse_X12_bitsOf : GoodIn wsX12_purse wsX12_bitsOf := goodIn_r _ [66, 67, 68, 69, 4, 70, 37, 2, 3, 5, 71, 72, 73, 74, 75, 76, 77, 78, 79, 80, 81, 82, 83, 84, 85, 86, 87, 88, 89, 90, 91, 92, 93, 94, 95, 96, 97, 98, 99, 100, 101, 102, 103, 104, 105, 106, 107, 108, 109, 110, 111, 112, 113, 114, 115, 116, 117, 118, 119, 120, 121, 122, 123, 124, 125, 126, 127, 128, 129, 130, 131] (by decide +kernel) (by decide +kernel)
set_option maxRecDepth 20000 in
theorem gX12_purse_X12_bitsOf : GoodIn wsX12_purse (wsV RX12 356 RX12 yX12_bitsOf wsX12_bitsOf) := goodIn_app (goodIn_of _ (by decide +kernel)) ggX12_purse_X12_bitsOf
theorem dX12_purse_0 : decode cX12_purse 0 = .ok (.aload_n 0, 1) := by decide +kernel
theorem dX12_purse_1 : decode cX12_purse 1 = .ok (.iconst 0, 1) := by decide +kernel
theorem dX12_purse_2 : decode cX12_purse 2 = .ok (.putfield 98, 3) := by decide +kernel
theorem dX12_purse_5 : decode cX12_purse 5 = .ok (.iload_n 2, 1) := by decide +kernel
theorem dX12_purse_6 : decode cX12_purse 6 = .ok (.iconst 0, 1) := by decide +kernel
theorem dX12_purse_7 : decode cX12_purse 7 = .ok (.bipush 99, 2) := by decide +kernel
theorem dX12_purse_9 : decode cX12_purse 9 = .ok (.invokestatic 110, 3) := by decide +kernel
theorem dX12_purse_12 : decode cX12_purse 12 = .ok (.ifCond .eq 11, 3) := by decide +kernel
theorem dX12_purse_15 : decode cX12_purse 15 = .ok (.aload_n 0, 1) := by decide +kernel
theorem dX12_purse_16 : decode cX12_purse 16 = .ok (.iload_n 1, 1) := by decide +kernel
theorem dX12_purse_17 : decode cX12_purse 17 = .ok (.invokevirtual 265, 3) := by decide +kernel
theorem dX12_purse_20 : decode cX12_purse 20 = .ok (.ifCond .ne 5, 3) := by decide +kernel
theorem dX12_purse_23 : decode cX12_purse 23 = .ok (.iconst (-1), 1) := by decide +kernel
theorem dX12_purse_24 : decode cX12_purse 24 = .ok (.ireturn, 1) := by decide +kernel
theorem dX12_purse_25 : decode cX12_purse 25 = .ok (.aload_n 0, 1) := by decide +kernel
theorem dX12_purse_26 : decode cX12_purse 26 = .ok (.iconst 2, 1) := by decide +kernel
theorem dX12_purse_27 : decode cX12_purse 27 = .ok (.invokevirtual 353, 3) := by decide +kernel
theorem dX12_purse_30 : decode cX12_purse 30 = .ok (.aload_n 0, 1) := by decide +kernel
theorem dX12_purse_31 : decode cX12_purse 31 = .ok (.iload_n 2, 1) := by decide +kernel
theorem dX12_purse_32 : decode cX12_purse 32 = .ok (.invokevirtual 356, 3) := by decide +kernel
theorem dX12_purse_35 : decode cX12_purse 35 = .ok (.ireturn, 1) := by decide +kernel
set_option maxRecDepth 20000 in
theorem ggX12_apart_X12_is : GoodIn wsX12_apart wsX12_is := goodIn_r _ [7, 8, 9, 10, 6, 11, 75, 76, 77, 78, 79, 80, 81, 82, 83, 84, 85, 86, 87, 88, 89, 90, 91, 92, 93, 94, 95, 96, 97, 98, 99, 100, 101, 102, 103, 104, 105, 106, 107, 108, 109, 110, 111, 112, 113, 114, 115, 116, 117, 118, 119, 120, 121, 122, 123, 124, 125, 126, 127, 128, 129, 130, 131, 132, 133, 134, 135] (by decide +kernel) (by decide +kernel)
set_option maxRecDepth 20000 in
theorem gX12_apart_X12_is : GoodIn wsX12_apart (wsV RX12 237 RX12 yX12_is wsX12_is) := goodIn_app (goodIn_of _ (by decide +kernel)) ggX12_apart_X12_is
set_option maxRecDepth 20000 in
theorem ggX12_apart_X12_hand : GoodIn wsX12_apart wsX12_hand := goodIn_r _ [15, 16, 17, 3, 4, 5, 6, 7, 8, 9, 10, 11, 18, 19, 20, 21, 22, 23, 24, 25, 26, 2, 27, 28, 29, 30, 31, 32, 75, 76, 77, 78, 79, 80, 81, 82, 83, 84, 85, 86, 87, 88, 89, 90, 91, 92, 93, 94, 95, 96, 97, 98, 99, 100, 101, 102, 103, 104, 105, 106, 107, 108, 109, 110, 111, 112, 113, 114, 115, 116, 117, 118, 119, 120, 121, 122, 123, 124, 125, 126, 127, 128, 129, 130, 131, 132, 133, 134, 135] (by decide +kernel) (by decide +kernel)
set_option maxRecDepth 20000 in
theorem gX12_apart_X12_hand : GoodIn wsX12_apart (wsV RX12 265 RX12 yX12_hand wsX12_hand) := goodIn_app (goodIn_of _ (by decide +kernel)) ggX12_apart_X12_hand
set_option maxRecDepth 20000 in
theorem ggX12_apart_X12_timesOf : GoodIn wsX12_apart wsX12_timesOf := goodIn_r _ [36, 37, 23, 24, 25, 6, 26, 2, 27, 28, 29, 30, 31, 32, 18, 19, 20, 21, 22, 16, 38, 39, 40, 41, 42, 43, 44, 45, 46, 47, 48, 49, 50, 51, 52, 53, 54, 55, 56, 57, 58, 59, 60, 61, 62, 63, 64, 65, 66, 67, 68, 69, 70, 71, 72, 73, 74, 9, 10, 11, 75, 76, 77, 78, 79, 80, 81, 82, 83, 84, 85, 86, 87, 88, 89, 90, 91, 92, 93, 94, 95, 96, 97, 98, 99, 100, 101, 102, 103, 104, 105, 106, 107, 108, 109, 110, 111, 112, 113, 114, 115, 116, 117, 118, 119, 120, 121, 122, 123, 124, 125, 126, 127, 128, 129, 130, 131, 132, 133, 134, 135] (by decide +kernel) (by decide +kernel)
set_option maxRecDepth 20000 in
theorem gX12_apart_X12_timesOf : GoodIn wsX12_apart (wsV RX12 378 RX12 yX12_timesOf wsX12_timesOf) := goodIn_app (goodIn_of _ (by decide +kernel)) ggX12_apart_X12_timesOf
theorem dX12_apart_0 : decode cX12_apart 0 = .ok (.aload_n 0, 1) := by decide +kernel
theorem dX12_apart_1 : decode cX12_apart 1 = .ok (.iconst 0, 1) := by decide +kernel
theorem dX12_apart_2 : decode cX12_apart 2 = .ok (.putfield 98, 3) := by decide +kernel
theorem dX12_apart_5 : decode cX12_apart 5 = .ok (.aload_n 0, 1) := by decide +kernel
theorem dX12_apart_6 : decode cX12_apart 6 = .ok (.iconst 0, 1) := by decide +kernel
theorem dX12_apart_7 : decode cX12_apart 7 = .ok (.iload_n 2, 1) := by decide +kernel
theorem dX12_apart_8 : decode cX12_apart 8 = .ok (.invokevirtual 237, 3) := by decide +kernel
theorem dX12_apart_11 : decode cX12_apart 11 = .ok (.ifCond .eq 11, 3) := by decide +kernel
theorem dX12_apart_14 : decode cX12_apart 14 = .ok (.aload_n 0, 1) := by decide +kernel
theorem dX12_apart_15 : decode cX12_apart 15 = .ok (.iload_n 1, 1) := by decide +kernel
theorem dX12_apart_16 : decode cX12_apart 16 = .ok (.invokevirtual 265, 3) := by decide +kernel
theorem dX12_apart_19 : decode cX12_apart 19 = .ok (.ifCond .ne 5, 3) := by decide +kernel
theorem dX12_apart_22 : decode cX12_apart 22 = .ok (.iconst (-1), 1) := by decide +kernel
theorem dX12_apart_23 : decode cX12_apart 23 = .ok (.ireturn, 1) := by decide +kernel
theorem dX12_apart_24 : decode cX12_apart 24 = .ok (.aload_n 0, 1) := by decide +kernel
theorem dX12_apart_25 : decode cX12_apart 25 = .ok (.aload_n 0, 1) := by decide +kernel
theorem dX12_apart_26 : decode cX12_apart 26 = .ok (.getfield 249, 3) := by decide +kernel
theorem dX12_apart_29 : decode cX12_apart 29 = .ok (.invokevirtual 378, 3) := by decide +kernel
theorem dX12_apart_32 : decode cX12_apart 32 = .ok (.istore_n 3, 1) := by decide +kernel
theorem dX12_apart_33 : decode cX12_apart 33 = .ok (.aload_n 0, 1) := by decide +kernel
theorem dX12_apart_34 : decode cX12_apart 34 = .ok (.iload_n 2, 1) := by decide +kernel
theorem dX12_apart_35 : decode cX12_apart 35 = .ok (.invokevirtual 265, 3) := by decide +kernel
theorem dX12_apart_38 : decode cX12_apart 38 = .ok (.pop, 1) := by decide +kernel
theorem dX12_apart_39 : decode cX12_apart 39 = .ok (.iload_n 3, 1) := by decide +kernel
theorem dX12_apart_40 : decode cX12_apart 40 = .ok (.aload_n 0, 1) := by decide +kernel
theorem dX12_apart_41 : decode cX12_apart 41 = .ok (.aload_n 0, 1) := by decide +kernel
theorem dX12_apart_42 : decode cX12_apart 42 = .ok (.getfield 249, 3) := by decide +kernel
theorem dX12_apart_45 : decode cX12_apart 45 = .ok (.invokevirtual 378, 3) := by decide +kernel
theorem dX12_apart_48 : decode cX12_apart 48 = .ok (.iconst (-1), 1) := by decide +kernel
theorem dX12_apart_49 : decode cX12_apart 49 = .ok (.ixor, 1) := by decide +kernel
theorem dX12_apart_50 : decode cX12_apart 50 = .ok (.iand, 1) := by decide +kernel
theorem dX12_apart_51 : decode cX12_apart 51 = .ok (.ireturn, 1) := by decide +kernel
set_option maxRecDepth 20000 in
theorem ggX12_span_X12_in : GoodIn wsX12_span wsX12_in := goodIn_r _ [7] (by decide +kernel) (by decide +kernel)
set_option maxRecDepth 20000 in
theorem gX12_span_X12_in : GoodIn wsX12_span (va_wsS RX12 110 yX12_in wsX12_in) := goodIn_app (goodIn_of _ (by decide +kernel)) ggX12_span_X12_in
set_option maxRecDepth 20000 in
theorem ggX12_span_X12_hand : GoodIn wsX12_span wsX12_hand := goodIn_r _ [11, 12, 13, 14, 15, 16, 6, 17, 18, 4, 5, 7, 19, 20, 21, 22, 23, 24, 25, 26, 27, 28, 29, 30, 31, 32, 33, 34, 73, 74, 75, 76, 77, 78, 79, 80, 81, 82, 83, 84, 85, 86, 87, 88, 89, 90, 91, 92, 93, 94, 95, 96, 97, 98, 99, 100, 101, 102, 103, 104, 105, 106, 107, 108, 109, 110, 111, 112, 113, 114, 115, 116, 117, 118, 119, 120, 121, 122, 123, 124, 125, 126, 127, 128, 129, 130, 131, 132, 133] (by decide +kernel) (by decide +kernel)
set_option maxRecDepth 20000 in
theorem gX12_span_X12_hand : GoodIn wsX12_span (wsV RX12 265 RX12 yX12_hand wsX12_hand) := goodIn_app (goodIn_of _ (by decide +kernel)) ggX12_span_X12_hand
set_option maxRecDepth 20000 in
theorem ggX12_span_X12_layOut : GoodIn wsX12_span wsX12_layOut := goodIn_r _ [38, 2, 29, 39, 40, 41, 6, 42, 43, 44, 45, 46, 28, 47, 48, 49, 50, 51, 52, 30, 32, 33, 34, 53, 54, 55, 56, 57, 58, 59, 19, 20, 21, 22, 23, 12, 60, 61, 62, 63, 73, 74, 75, 76, 77, 78, 79, 80, 81, 82, 83, 84, 85, 86, 87, 88, 89, 90, 91, 92, 93, 94, 95, 96, 97, 98, 99, 100, 101, 102, 103, 104, 105, 106, 107, 108, 109, 110, 111, 112, 113, 114, 115, 116, 117, 118, 119, 120, 121, 122, 123, 124, 125, 126, 127, 128, 129, 130, 131, 132, 133] (by decide +kernel) (by decide +kernel)
set_option maxRecDepth 20000 in
theorem gX12_span_X12_layOut : GoodIn wsX12_span (wsV RX12 353 RX12 yX12_layOut wsX12_layOut) := goodIn_app (goodIn_of _ (by decide +kernel)) ggX12_span_X12_layOut
set_option maxRecDepth 20000 in
theorem ggX12_span_X12_keepAll : GoodIn wsX12_span wsX12_keepAll := goodIn_r _ [67, 68, 3, 2, 73, 74, 75, 76, 77, 78, 79, 80, 81, 82, 83, 84, 85, 86, 87, 88, 89, 90, 91, 92, 93, 94, 95, 96, 97, 98, 99, 100, 101, 102, 103, 104, 105, 106, 107, 108, 109, 110, 111, 112, 113, 114, 115, 116, 117, 118, 119, 120, 121, 122, 123, 124, 125, 126, 127, 128, 129, 130, 131, 132, 133] (by decide +kernel) (by decide +kernel)
set_option maxRecDepth 20000 in
theorem gX12_span_X12_keepAll : GoodIn wsX12_span (wsV RX12 359 RX12 yX12_keepAll wsX12_keepAll) := goodIn_app (goodIn_of _ (by decide +kernel)) ggX12_span_X12_keepAll
set_option maxRecDepth 20000 in
theorem ggX12_span_X12_clear : GoodIn wsX12_span wsX12_clear := goodIn_r _ [42, 2, 73, 74, 75, 76, 77, 78, 79, 80, 81, 82, 83, 84, 85, 86, 87, 88, 89, 90, 91, 92, 93, 94, 95, 96, 97, 98, 99, 100, 101, 102, 103, 104, 105, 106, 107, 108, 109, 110, 111, 112, 113, 114, 115, 116, 117, 118, 119, 120, 121, 122, 123, 124, 125, 126, 127, 128, 129, 130, 131, 132, 133] (by decide +kernel) (by decide +kernel)
set_option maxRecDepth 20000 in
theorem gX12_span_X12_clear : GoodIn wsX12_span (wsV RX12 344 RX12 yX12_clear wsX12_clear) := goodIn_app (goodIn_of _ (by decide +kernel)) ggX12_span_X12_clear
set_option maxRecDepth 20000 in
theorem ggX12_span_X12_goOn : GoodIn wsX12_span wsX12_goOn := goodIn_r _ [46, 2, 28, 47, 48, 49, 50, 6, 51, 52, 30, 32, 33, 34, 53, 54, 55, 56, 57, 58, 59, 19, 20, 21, 22, 23, 12, 60, 61, 62, 63, 73, 74, 75, 76, 77, 78, 79, 80, 81, 82, 83, 84, 85, 86, 87, 88, 89, 90, 91, 92, 93, 94, 95, 96, 97, 98, 99, 100, 101, 102, 103, 104, 105, 106, 107, 108, 109, 110, 111, 112, 113, 114, 115, 116, 117, 118, 119, 120, 121, 122, 123, 124, 125, 126, 127, 128, 129, 130, 131, 132, 133] (by decide +kernel) (by decide +kernel)
set_option maxRecDepth 20000 in
theorem gX12_span_X12_goOn : GoodIn wsX12_span (wsV RX12 347 RX12 yX12_goOn wsX12_goOn) := goodIn_app (goodIn_of _ (by decide +kernel)) ggX12_span_X12_goOn
set_option maxRecDepth 20000 in
theorem ggX12_span_X12_leastAt : GoodIn wsX12_span wsX12_leastAt := goodIn_r _ [72, 2, 73, 74, 75, 76, 77, 78, 79, 80, 81, 82, 83, 84, 85, 86, 87, 88, 89, 90, 91, 92, 93, 94, 95, 96, 97, 98, 99, 100, 101, 102, 103, 104, 105, 106, 107, 108, 109, 110, 111, 112, 113, 114, 115, 116, 117, 118, 119, 120, 121, 122, 123, 124, 125, 126, 127, 128, 129, 130, 131, 132, 133] (by decide +kernel) (by decide +kernel)
set_option maxRecDepth 20000 in
theorem gX12_span_X12_leastAt : GoodIn wsX12_span (wsV RX12 350 RX12 yX12_leastAt wsX12_leastAt) := goodIn_app (goodIn_of _ (by decide +kernel)) ggX12_span_X12_leastAt
theorem dX12_span_0 : decode cX12_span 0 = .ok (.aload_n 0, 1) := by decide +kernel
theorem dX12_span_1 : decode cX12_span 1 = .ok (.iconst 0, 1) := by decide +kernel
theorem dX12_span_2 : decode cX12_span 2 = .ok (.putfield 98, 3) := by decide +kernel
theorem dX12_span_5 : decode cX12_span 5 = .ok (.iload_n 2, 1) := by decide +kernel
theorem dX12_span_6 : decode cX12_span 6 = .ok (.iconst 1, 1) := by decide +kernel
theorem dX12_span_7 : decode cX12_span 7 = .ok (.bipush 30, 2) := by decide +kernel
theorem dX12_span_9 : decode cX12_span 9 = .ok (.invokestatic 110, 3) := by decide +kernel
theorem dX12_span_12 : decode cX12_span 12 = .ok (.ifCond .eq 11, 3) := by decide +kernel
theorem dX12_span_15 : decode cX12_span 15 = .ok (.aload_n 0, 1) := by decide +kernel
theorem dX12_span_16 : decode cX12_span 16 = .ok (.iload_n 1, 1) := by decide +kernel
theorem dX12_span_17 : decode cX12_span 17 = .ok (.invokevirtual 265, 3) := by decide +kernel
theorem dX12_span_20 : decode cX12_span 20 = .ok (.ifCond .ne 5, 3) := by decide +kernel
theorem dX12_span_23 : decode cX12_span 23 = .ok (.iconst (-1), 1) := by decide +kernel
theorem dX12_span_24 : decode cX12_span 24 = .ok (.ireturn, 1) := by decide +kernel
theorem dX12_span_25 : decode cX12_span 25 = .ok (.aload_n 0, 1) := by decide +kernel
theorem dX12_span_26 : decode cX12_span 26 = .ok (.iconst 0, 1) := by decide +kernel
theorem dX12_span_27 : decode cX12_span 27 = .ok (.invokevirtual 353, 3) := by decide +kernel
theorem dX12_span_30 : decode cX12_span 30 = .ok (.aload_n 0, 1) := by decide +kernel
theorem dX12_span_31 : decode cX12_span 31 = .ok (.invokevirtual 359, 3) := by decide +kernel
theorem dX12_span_34 : decode cX12_span 34 = .ok (.iconst 0, 1) := by decide +kernel
theorem dX12_span_35 : decode cX12_span 35 = .ok (.istore_n 3, 1) := by decide +kernel
theorem dX12_span_36 : decode cX12_span 36 = .ok (.iload_n 3, 1) := by decide +kernel
theorem dX12_span_37 : decode cX12_span 37 = .ok (.iload_n 2, 1) := by decide +kernel
theorem dX12_span_38 : decode cX12_span 38 = .ok (.iadd, 1) := by decide +kernel
theorem dX12_span_39 : decode cX12_span 39 = .ok (.bipush 30, 2) := by decide +kernel
theorem dX12_span_41 : decode cX12_span 41 = .ok (.if_icmp .gt 93, 3) := by decide +kernel
theorem dX12_span_44 : decode cX12_span 44 = .ok (.aload_n 0, 1) := by decide +kernel
theorem dX12_span_45 : decode cX12_span 45 = .ok (.iload_n 3, 1) := by decide +kernel
theorem dX12_span_46 : decode cX12_span 46 = .ok (.iload_n 3, 1) := by decide +kernel
theorem dX12_span_47 : decode cX12_span 47 = .ok (.iload_n 2, 1) := by decide +kernel
theorem dX12_span_48 : decode cX12_span 48 = .ok (.iadd, 1) := by decide +kernel
theorem dX12_span_49 : decode cX12_span 49 = .ok (.invokevirtual 344, 3) := by decide +kernel
theorem dX12_span_52 : decode cX12_span 52 = .ok (.iconst 0, 1) := by decide +kernel
theorem dX12_span_53 : decode cX12_span 53 = .ok (.istore 4, 2) := by decide +kernel
theorem dX12_span_55 : decode cX12_span 55 = .ok (.iload 4, 2) := by decide +kernel
theorem dX12_span_57 : decode cX12_span 57 = .ok (.sipush 4096, 3) := by decide +kernel
theorem dX12_span_60 : decode cX12_span 60 = .ok (.if_icmp .ge 44, 3) := by decide +kernel
theorem dX12_span_63 : decode cX12_span 63 = .ok (.aload_n 0, 1) := by decide +kernel
theorem dX12_span_64 : decode cX12_span 64 = .ok (.getfield 57, 3) := by decide +kernel
theorem dX12_span_67 : decode cX12_span 67 = .ok (.sipush 4096, 3) := by decide +kernel
theorem dX12_span_70 : decode cX12_span 70 = .ok (.iload_n 3, 1) := by decide +kernel
theorem dX12_span_71 : decode cX12_span 71 = .ok (.imul, 1) := by decide +kernel
theorem dX12_span_72 : decode cX12_span 72 = .ok (.iload 4, 2) := by decide +kernel
theorem dX12_span_74 : decode cX12_span 74 = .ok (.iadd, 1) := by decide +kernel
theorem dX12_span_75 : decode cX12_span 75 = .ok (.aload_n 0, 1) := by decide +kernel
theorem dX12_span_76 : decode cX12_span 76 = .ok (.getfield 66, 3) := by decide +kernel
theorem dX12_span_79 : decode cX12_span 79 = .ok (.sipush 4096, 3) := by decide +kernel
theorem dX12_span_82 : decode cX12_span 82 = .ok (.iload_n 3, 1) := by decide +kernel
theorem dX12_span_83 : decode cX12_span 83 = .ok (.imul, 1) := by decide +kernel
theorem dX12_span_84 : decode cX12_span 84 = .ok (.iload 4, 2) := by decide +kernel
theorem dX12_span_86 : decode cX12_span 86 = .ok (.iadd, 1) := by decide +kernel
theorem dX12_span_87 : decode cX12_span 87 = .ok (.iaload, 1) := by decide +kernel
theorem dX12_span_88 : decode cX12_span 88 = .ok (.iconst (-1), 1) := by decide +kernel
theorem dX12_span_89 : decode cX12_span 89 = .ok (.if_icmp .ne 7, 3) := by decide +kernel
theorem dX12_span_92 : decode cX12_span 92 = .ok (.iconst (-1), 1) := by decide +kernel
theorem dX12_span_93 : decode cX12_span 93 = .ok (.goto 4, 3) := by decide +kernel
theorem dX12_span_96 : decode cX12_span 96 = .ok (.iconst 0, 1) := by decide +kernel
theorem dX12_span_97 : decode cX12_span 97 = .ok (.iastore, 1) := by decide +kernel
theorem dX12_span_98 : decode cX12_span 98 = .ok (.iinc 4 1, 3) := by decide +kernel
theorem dX12_span_101 : decode cX12_span 101 = .ok (.goto (-46), 3) := by decide +kernel
theorem dX12_span_104 : decode cX12_span 104 = .ok (.aload_n 0, 1) := by decide +kernel
theorem dX12_span_105 : decode cX12_span 105 = .ok (.iload_n 3, 1) := by decide +kernel
theorem dX12_span_106 : decode cX12_span 106 = .ok (.iload_n 3, 1) := by decide +kernel
theorem dX12_span_107 : decode cX12_span 107 = .ok (.iload_n 2, 1) := by decide +kernel
theorem dX12_span_108 : decode cX12_span 108 = .ok (.iadd, 1) := by decide +kernel
theorem dX12_span_109 : decode cX12_span 109 = .ok (.iconst 0, 1) := by decide +kernel
theorem dX12_span_110 : decode cX12_span 110 = .ok (.invokevirtual 347, 3) := by decide +kernel
theorem dX12_span_113 : decode cX12_span 113 = .ok (.aload_n 0, 1) := by decide +kernel
theorem dX12_span_114 : decode cX12_span 114 = .ok (.iload_n 3, 1) := by decide +kernel
theorem dX12_span_115 : decode cX12_span 115 = .ok (.iload_n 2, 1) := by decide +kernel
theorem dX12_span_116 : decode cX12_span 116 = .ok (.iadd, 1) := by decide +kernel
theorem dX12_span_117 : decode cX12_span 117 = .ok (.invokevirtual 350, 3) := by decide +kernel
theorem dX12_span_120 : decode cX12_span 120 = .ok (.iconst (-1), 1) := by decide +kernel
theorem dX12_span_121 : decode cX12_span 121 = .ok (.if_icmp .eq 7, 3) := by decide +kernel
theorem dX12_span_124 : decode cX12_span 124 = .ok (.iload_n 3, 1) := by decide +kernel
theorem dX12_span_125 : decode cX12_span 125 = .ok (.iload_n 2, 1) := by decide +kernel
theorem dX12_span_126 : decode cX12_span 126 = .ok (.iadd, 1) := by decide +kernel
theorem dX12_span_127 : decode cX12_span 127 = .ok (.ireturn, 1) := by decide +kernel
theorem dX12_span_128 : decode cX12_span 128 = .ok (.iinc 3 1, 3) := by decide +kernel
theorem dX12_span_131 : decode cX12_span 131 = .ok (.goto (-95), 3) := by decide +kernel
theorem dX12_span_134 : decode cX12_span 134 = .ok (.iconst (-1), 1) := by decide +kernel
theorem dX12_span_135 : decode cX12_span 135 = .ok (.ireturn, 1) := by decide +kernel
theorem dX12_keepAll_0 : decode cX12_keepAll 0 = .ok (.iconst 0, 1) := by decide +kernel
theorem dX12_keepAll_1 : decode cX12_keepAll 1 = .ok (.istore_n 1, 1) := by decide +kernel
theorem dX12_keepAll_2 : decode cX12_keepAll 2 = .ok (.iload_n 1, 1) := by decide +kernel
theorem dX12_keepAll_3 : decode cX12_keepAll 3 = .ok (.ldc 56, 2) := by decide +kernel
theorem dX12_keepAll_5 : decode cX12_keepAll 5 = .ok (.if_icmp .ge 21, 3) := by decide +kernel
theorem dX12_keepAll_8 : decode cX12_keepAll 8 = .ok (.aload_n 0, 1) := by decide +kernel
theorem dX12_keepAll_9 : decode cX12_keepAll 9 = .ok (.getfield 66, 3) := by decide +kernel
theorem dX12_keepAll_12 : decode cX12_keepAll 12 = .ok (.iload_n 1, 1) := by decide +kernel
theorem dX12_keepAll_13 : decode cX12_keepAll 13 = .ok (.aload_n 0, 1) := by decide +kernel
theorem dX12_keepAll_14 : decode cX12_keepAll 14 = .ok (.getfield 57, 3) := by decide +kernel
theorem dX12_keepAll_17 : decode cX12_keepAll 17 = .ok (.iload_n 1, 1) := by decide +kernel
theorem dX12_keepAll_18 : decode cX12_keepAll 18 = .ok (.iaload, 1) := by decide +kernel
theorem dX12_keepAll_19 : decode cX12_keepAll 19 = .ok (.iastore, 1) := by decide +kernel
theorem dX12_keepAll_20 : decode cX12_keepAll 20 = .ok (.iinc 1 1, 3) := by decide +kernel
theorem dX12_keepAll_23 : decode cX12_keepAll 23 = .ok (.goto (-21), 3) := by decide +kernel
theorem dX12_keepAll_26 : decode cX12_keepAll 26 = .ok (.return_, 1) := by decide +kernel
set_option maxRecDepth 20000 in
theorem ggX12_fewest_X12_ones : GoodIn wsX12_fewest wsX12_ones := goodIn_r _ [5, 6, 7, 4, 8] (by decide +kernel) (by decide +kernel)
set_option maxRecDepth 20000 in
theorem gX12_fewest_X12_ones : GoodIn wsX12_fewest (va_wsS RX12 304 yX12_ones wsX12_ones) := goodIn_app (goodIn_of _ (by decide +kernel)) ggX12_fewest_X12_ones
set_option maxRecDepth 20000 in
theorem ggX12_fewest_X12_timesOf : GoodIn wsX12_fewest wsX12_timesOf := goodIn_r _ [12, 13, 14, 15, 16, 4, 17, 1, 18, 19, 20, 6, 7, 8, 21, 22, 23, 24, 25, 26, 27, 28, 29, 30, 31, 32, 33, 34, 35, 36, 37, 38, 39, 40, 41, 42, 43, 44, 45, 46, 47, 48, 49, 50, 51, 52, 53, 54, 55, 56, 57, 58, 59, 60, 61, 62, 63, 64, 65, 66, 67, 68, 69, 70, 71, 72, 73, 74, 75, 76, 77, 78, 79, 80, 81, 82, 83, 84, 85, 86, 87, 88, 89, 90, 91, 92, 93, 94, 95, 96, 97, 98, 99, 100, 101, 102, 103, 104, 105, 106, 107, 108, 109, 110, 111, 112, 113, 114, 115, 116, 117, 118, 119, 120, 121, 122, 123, 124, 125, 126, 127] (by decide +kernel) (by decide +kernel)
set_option maxRecDepth 20000 in
theorem gX12_fewest_X12_timesOf : GoodIn wsX12_fewest (wsV RX12 378 RX12 yX12_timesOf wsX12_timesOf) := goodIn_app (goodIn_of _ (by decide +kernel)) ggX12_fewest_X12_timesOf
set_option maxRecDepth 20000 in
theorem ggX12_fewest_X12_has : GoodIn wsX12_fewest wsX12_has := goodIn_r _ [8] (by decide +kernel) (by decide +kernel)
set_option maxRecDepth 20000 in
theorem gX12_fewest_X12_has : GoodIn wsX12_fewest (va_wsS RX12 102 yX12_has wsX12_has) := goodIn_app (goodIn_of _ (by decide +kernel)) ggX12_fewest_X12_has
theorem dX12_fewest_0 : decode cX12_fewest 0 = .ok (.iconst (-1), 1) := by decide +kernel
theorem dX12_fewest_1 : decode cX12_fewest 1 = .ok (.istore_n 2, 1) := by decide +kernel
theorem dX12_fewest_2 : decode cX12_fewest 2 = .ok (.aload_n 0, 1) := by decide +kernel
theorem dX12_fewest_3 : decode cX12_fewest 3 = .ok (.getfield 249, 3) := by decide +kernel
theorem dX12_fewest_6 : decode cX12_fewest 6 = .ok (.istore_n 3, 1) := by decide +kernel
theorem dX12_fewest_7 : decode cX12_fewest 7 = .ok (.iconst 0, 1) := by decide +kernel
theorem dX12_fewest_8 : decode cX12_fewest 8 = .ok (.istore 4, 2) := by decide +kernel
theorem dX12_fewest_10 : decode cX12_fewest 10 = .ok (.iload 4, 2) := by decide +kernel
theorem dX12_fewest_12 : decode cX12_fewest 12 = .ok (.iload_n 3, 1) := by decide +kernel
theorem dX12_fewest_13 : decode cX12_fewest 13 = .ok (.if_icmp .gt 58, 3) := by decide +kernel
theorem dX12_fewest_16 : decode cX12_fewest 16 = .ok (.iload_n 2, 1) := by decide +kernel
theorem dX12_fewest_17 : decode cX12_fewest 17 = .ok (.iconst (-1), 1) := by decide +kernel
theorem dX12_fewest_18 : decode cX12_fewest 18 = .ok (.if_icmp .eq 15, 3) := by decide +kernel
theorem dX12_fewest_21 : decode cX12_fewest 21 = .ok (.iload 4, 2) := by decide +kernel
theorem dX12_fewest_23 : decode cX12_fewest 23 = .ok (.invokestatic 304, 3) := by decide +kernel
theorem dX12_fewest_26 : decode cX12_fewest 26 = .ok (.iload_n 2, 1) := by decide +kernel
theorem dX12_fewest_27 : decode cX12_fewest 27 = .ok (.invokestatic 304, 3) := by decide +kernel
theorem dX12_fewest_30 : decode cX12_fewest 30 = .ok (.if_icmp .ge 7, 3) := by decide +kernel
theorem dX12_fewest_33 : decode cX12_fewest 33 = .ok (.iconst 1, 1) := by decide +kernel
theorem dX12_fewest_34 : decode cX12_fewest 34 = .ok (.goto 4, 3) := by decide +kernel
theorem dX12_fewest_37 : decode cX12_fewest 37 = .ok (.iconst 0, 1) := by decide +kernel
theorem dX12_fewest_38 : decode cX12_fewest 38 = .ok (.istore 5, 2) := by decide +kernel
theorem dX12_fewest_40 : decode cX12_fewest 40 = .ok (.iload 5, 2) := by decide +kernel
theorem dX12_fewest_42 : decode cX12_fewest 42 = .ok (.ifCond .eq 21, 3) := by decide +kernel
theorem dX12_fewest_45 : decode cX12_fewest 45 = .ok (.aload_n 0, 1) := by decide +kernel
theorem dX12_fewest_46 : decode cX12_fewest 46 = .ok (.iload 4, 2) := by decide +kernel
theorem dX12_fewest_48 : decode cX12_fewest 48 = .ok (.invokevirtual 378, 3) := by decide +kernel
theorem dX12_fewest_51 : decode cX12_fewest 51 = .ok (.iload_n 1, 1) := by decide +kernel
theorem dX12_fewest_52 : decode cX12_fewest 52 = .ok (.invokestatic 102, 3) := by decide +kernel
theorem dX12_fewest_55 : decode cX12_fewest 55 = .ok (.ifCond .eq 8, 3) := by decide +kernel
theorem dX12_fewest_58 : decode cX12_fewest 58 = .ok (.iload 4, 2) := by decide +kernel
theorem dX12_fewest_60 : decode cX12_fewest 60 = .ok (.goto 4, 3) := by decide +kernel
theorem dX12_fewest_63 : decode cX12_fewest 63 = .ok (.iload_n 2, 1) := by decide +kernel
theorem dX12_fewest_64 : decode cX12_fewest 64 = .ok (.istore_n 2, 1) := by decide +kernel
theorem dX12_fewest_65 : decode cX12_fewest 65 = .ok (.iinc 4 1, 3) := by decide +kernel
theorem dX12_fewest_68 : decode cX12_fewest 68 = .ok (.goto (-58), 3) := by decide +kernel
theorem dX12_fewest_71 : decode cX12_fewest 71 = .ok (.iload_n 2, 1) := by decide +kernel
theorem dX12_fewest_72 : decode cX12_fewest 72 = .ok (.ireturn, 1) := by decide +kernel
set_option maxRecDepth 20000 in
theorem ggX12_need_X12_in : GoodIn wsX12_need wsX12_in := goodIn_r _ [5] (by decide +kernel) (by decide +kernel)
set_option maxRecDepth 20000 in
theorem gX12_need_X12_in : GoodIn wsX12_need (va_wsS RX12 110 yX12_in wsX12_in) := goodIn_app (goodIn_of _ (by decide +kernel)) ggX12_need_X12_in
set_option maxRecDepth 20000 in
theorem ggX12_need_X12_hand : GoodIn wsX12_need wsX12_hand := goodIn_r _ [9, 10, 11, 12, 13, 14, 4, 15, 16, 2, 3, 5, 17, 18, 19, 20, 21, 22, 23, 24, 25, 26, 27, 28, 29, 30, 31, 32, 82, 83, 84, 85, 86, 87, 88, 89, 90, 91, 92, 93, 94, 95, 96, 97, 98, 99, 100, 101, 102, 103, 104, 105, 106, 107, 108, 109, 110, 111, 112, 113, 114, 115, 116, 117, 118, 119, 120, 121, 122, 123, 124, 125, 126, 127, 128, 129, 130, 131, 132, 133, 134, 135, 136, 137, 138, 139, 140, 141, 142] (by decide +kernel) (by decide +kernel)
set_option maxRecDepth 20000 in
theorem gX12_need_X12_hand : GoodIn wsX12_need (wsV RX12 265 RX12 yX12_hand wsX12_hand) := goodIn_app (goodIn_of _ (by decide +kernel)) ggX12_need_X12_hand
set_option maxRecDepth 20000 in
theorem ggX12_need_X12_fewest : GoodIn wsX12_need wsX12_fewest := goodIn_r _ [36, 26, 37, 38, 4, 39, 30, 31, 32, 40, 41, 42, 43, 44, 22, 23, 24, 25, 27, 28, 29, 17, 18, 19, 20, 21, 10, 45, 46, 47, 48, 49, 50, 51, 52, 53, 54, 55, 56, 57, 58, 59, 60, 61, 62, 63, 64, 65, 66, 67, 68, 69, 70, 71, 72, 73, 74, 75, 76, 77, 78, 79, 80, 81, 2, 3, 5, 82, 83, 84, 85, 86, 87, 88, 89, 90, 91, 92, 93, 94, 95, 96, 97, 98, 99, 100, 101, 102, 103, 104, 105, 106, 107, 108, 109, 110, 111, 112, 113, 114, 115, 116, 117, 118, 119, 120, 121, 122, 123, 124, 125, 126, 127, 128, 129, 130, 131, 132, 133, 134, 135, 136, 137, 138, 139, 140, 141, 142] (by decide +kernel) (by decide +kernel)
set_option maxRecDepth 20000 in
theorem gX12_need_X12_fewest : GoodIn wsX12_need (wsV RX12 381 RX12 yX12_fewest wsX12_fewest) := goodIn_app (goodIn_of _ (by decide +kernel)) ggX12_need_X12_fewest
set_option maxRecDepth 20000 in
theorem ggX12_need_X12_ones : GoodIn wsX12_need wsX12_ones := goodIn_r _ [39, 30, 31, 4, 32] (by decide +kernel) (by decide +kernel)
set_option maxRecDepth 20000 in
theorem gX12_need_X12_ones : GoodIn wsX12_need (va_wsS RX12 304 yX12_ones wsX12_ones) := goodIn_app (goodIn_of _ (by decide +kernel)) ggX12_need_X12_ones
theorem dX12_need_0 : decode cX12_need 0 = .ok (.aload_n 0, 1) := by decide +kernel
theorem dX12_need_1 : decode cX12_need 1 = .ok (.iconst 0, 1) := by decide +kernel
theorem dX12_need_2 : decode cX12_need 2 = .ok (.putfield 98, 3) := by decide +kernel
theorem dX12_need_5 : decode cX12_need 5 = .ok (.iload_n 2, 1) := by decide +kernel
theorem dX12_need_6 : decode cX12_need 6 = .ok (.iconst 1, 1) := by decide +kernel
theorem dX12_need_7 : decode cX12_need 7 = .ok (.bipush 30, 2) := by decide +kernel
theorem dX12_need_9 : decode cX12_need 9 = .ok (.invokestatic 110, 3) := by decide +kernel
theorem dX12_need_12 : decode cX12_need 12 = .ok (.ifCond .eq 11, 3) := by decide +kernel
theorem dX12_need_15 : decode cX12_need 15 = .ok (.aload_n 0, 1) := by decide +kernel
theorem dX12_need_16 : decode cX12_need 16 = .ok (.iload_n 1, 1) := by decide +kernel
theorem dX12_need_17 : decode cX12_need 17 = .ok (.invokevirtual 265, 3) := by decide +kernel
theorem dX12_need_20 : decode cX12_need 20 = .ok (.ifCond .ne 5, 3) := by decide +kernel
theorem dX12_need_23 : decode cX12_need 23 = .ok (.iconst (-1), 1) := by decide +kernel
theorem dX12_need_24 : decode cX12_need 24 = .ok (.ireturn, 1) := by decide +kernel
theorem dX12_need_25 : decode cX12_need 25 = .ok (.aload_n 0, 1) := by decide +kernel
