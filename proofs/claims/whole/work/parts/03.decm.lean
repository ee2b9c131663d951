theorem dX8_init_0 : decode cX8_init 0 = .ok (.aload_n 0, 1) := by decide +kernel
theorem dX8_init_1 : decode cX8_init 1 = .ok (.invokespecial 1, 3) := by decide +kernel
theorem dX8_init_4 : decode cX8_init 4 = .ok (.aload_n 0, 1) := by decide +kernel
theorem dX8_init_5 : decode cX8_init 5 = .ok (.bipush 8, 2) := by decide +kernel
theorem dX8_init_7 : decode cX8_init 7 = .ok (.newarray .int, 2) := by decide +kernel
theorem dX8_init_9 : decode cX8_init 9 = .ok (.putfield 7, 3) := by decide +kernel
theorem dX8_init_12 : decode cX8_init 12 = .ok (.aload_n 0, 1) := by decide +kernel
theorem dX8_init_13 : decode cX8_init 13 = .ok (.bipush 8, 2) := by decide +kernel
theorem dX8_init_15 : decode cX8_init 15 = .ok (.newarray .int, 2) := by decide +kernel
theorem dX8_init_17 : decode cX8_init 17 = .ok (.putfield 13, 3) := by decide +kernel
theorem dX8_init_20 : decode cX8_init 20 = .ok (.aload_n 0, 1) := by decide +kernel
theorem dX8_init_21 : decode cX8_init 21 = .ok (.sipush 1280, 3) := by decide +kernel
theorem dX8_init_24 : decode cX8_init 24 = .ok (.newarray .long, 2) := by decide +kernel
theorem dX8_init_26 : decode cX8_init 26 = .ok (.putfield 16, 3) := by decide +kernel
theorem dX8_init_29 : decode cX8_init 29 = .ok (.aload_n 0, 1) := by decide +kernel
theorem dX8_init_30 : decode cX8_init 30 = .ok (.bipush 6, 2) := by decide +kernel
theorem dX8_init_32 : decode cX8_init 32 = .ok (.newarray .int, 2) := by decide +kernel
theorem dX8_init_34 : decode cX8_init 34 = .ok (.putfield 20, 3) := by decide +kernel
theorem dX8_init_37 : decode cX8_init 37 = .ok (.aload_n 0, 1) := by decide +kernel
theorem dX8_init_38 : decode cX8_init 38 = .ok (.bipush 72, 2) := by decide +kernel
theorem dX8_init_40 : decode cX8_init 40 = .ok (.newarray .int, 2) := by decide +kernel
theorem dX8_init_42 : decode cX8_init 42 = .ok (.putfield 23, 3) := by decide +kernel
theorem dX8_init_45 : decode cX8_init 45 = .ok (.aload_n 0, 1) := by decide +kernel
theorem dX8_init_46 : decode cX8_init 46 = .ok (.bipush 8, 2) := by decide +kernel
theorem dX8_init_48 : decode cX8_init 48 = .ok (.newarray .int, 2) := by decide +kernel
theorem dX8_init_50 : decode cX8_init 50 = .ok (.putfield 26, 3) := by decide +kernel
theorem dX8_init_53 : decode cX8_init 53 = .ok (.aload_n 0, 1) := by decide +kernel
theorem dX8_init_54 : decode cX8_init 54 = .ok (.bipush 8, 2) := by decide +kernel
theorem dX8_init_56 : decode cX8_init 56 = .ok (.newarray .int, 2) := by decide +kernel
theorem dX8_init_58 : decode cX8_init 58 = .ok (.putfield 29, 3) := by decide +kernel
theorem dX8_init_61 : decode cX8_init 61 = .ok (.aload_n 0, 1) := by decide +kernel
theorem dX8_init_62 : decode cX8_init 62 = .ok (.bipush 8, 2) := by decide +kernel
theorem dX8_init_64 : decode cX8_init 64 = .ok (.newarray .int, 2) := by decide +kernel
theorem dX8_init_66 : decode cX8_init 66 = .ok (.putfield 32, 3) := by decide +kernel
theorem dX8_init_69 : decode cX8_init 69 = .ok (.aload_n 0, 1) := by decide +kernel
theorem dX8_init_70 : decode cX8_init 70 = .ok (.bipush 96, 2) := by decide +kernel
theorem dX8_init_72 : decode cX8_init 72 = .ok (.newarray .int, 2) := by decide +kernel
theorem dX8_init_74 : decode cX8_init 74 = .ok (.putfield 35, 3) := by decide +kernel
theorem dX8_init_77 : decode cX8_init 77 = .ok (.aload_n 0, 1) := by decide +kernel
theorem dX8_init_78 : decode cX8_init 78 = .ok (.bipush 96, 2) := by decide +kernel
theorem dX8_init_80 : decode cX8_init 80 = .ok (.newarray .int, 2) := by decide +kernel
theorem dX8_init_82 : decode cX8_init 82 = .ok (.putfield 38, 3) := by decide +kernel
theorem dX8_init_85 : decode cX8_init 85 = .ok (.aload_n 0, 1) := by decide +kernel
theorem dX8_init_86 : decode cX8_init 86 = .ok (.bipush 8, 2) := by decide +kernel
theorem dX8_init_88 : decode cX8_init 88 = .ok (.newarray .int, 2) := by decide +kernel
theorem dX8_init_90 : decode cX8_init 90 = .ok (.putfield 41, 3) := by decide +kernel
theorem dX8_init_93 : decode cX8_init 93 = .ok (.aload_n 0, 1) := by decide +kernel
theorem dX8_init_94 : decode cX8_init 94 = .ok (.bipush 20, 2) := by decide +kernel
theorem dX8_init_96 : decode cX8_init 96 = .ok (.newarray .int, 2) := by decide +kernel
theorem dX8_init_98 : decode cX8_init 98 = .ok (.putfield 44, 3) := by decide +kernel
theorem dX8_init_101 : decode cX8_init 101 = .ok (.aload_n 0, 1) := by decide +kernel
theorem dX8_init_102 : decode cX8_init 102 = .ok (.sipush 298, 3) := by decide +kernel
theorem dX8_init_105 : decode cX8_init 105 = .ok (.newarray .int, 2) := by decide +kernel
theorem dX8_init_107 : decode cX8_init 107 = .ok (.putfield 47, 3) := by decide +kernel
theorem dX8_init_110 : decode cX8_init 110 = .ok (.aload_n 0, 1) := by decide +kernel
theorem dX8_init_111 : decode cX8_init 111 = .ok (.sipush 298, 3) := by decide +kernel
theorem dX8_init_114 : decode cX8_init 114 = .ok (.newarray .int, 2) := by decide +kernel
theorem dX8_init_116 : decode cX8_init 116 = .ok (.putfield 50, 3) := by decide +kernel
theorem dX8_init_119 : decode cX8_init 119 = .ok (.aload_n 0, 1) := by decide +kernel
theorem dX8_init_120 : decode cX8_init 120 = .ok (.sipush 298, 3) := by decide +kernel
theorem dX8_init_123 : decode cX8_init 123 = .ok (.newarray .int, 2) := by decide +kernel
theorem dX8_init_125 : decode cX8_init 125 = .ok (.putfield 53, 3) := by decide +kernel
theorem dX8_init_128 : decode cX8_init 128 = .ok (.aload_n 0, 1) := by decide +kernel
theorem dX8_init_129 : decode cX8_init 129 = .ok (.bipush 6, 2) := by decide +kernel
theorem dX8_init_131 : decode cX8_init 131 = .ok (.newarray .int, 2) := by decide +kernel
theorem dX8_init_133 : decode cX8_init 133 = .ok (.putfield 56, 3) := by decide +kernel
theorem dX8_init_136 : decode cX8_init 136 = .ok (.aload_n 0, 1) := by decide +kernel
theorem dX8_init_137 : decode cX8_init 137 = .ok (.iconst 4, 1) := by decide +kernel
theorem dX8_init_138 : decode cX8_init 138 = .ok (.newarray .int, 2) := by decide +kernel
theorem dX8_init_140 : decode cX8_init 140 = .ok (.putfield 59, 3) := by decide +kernel
theorem dX8_init_143 : decode cX8_init 143 = .ok (.aload_n 0, 1) := by decide +kernel
theorem dX8_init_144 : decode cX8_init 144 = .ok (.iconst 4, 1) := by decide +kernel
theorem dX8_init_145 : decode cX8_init 145 = .ok (.newarray .int, 2) := by decide +kernel
theorem dX8_init_147 : decode cX8_init 147 = .ok (.putfield 62, 3) := by decide +kernel
theorem dX8_init_150 : decode cX8_init 150 = .ok (.iconst 0, 1) := by decide +kernel
theorem dX8_init_151 : decode cX8_init 151 = .ok (.istore_n 1, 1) := by decide +kernel
theorem dX8_init_152 : decode cX8_init 152 = .ok (.iload_n 1, 1) := by decide +kernel
theorem dX8_init_153 : decode cX8_init 153 = .ok (.bipush 8, 2) := by decide +kernel
theorem dX8_init_155 : decode cX8_init 155 = .ok (.if_icmp .ge 16, 3) := by decide +kernel
theorem dX8_init_158 : decode cX8_init 158 = .ok (.aload_n 0, 1) := by decide +kernel
theorem dX8_init_159 : decode cX8_init 159 = .ok (.getfield 7, 3) := by decide +kernel
theorem dX8_init_162 : decode cX8_init 162 = .ok (.iload_n 1, 1) := by decide +kernel
theorem dX8_init_163 : decode cX8_init 163 = .ok (.iconst (-1), 1) := by decide +kernel
theorem dX8_init_164 : decode cX8_init 164 = .ok (.iastore, 1) := by decide +kernel
theorem dX8_init_165 : decode cX8_init 165 = .ok (.iinc 1 1, 3) := by decide +kernel
theorem dX8_init_168 : decode cX8_init 168 = .ok (.goto (-16), 3) := by decide +kernel
theorem dX8_init_171 : decode cX8_init 171 = .ok (.aload_n 0, 1) := by decide +kernel
theorem dX8_init_172 : decode cX8_init 172 = .ok (.iconst 1, 1) := by decide +kernel
theorem dX8_init_173 : decode cX8_init 173 = .ok (.putfield 65, 3) := by decide +kernel
theorem dX8_init_176 : decode cX8_init 176 = .ok (.aload_n 0, 1) := by decide +kernel
theorem dX8_init_177 : decode cX8_init 177 = .ok (.iconst (-1), 1) := by decide +kernel
theorem dX8_init_178 : decode cX8_init 178 = .ok (.putfield 69, 3) := by decide +kernel
theorem dX8_init_181 : decode cX8_init 181 = .ok (.return_, 1) := by decide +kernel
theorem dX8_no_0 : decode cX8_no 0 = .ok (.aload_n 0, 1) := by decide +kernel
theorem dX8_no_1 : decode cX8_no 1 = .ok (.getfield 41, 3) := by decide +kernel
theorem dX8_no_4 : decode cX8_no 4 = .ok (.iload_n 1, 1) := by decide +kernel
theorem dX8_no_5 : decode cX8_no 5 = .ok (.ineg, 1) := by decide +kernel
theorem dX8_no_6 : decode cX8_no 6 = .ok (.dup2, 1) := by decide +kernel
theorem dX8_no_7 : decode cX8_no 7 = .ok (.iaload, 1) := by decide +kernel
theorem dX8_no_8 : decode cX8_no 8 = .ok (.iconst 1, 1) := by decide +kernel
theorem dX8_no_9 : decode cX8_no 9 = .ok (.iadd, 1) := by decide +kernel
theorem dX8_no_10 : decode cX8_no 10 = .ok (.iastore, 1) := by decide +kernel
theorem dX8_no_11 : decode cX8_no 11 = .ok (.iload_n 1, 1) := by decide +kernel
theorem dX8_no_12 : decode cX8_no 12 = .ok (.ireturn, 1) := by decide +kernel
theorem dX8_no10_0 : decode cX8_no10 0 = .ok (.aload_n 0, 1) := by decide +kernel
theorem dX8_no10_1 : decode cX8_no10 1 = .ok (.iload_n 1, 1) := by decide +kernel
theorem dX8_no10_2 : decode cX8_no10 2 = .ok (.invokevirtual 72, 3) := by decide +kernel
theorem dX8_no10_5 : decode cX8_no10 5 = .ok (.bipush 10, 2) := by decide +kernel
theorem dX8_no10_7 : decode cX8_no10 7 = .ok (.isub, 1) := by decide +kernel
theorem dX8_no10_8 : decode cX8_no10 8 = .ok (.ireturn, 1) := by decide +kernel
theorem dX8_within_0 : decode cX8_within 0 = .ok (.iload_n 0, 1) := by decide +kernel
theorem dX8_within_1 : decode cX8_within 1 = .ok (.iload_n 1, 1) := by decide +kernel
theorem dX8_within_2 : decode cX8_within 2 = .ok (.if_icmp .lt 12, 3) := by decide +kernel
theorem dX8_within_5 : decode cX8_within 5 = .ok (.iload_n 0, 1) := by decide +kernel
theorem dX8_within_6 : decode cX8_within 6 = .ok (.iload_n 2, 1) := by decide +kernel
theorem dX8_within_7 : decode cX8_within 7 = .ok (.if_icmp .gt 7, 3) := by decide +kernel
theorem dX8_within_10 : decode cX8_within 10 = .ok (.iconst 1, 1) := by decide +kernel
theorem dX8_within_11 : decode cX8_within 11 = .ok (.goto 4, 3) := by decide +kernel
theorem dX8_within_14 : decode cX8_within 14 = .ok (.iconst 0, 1) := by decide +kernel
theorem dX8_within_15 : decode cX8_within 15 = .ok (.ireturn, 1) := by decide +kernel
theorem dX8_has_0 : decode cX8_has 0 = .ok (.iload_n 0, 1) := by decide +kernel
theorem dX8_has_1 : decode cX8_has 1 = .ok (.iload_n 1, 1) := by decide +kernel
theorem dX8_has_2 : decode cX8_has 2 = .ok (.ishr, 1) := by decide +kernel
theorem dX8_has_3 : decode cX8_has 3 = .ok (.iconst 1, 1) := by decide +kernel
theorem dX8_has_4 : decode cX8_has 4 = .ok (.iand, 1) := by decide +kernel
theorem dX8_has_5 : decode cX8_has 5 = .ok (.iconst 1, 1) := by decide +kernel
theorem dX8_has_6 : decode cX8_has 6 = .ok (.if_icmp .ne 7, 3) := by decide +kernel
theorem dX8_has_9 : decode cX8_has 9 = .ok (.iconst 1, 1) := by decide +kernel
theorem dX8_has_10 : decode cX8_has 10 = .ok (.goto 4, 3) := by decide +kernel
theorem dX8_has_13 : decode cX8_has 13 = .ok (.iconst 0, 1) := by decide +kernel
theorem dX8_has_14 : decode cX8_has 14 = .ok (.ireturn, 1) := by decide +kernel
theorem dX8_isGarment_0 : decode cX8_isGarment 0 = .ok (.iload_n 1, 1) := by decide +kernel
theorem dX8_isGarment_1 : decode cX8_isGarment 1 = .ok (.iconst 0, 1) := by decide +kernel
theorem dX8_isGarment_2 : decode cX8_isGarment 2 = .ok (.aload_n 0, 1) := by decide +kernel
theorem dX8_isGarment_3 : decode cX8_isGarment 3 = .ok (.getfield 76, 3) := by decide +kernel
theorem dX8_isGarment_6 : decode cX8_isGarment 6 = .ok (.iconst 1, 1) := by decide +kernel
theorem dX8_isGarment_7 : decode cX8_isGarment 7 = .ok (.isub, 1) := by decide +kernel
theorem dX8_isGarment_8 : decode cX8_isGarment 8 = .ok (.invokestatic 79, 3) := by decide +kernel
theorem dX8_isGarment_11 : decode cX8_isGarment 11 = .ok (.ireturn, 1) := by decide +kernel
theorem dX8_isOne_0 : decode cX8_isOne 0 = .ok (.iload_n 1, 1) := by decide +kernel
theorem dX8_isOne_1 : decode cX8_isOne 1 = .ok (.iconst 0, 1) := by decide +kernel
theorem dX8_isOne_2 : decode cX8_isOne 2 = .ok (.aload_n 0, 1) := by decide +kernel
theorem dX8_isOne_3 : decode cX8_isOne 3 = .ok (.getfield 83, 3) := by decide +kernel
theorem dX8_isOne_6 : decode cX8_isOne 6 = .ok (.iconst 1, 1) := by decide +kernel
theorem dX8_isOne_7 : decode cX8_isOne 7 = .ok (.isub, 1) := by decide +kernel
theorem dX8_isOne_8 : decode cX8_isOne 8 = .ok (.invokestatic 79, 3) := by decide +kernel
theorem dX8_isOne_11 : decode cX8_isOne 11 = .ok (.ireturn, 1) := by decide +kernel
theorem dX8_isHour_0 : decode cX8_isHour 0 = .ok (.iload_n 0, 1) := by decide +kernel
theorem dX8_isHour_1 : decode cX8_isHour 1 = .ok (.iconst 0, 1) := by decide +kernel
theorem dX8_isHour_2 : decode cX8_isHour 2 = .ok (.bipush 11, 2) := by decide +kernel
theorem dX8_isHour_4 : decode cX8_isHour 4 = .ok (.invokestatic 79, 3) := by decide +kernel
theorem dX8_isHour_7 : decode cX8_isHour 7 = .ok (.ireturn, 1) := by decide +kernel
theorem dX8_isDigit_0 : decode cX8_isDigit 0 = .ok (.iload_n 0, 1) := by decide +kernel
theorem dX8_isDigit_1 : decode cX8_isDigit 1 = .ok (.iconst 0, 1) := by decide +kernel
theorem dX8_isDigit_2 : decode cX8_isDigit 2 = .ok (.bipush 9, 2) := by decide +kernel
theorem dX8_isDigit_4 : decode cX8_isDigit 4 = .ok (.invokestatic 79, 3) := by decide +kernel
theorem dX8_isDigit_7 : decode cX8_isDigit 7 = .ok (.ireturn, 1) := by decide +kernel
theorem dX8_isRow_0 : decode cX8_isRow 0 = .ok (.aload_n 0, 1) := by decide +kernel
theorem dX8_isRow_1 : decode cX8_isRow 1 = .ok (.getfield 7, 3) := by decide +kernel
theorem dX8_isRow_4 : decode cX8_isRow 4 = .ok (.iload_n 1, 1) := by decide +kernel
theorem dX8_isRow_5 : decode cX8_isRow 5 = .ok (.iaload, 1) := by decide +kernel
theorem dX8_isRow_6 : decode cX8_isRow 6 = .ok (.bipush 100, 2) := by decide +kernel
theorem dX8_isRow_8 : decode cX8_isRow 8 = .ok (.if_icmp .lt 7, 3) := by decide +kernel
theorem dX8_isRow_11 : decode cX8_isRow 11 = .ok (.iconst 1, 1) := by decide +kernel
theorem dX8_isRow_12 : decode cX8_isRow 12 = .ok (.goto 4, 3) := by decide +kernel
theorem dX8_isRow_15 : decode cX8_isRow 15 = .ok (.iconst 0, 1) := by decide +kernel
theorem dX8_isRow_16 : decode cX8_isRow 16 = .ok (.ireturn, 1) := by decide +kernel
theorem dX8_row_0 : decode cX8_row 0 = .ok (.iload_n 1, 1) := by decide +kernel
theorem dX8_row_1 : decode cX8_row 1 = .ok (.iconst 0, 1) := by decide +kernel
theorem dX8_row_2 : decode cX8_row 2 = .ok (.bipush 7, 2) := by decide +kernel
theorem dX8_row_4 : decode cX8_row 4 = .ok (.invokestatic 79, 3) := by decide +kernel
theorem dX8_row_7 : decode cX8_row 7 = .ok (.ifCond .ne 9, 3) := by decide +kernel
theorem dX8_row_10 : decode cX8_row 10 = .ok (.aload_n 0, 1) := by decide +kernel
theorem dX8_row_11 : decode cX8_row 11 = .ok (.iconst (-1), 1) := by decide +kernel
theorem dX8_row_12 : decode cX8_row 12 = .ok (.invokevirtual 72, 3) := by decide +kernel
theorem dX8_row_15 : decode cX8_row 15 = .ok (.ireturn, 1) := by decide +kernel
theorem dX8_row_16 : decode cX8_row 16 = .ok (.iload_n 3, 1) := by decide +kernel
theorem dX8_row_17 : decode cX8_row 17 = .ok (.ifCond .ge 10, 3) := by decide +kernel
theorem dX8_row_20 : decode cX8_row 20 = .ok (.aload_n 0, 1) := by decide +kernel
theorem dX8_row_21 : decode cX8_row 21 = .ok (.bipush (-4), 2) := by decide +kernel
theorem dX8_row_23 : decode cX8_row 23 = .ok (.invokevirtual 72, 3) := by decide +kernel
theorem dX8_row_26 : decode cX8_row 26 = .ok (.ireturn, 1) := by decide +kernel
theorem dX8_row_27 : decode cX8_row 27 = .ok (.iload_n 2, 1) := by decide +kernel
theorem dX8_row_28 : decode cX8_row 28 = .ok (.iconst 0, 1) := by decide +kernel
theorem dX8_row_29 : decode cX8_row 29 = .ok (.iconst 3, 1) := by decide +kernel
theorem dX8_row_30 : decode cX8_row 30 = .ok (.invokestatic 79, 3) := by decide +kernel
theorem dX8_row_33 : decode cX8_row 33 = .ok (.ifCond .ne 10, 3) := by decide +kernel
theorem dX8_row_36 : decode cX8_row 36 = .ok (.aload_n 0, 1) := by decide +kernel
theorem dX8_row_37 : decode cX8_row 37 = .ok (.bipush (-6), 2) := by decide +kernel
theorem dX8_row_39 : decode cX8_row 39 = .ok (.invokevirtual 72, 3) := by decide +kernel
theorem dX8_row_42 : decode cX8_row 42 = .ok (.ireturn, 1) := by decide +kernel
theorem dX8_row_43 : decode cX8_row 43 = .ok (.iload_n 3, 1) := by decide +kernel
theorem dX8_row_44 : decode cX8_row 44 = .ok (.sipush 160, 3) := by decide +kernel
theorem dX8_row_47 : decode cX8_row 47 = .ok (.if_icmp .le 10, 3) := by decide +kernel
theorem dX8_row_50 : decode cX8_row 50 = .ok (.aload_n 0, 1) := by decide +kernel
theorem dX8_row_51 : decode cX8_row 51 = .ok (.bipush (-7), 2) := by decide +kernel
theorem dX8_row_53 : decode cX8_row 53 = .ok (.invokevirtual 72, 3) := by decide +kernel
theorem dX8_row_56 : decode cX8_row 56 = .ok (.ireturn, 1) := by decide +kernel
theorem dX8_row_57 : decode cX8_row 57 = .ok (.aload_n 0, 1) := by decide +kernel
theorem dX8_row_58 : decode cX8_row 58 = .ok (.getfield 7, 3) := by decide +kernel
theorem dX8_row_61 : decode cX8_row 61 = .ok (.iload_n 1, 1) := by decide +kernel
theorem dX8_row_62 : decode cX8_row 62 = .ok (.bipush 100, 2) := by decide +kernel
theorem dX8_row_64 : decode cX8_row 64 = .ok (.iload_n 2, 1) := by decide +kernel
theorem dX8_row_65 : decode cX8_row 65 = .ok (.iadd, 1) := by decide +kernel
theorem dX8_row_66 : decode cX8_row 66 = .ok (.iastore, 1) := by decide +kernel
theorem dX8_row_67 : decode cX8_row 67 = .ok (.aload_n 0, 1) := by decide +kernel
theorem dX8_row_68 : decode cX8_row 68 = .ok (.getfield 13, 3) := by decide +kernel
theorem dX8_row_71 : decode cX8_row 71 = .ok (.iload_n 1, 1) := by decide +kernel
theorem dX8_row_72 : decode cX8_row 72 = .ok (.iload_n 3, 1) := by decide +kernel
theorem dX8_row_73 : decode cX8_row 73 = .ok (.iastore, 1) := by decide +kernel
theorem dX8_row_74 : decode cX8_row 74 = .ok (.iconst 0, 1) := by decide +kernel
theorem dX8_row_75 : decode cX8_row 75 = .ok (.istore 4, 2) := by decide +kernel
theorem dX8_row_77 : decode cX8_row 77 = .ok (.iload 4, 2) := by decide +kernel
theorem dX8_row_79 : decode cX8_row 79 = .ok (.sipush 160, 3) := by decide +kernel
theorem dX8_row_82 : decode cX8_row 82 = .ok (.if_icmp .ge 23, 3) := by decide +kernel
theorem dX8_row_85 : decode cX8_row 85 = .ok (.aload_n 0, 1) := by decide +kernel
theorem dX8_row_86 : decode cX8_row 86 = .ok (.getfield 16, 3) := by decide +kernel
theorem dX8_row_89 : decode cX8_row 89 = .ok (.sipush 160, 3) := by decide +kernel
theorem dX8_row_92 : decode cX8_row 92 = .ok (.iload_n 1, 1) := by decide +kernel
theorem dX8_row_93 : decode cX8_row 93 = .ok (.imul, 1) := by decide +kernel
theorem dX8_row_94 : decode cX8_row 94 = .ok (.iload 4, 2) := by decide +kernel
theorem dX8_row_96 : decode cX8_row 96 = .ok (.iadd, 1) := by decide +kernel
theorem dX8_row_97 : decode cX8_row 97 = .ok (.lconst 0, 1) := by decide +kernel
theorem dX8_row_98 : decode cX8_row 98 = .ok (.lastore, 1) := by decide +kernel
theorem dX8_row_99 : decode cX8_row 99 = .ok (.iinc 4 1, 3) := by decide +kernel
theorem dX8_row_102 : decode cX8_row 102 = .ok (.goto (-25), 3) := by decide +kernel
theorem dX8_row_105 : decode cX8_row 105 = .ok (.iconst 1, 1) := by decide +kernel
theorem dX8_row_106 : decode cX8_row 106 = .ok (.ireturn, 1) := by decide +kernel
theorem dX8_noRow_0 : decode cX8_noRow 0 = .ok (.iload_n 1, 1) := by decide +kernel
theorem dX8_noRow_1 : decode cX8_noRow 1 = .ok (.iconst 0, 1) := by decide +kernel
theorem dX8_noRow_2 : decode cX8_noRow 2 = .ok (.bipush 7, 2) := by decide +kernel
theorem dX8_noRow_4 : decode cX8_noRow 4 = .ok (.invokestatic 79, 3) := by decide +kernel
theorem dX8_noRow_7 : decode cX8_noRow 7 = .ok (.ifCond .ne 5, 3) := by decide +kernel
theorem dX8_noRow_10 : decode cX8_noRow 10 = .ok (.iconst (-1), 1) := by decide +kernel
theorem dX8_noRow_11 : decode cX8_noRow 11 = .ok (.ireturn, 1) := by decide +kernel
theorem dX8_noRow_12 : decode cX8_noRow 12 = .ok (.aload_n 0, 1) := by decide +kernel
theorem dX8_noRow_13 : decode cX8_noRow 13 = .ok (.getfield 7, 3) := by decide +kernel
theorem dX8_noRow_16 : decode cX8_noRow 16 = .ok (.iload_n 1, 1) := by decide +kernel
theorem dX8_noRow_17 : decode cX8_noRow 17 = .ok (.iaload, 1) := by decide +kernel
theorem dX8_noRow_18 : decode cX8_noRow 18 = .ok (.ifCond .lt 14, 3) := by decide +kernel
theorem dX8_noRow_21 : decode cX8_noRow 21 = .ok (.aload_n 0, 1) := by decide +kernel
theorem dX8_noRow_22 : decode cX8_noRow 22 = .ok (.iload_n 1, 1) := by decide +kernel
theorem dX8_noRow_23 : decode cX8_noRow 23 = .ok (.invokevirtual 86, 3) := by decide +kernel
theorem dX8_noRow_26 : decode cX8_noRow 26 = .ok (.ifCond .ne 6, 3) := by decide +kernel
theorem dX8_noRow_29 : decode cX8_noRow 29 = .ok (.bipush (-2), 2) := by decide +kernel
theorem dX8_noRow_31 : decode cX8_noRow 31 = .ok (.ireturn, 1) := by decide +kernel
theorem dX8_noRow_32 : decode cX8_noRow 32 = .ok (.aload_n 0, 1) := by decide +kernel
theorem dX8_noRow_33 : decode cX8_noRow 33 = .ok (.getfield 7, 3) := by decide +kernel
theorem dX8_noRow_36 : decode cX8_noRow 36 = .ok (.iload_n 1, 1) := by decide +kernel
theorem dX8_noRow_37 : decode cX8_noRow 37 = .ok (.iaload, 1) := by decide +kernel
theorem dX8_noRow_38 : decode cX8_noRow 38 = .ok (.ifCond .ge 8, 3) := by decide +kernel
theorem dX8_noRow_41 : decode cX8_noRow 41 = .ok (.bipush (-3), 2) := by decide +kernel
theorem dX8_noRow_43 : decode cX8_noRow 43 = .ok (.goto 4, 3) := by decide +kernel
theorem dX8_noRow_46 : decode cX8_noRow 46 = .ok (.iconst 0, 1) := by decide +kernel
theorem dX8_noRow_47 : decode cX8_noRow 47 = .ok (.ireturn, 1) := by decide +kernel
theorem dX8_set_0 : decode cX8_set 0 = .ok (.aload_n 0, 1) := by decide +kernel
theorem dX8_set_1 : decode cX8_set 1 = .ok (.iload_n 1, 1) := by decide +kernel
theorem dX8_set_2 : decode cX8_set 2 = .ok (.invokevirtual 90, 3) := by decide +kernel
theorem dX8_set_5 : decode cX8_set 5 = .ok (.istore 5, 2) := by decide +kernel
theorem dX8_set_7 : decode cX8_set 7 = .ok (.iload 5, 2) := by decide +kernel
theorem dX8_set_9 : decode cX8_set 9 = .ok (.ifCond .ge 10, 3) := by decide +kernel
theorem dX8_set_12 : decode cX8_set 12 = .ok (.aload_n 0, 1) := by decide +kernel
theorem dX8_set_13 : decode cX8_set 13 = .ok (.iload 5, 2) := by decide +kernel
theorem dX8_set_15 : decode cX8_set 15 = .ok (.invokevirtual 72, 3) := by decide +kernel
theorem dX8_set_18 : decode cX8_set 18 = .ok (.ireturn, 1) := by decide +kernel
theorem dX8_set_19 : decode cX8_set 19 = .ok (.iload_n 2, 1) := by decide +kernel
theorem dX8_set_20 : decode cX8_set 20 = .ok (.iconst 0, 1) := by decide +kernel
theorem dX8_set_21 : decode cX8_set 21 = .ok (.aload_n 0, 1) := by decide +kernel
theorem dX8_set_22 : decode cX8_set 22 = .ok (.getfield 13, 3) := by decide +kernel
theorem dX8_set_25 : decode cX8_set 25 = .ok (.iload_n 1, 1) := by decide +kernel
theorem dX8_set_26 : decode cX8_set 26 = .ok (.iaload, 1) := by decide +kernel
theorem dX8_set_27 : decode cX8_set 27 = .ok (.iconst 1, 1) := by decide +kernel
theorem dX8_set_28 : decode cX8_set 28 = .ok (.isub, 1) := by decide +kernel
theorem dX8_set_29 : decode cX8_set 29 = .ok (.invokestatic 79, 3) := by decide +kernel
theorem dX8_set_32 : decode cX8_set 32 = .ok (.ifCond .ne 10, 3) := by decide +kernel
theorem dX8_set_35 : decode cX8_set 35 = .ok (.aload_n 0, 1) := by decide +kernel
theorem dX8_set_36 : decode cX8_set 36 = .ok (.bipush (-5), 2) := by decide +kernel
theorem dX8_set_38 : decode cX8_set 38 = .ok (.invokevirtual 72, 3) := by decide +kernel
theorem dX8_set_41 : decode cX8_set 41 = .ok (.ireturn, 1) := by decide +kernel
theorem dX8_set_42 : decode cX8_set 42 = .ok (.aload_n 0, 1) := by decide +kernel
theorem dX8_set_43 : decode cX8_set 43 = .ok (.getfield 7, 3) := by decide +kernel
theorem dX8_set_46 : decode cX8_set 46 = .ok (.iload_n 1, 1) := by decide +kernel
theorem dX8_set_47 : decode cX8_set 47 = .ok (.iaload, 1) := by decide +kernel
theorem dX8_set_48 : decode cX8_set 48 = .ok (.bipush 100, 2) := by decide +kernel
theorem dX8_set_50 : decode cX8_set 50 = .ok (.isub, 1) := by decide +kernel
theorem dX8_set_51 : decode cX8_set 51 = .ok (.istore 6, 2) := by decide +kernel
theorem dX8_set_53 : decode cX8_set 53 = .ok (.aload_n 0, 1) := by decide +kernel
theorem dX8_set_54 : decode cX8_set 54 = .ok (.getfield 16, 3) := by decide +kernel
theorem dX8_set_57 : decode cX8_set 57 = .ok (.sipush 160, 3) := by decide +kernel
theorem dX8_set_60 : decode cX8_set 60 = .ok (.iload_n 1, 1) := by decide +kernel
theorem dX8_set_61 : decode cX8_set 61 = .ok (.imul, 1) := by decide +kernel
theorem dX8_set_62 : decode cX8_set 62 = .ok (.iload_n 2, 1) := by decide +kernel
theorem dX8_set_63 : decode cX8_set 63 = .ok (.iadd, 1) := by decide +kernel
theorem dX8_set_64 : decode cX8_set 64 = .ok (.iload 6, 2) := by decide +kernel
theorem dX8_set_66 : decode cX8_set 66 = .ok (.ifCond .ne 10, 3) := by decide +kernel
theorem dX8_set_69 : decode cX8_set 69 = .ok (.lload_n 3, 1) := by decide +kernel
theorem dX8_set_70 : decode cX8_set 70 = .ok (.l2i, 1) := by decide +kernel
theorem dX8_set_71 : decode cX8_set 71 = .ok (.i2b, 1) := by decide +kernel
theorem dX8_set_72 : decode cX8_set 72 = .ok (.i2l, 1) := by decide +kernel
theorem dX8_set_73 : decode cX8_set 73 = .ok (.goto 29, 3) := by decide +kernel
theorem dX8_set_76 : decode cX8_set 76 = .ok (.iload 6, 2) := by decide +kernel
theorem dX8_set_78 : decode cX8_set 78 = .ok (.iconst 1, 1) := by decide +kernel
theorem dX8_set_79 : decode cX8_set 79 = .ok (.if_icmp .ne 10, 3) := by decide +kernel
theorem dX8_set_82 : decode cX8_set 82 = .ok (.lload_n 3, 1) := by decide +kernel
theorem dX8_set_83 : decode cX8_set 83 = .ok (.l2i, 1) := by decide +kernel
theorem dX8_set_84 : decode cX8_set 84 = .ok (.i2s, 1) := by decide +kernel
theorem dX8_set_85 : decode cX8_set 85 = .ok (.i2l, 1) := by decide +kernel
theorem dX8_set_86 : decode cX8_set 86 = .ok (.goto 16, 3) := by decide +kernel
theorem dX8_set_89 : decode cX8_set 89 = .ok (.iload 6, 2) := by decide +kernel
theorem dX8_set_91 : decode cX8_set 91 = .ok (.iconst 2, 1) := by decide +kernel
theorem dX8_set_92 : decode cX8_set 92 = .ok (.if_icmp .ne 9, 3) := by decide +kernel
theorem dX8_set_95 : decode cX8_set 95 = .ok (.lload_n 3, 1) := by decide +kernel
theorem dX8_set_96 : decode cX8_set 96 = .ok (.l2i, 1) := by decide +kernel
theorem dX8_set_97 : decode cX8_set 97 = .ok (.i2l, 1) := by decide +kernel
theorem dX8_set_98 : decode cX8_set 98 = .ok (.goto 4, 3) := by decide +kernel
theorem dX8_set_101 : decode cX8_set 101 = .ok (.lload_n 3, 1) := by decide +kernel
theorem dX8_set_102 : decode cX8_set 102 = .ok (.lastore, 1) := by decide +kernel
theorem dX8_set_103 : decode cX8_set 103 = .ok (.iconst 1, 1) := by decide +kernel
theorem dX8_set_104 : decode cX8_set 104 = .ok (.ireturn, 1) := by decide +kernel
theorem dX8_copy_0 : decode cX8_copy 0 = .ok (.iload_n 1, 1) := by decide +kernel
theorem dX8_copy_1 : decode cX8_copy 1 = .ok (.iconst 0, 1) := by decide +kernel
theorem dX8_copy_2 : decode cX8_copy 2 = .ok (.bipush 7, 2) := by decide +kernel
theorem dX8_copy_4 : decode cX8_copy 4 = .ok (.invokestatic 79, 3) := by decide +kernel
theorem dX8_copy_7 : decode cX8_copy 7 = .ok (.ifCond .eq 13, 3) := by decide +kernel
theorem dX8_copy_10 : decode cX8_copy 10 = .ok (.iload_n 2, 1) := by decide +kernel
theorem dX8_copy_11 : decode cX8_copy 11 = .ok (.iconst 0, 1) := by decide +kernel
theorem dX8_copy_12 : decode cX8_copy 12 = .ok (.bipush 7, 2) := by decide +kernel
theorem dX8_copy_14 : decode cX8_copy 14 = .ok (.invokestatic 79, 3) := by decide +kernel
theorem dX8_copy_17 : decode cX8_copy 17 = .ok (.ifCond .ne 9, 3) := by decide +kernel
theorem dX8_copy_20 : decode cX8_copy 20 = .ok (.aload_n 0, 1) := by decide +kernel
theorem dX8_copy_21 : decode cX8_copy 21 = .ok (.iconst (-1), 1) := by decide +kernel
theorem dX8_copy_22 : decode cX8_copy 22 = .ok (.invokevirtual 72, 3) := by decide +kernel
theorem dX8_copy_25 : decode cX8_copy 25 = .ok (.ireturn, 1) := by decide +kernel
theorem dX8_copy_26 : decode cX8_copy 26 = .ok (.aload_n 0, 1) := by decide +kernel
theorem dX8_copy_27 : decode cX8_copy 27 = .ok (.getfield 7, 3) := by decide +kernel
theorem dX8_copy_30 : decode cX8_copy 30 = .ok (.iload_n 1, 1) := by decide +kernel
theorem dX8_copy_31 : decode cX8_copy 31 = .ok (.iaload, 1) := by decide +kernel
theorem dX8_copy_32 : decode cX8_copy 32 = .ok (.ifCond .lt 11, 3) := by decide +kernel
theorem dX8_copy_35 : decode cX8_copy 35 = .ok (.aload_n 0, 1) := by decide +kernel
theorem dX8_copy_36 : decode cX8_copy 36 = .ok (.iload_n 1, 1) := by decide +kernel
theorem dX8_copy_37 : decode cX8_copy 37 = .ok (.invokevirtual 86, 3) := by decide +kernel
theorem dX8_copy_40 : decode cX8_copy 40 = .ok (.ifCond .eq 51, 3) := by decide +kernel
theorem dX8_copy_43 : decode cX8_copy 43 = .ok (.aload_n 0, 1) := by decide +kernel
theorem dX8_copy_44 : decode cX8_copy 44 = .ok (.getfield 7, 3) := by decide +kernel
theorem dX8_copy_47 : decode cX8_copy 47 = .ok (.iload_n 2, 1) := by decide +kernel
theorem dX8_copy_48 : decode cX8_copy 48 = .ok (.iaload, 1) := by decide +kernel
theorem dX8_copy_49 : decode cX8_copy 49 = .ok (.ifCond .lt 11, 3) := by decide +kernel
theorem dX8_copy_52 : decode cX8_copy 52 = .ok (.aload_n 0, 1) := by decide +kernel
theorem dX8_copy_53 : decode cX8_copy 53 = .ok (.iload_n 2, 1) := by decide +kernel
theorem dX8_copy_54 : decode cX8_copy 54 = .ok (.invokevirtual 86, 3) := by decide +kernel
theorem dX8_copy_57 : decode cX8_copy 57 = .ok (.ifCond .eq 34, 3) := by decide +kernel
theorem dX8_copy_60 : decode cX8_copy 60 = .ok (.aload_n 0, 1) := by decide +kernel
theorem dX8_copy_61 : decode cX8_copy 61 = .ok (.iload_n 1, 1) := by decide +kernel
theorem dX8_copy_62 : decode cX8_copy 62 = .ok (.invokevirtual 86, 3) := by decide +kernel
theorem dX8_copy_65 : decode cX8_copy 65 = .ok (.ifCond .eq 33, 3) := by decide +kernel
theorem dX8_copy_68 : decode cX8_copy 68 = .ok (.aload_n 0, 1) := by decide +kernel
theorem dX8_copy_69 : decode cX8_copy 69 = .ok (.iload_n 2, 1) := by decide +kernel
theorem dX8_copy_70 : decode cX8_copy 70 = .ok (.invokevirtual 86, 3) := by decide +kernel
theorem dX8_copy_73 : decode cX8_copy 73 = .ok (.ifCond .eq 25, 3) := by decide +kernel
theorem dX8_copy_76 : decode cX8_copy 76 = .ok (.aload_n 0, 1) := by decide +kernel
theorem dX8_copy_77 : decode cX8_copy 77 = .ok (.getfield 7, 3) := by decide +kernel
theorem dX8_copy_80 : decode cX8_copy 80 = .ok (.iload_n 1, 1) := by decide +kernel
theorem dX8_copy_81 : decode cX8_copy 81 = .ok (.iaload, 1) := by decide +kernel
theorem dX8_copy_82 : decode cX8_copy 82 = .ok (.aload_n 0, 1) := by decide +kernel
theorem dX8_copy_83 : decode cX8_copy 83 = .ok (.getfield 7, 3) := by decide +kernel
theorem dX8_copy_86 : decode cX8_copy 86 = .ok (.iload_n 2, 1) := by decide +kernel
theorem dX8_copy_87 : decode cX8_copy 87 = .ok (.iaload, 1) := by decide +kernel
theorem dX8_copy_88 : decode cX8_copy 88 = .ok (.if_icmp .eq 10, 3) := by decide +kernel
theorem dX8_copy_91 : decode cX8_copy 91 = .ok (.aload_n 0, 1) := by decide +kernel
theorem dX8_copy_92 : decode cX8_copy 92 = .ok (.bipush (-2), 2) := by decide +kernel
theorem dX8_copy_94 : decode cX8_copy 94 = .ok (.invokevirtual 72, 3) := by decide +kernel
theorem dX8_copy_97 : decode cX8_copy 97 = .ok (.ireturn, 1) := by decide +kernel
theorem dX8_copy_98 : decode cX8_copy 98 = .ok (.aload_n 0, 1) := by decide +kernel
theorem dX8_copy_99 : decode cX8_copy 99 = .ok (.getfield 7, 3) := by decide +kernel
theorem dX8_copy_102 : decode cX8_copy 102 = .ok (.iload_n 1, 1) := by decide +kernel
theorem dX8_copy_103 : decode cX8_copy 103 = .ok (.iaload, 1) := by decide +kernel
theorem dX8_copy_104 : decode cX8_copy 104 = .ok (.ifCond .lt 12, 3) := by decide +kernel
theorem dX8_copy_107 : decode cX8_copy 107 = .ok (.aload_n 0, 1) := by decide +kernel
theorem dX8_copy_108 : decode cX8_copy 108 = .ok (.getfield 7, 3) := by decide +kernel
theorem dX8_copy_111 : decode cX8_copy 111 = .ok (.iload_n 2, 1) := by decide +kernel
theorem dX8_copy_112 : decode cX8_copy 112 = .ok (.iaload, 1) := by decide +kernel
theorem dX8_copy_113 : decode cX8_copy 113 = .ok (.ifCond .ge 10, 3) := by decide +kernel
theorem dX8_copy_116 : decode cX8_copy 116 = .ok (.aload_n 0, 1) := by decide +kernel
theorem dX8_copy_117 : decode cX8_copy 117 = .ok (.bipush (-3), 2) := by decide +kernel
theorem dX8_copy_119 : decode cX8_copy 119 = .ok (.invokevirtual 72, 3) := by decide +kernel
theorem dX8_copy_122 : decode cX8_copy 122 = .ok (.ireturn, 1) := by decide +kernel
theorem dX8_copy_123 : decode cX8_copy 123 = .ok (.iload 5, 2) := by decide +kernel
theorem dX8_copy_125 : decode cX8_copy 125 = .ok (.ifCond .ge 10, 3) := by decide +kernel
theorem dX8_copy_128 : decode cX8_copy 128 = .ok (.aload_n 0, 1) := by decide +kernel
theorem dX8_copy_129 : decode cX8_copy 129 = .ok (.bipush (-4), 2) := by decide +kernel
theorem dX8_copy_131 : decode cX8_copy 131 = .ok (.invokevirtual 72, 3) := by decide +kernel
theorem dX8_copy_134 : decode cX8_copy 134 = .ok (.ireturn, 1) := by decide +kernel
theorem dX8_copy_135 : decode cX8_copy 135 = .ok (.iload_n 3, 1) := by decide +kernel
theorem dX8_copy_136 : decode cX8_copy 136 = .ok (.ifCond .lt 43, 3) := by decide +kernel
theorem dX8_copy_139 : decode cX8_copy 139 = .ok (.iload 4, 2) := by decide +kernel
theorem dX8_copy_141 : decode cX8_copy 141 = .ok (.ifCond .lt 38, 3) := by decide +kernel
theorem dX8_copy_144 : decode cX8_copy 144 = .ok (.iload_n 3, 1) := by decide +kernel
theorem dX8_copy_145 : decode cX8_copy 145 = .ok (.i2l, 1) := by decide +kernel
theorem dX8_copy_146 : decode cX8_copy 146 = .ok (.iload 5, 2) := by decide +kernel
theorem dX8_copy_148 : decode cX8_copy 148 = .ok (.i2l, 1) := by decide +kernel
theorem dX8_copy_149 : decode cX8_copy 149 = .ok (.ladd, 1) := by decide +kernel
theorem dX8_copy_150 : decode cX8_copy 150 = .ok (.aload_n 0, 1) := by decide +kernel
theorem dX8_copy_151 : decode cX8_copy 151 = .ok (.getfield 13, 3) := by decide +kernel
theorem dX8_copy_154 : decode cX8_copy 154 = .ok (.iload_n 1, 1) := by decide +kernel
theorem dX8_copy_155 : decode cX8_copy 155 = .ok (.iaload, 1) := by decide +kernel
theorem dX8_copy_156 : decode cX8_copy 156 = .ok (.i2l, 1) := by decide +kernel
theorem dX8_copy_157 : decode cX8_copy 157 = .ok (.lcmp, 1) := by decide +kernel
theorem dX8_copy_158 : decode cX8_copy 158 = .ok (.ifCond .gt 21, 3) := by decide +kernel
theorem dX8_copy_161 : decode cX8_copy 161 = .ok (.iload 4, 2) := by decide +kernel
theorem dX8_copy_163 : decode cX8_copy 163 = .ok (.i2l, 1) := by decide +kernel
theorem dX8_copy_164 : decode cX8_copy 164 = .ok (.iload 5, 2) := by decide +kernel
theorem dX8_copy_166 : decode cX8_copy 166 = .ok (.i2l, 1) := by decide +kernel
theorem dX8_copy_167 : decode cX8_copy 167 = .ok (.ladd, 1) := by decide +kernel
theorem dX8_copy_168 : decode cX8_copy 168 = .ok (.aload_n 0, 1) := by decide +kernel
theorem dX8_copy_169 : decode cX8_copy 169 = .ok (.getfield 13, 3) := by decide +kernel
theorem dX8_copy_172 : decode cX8_copy 172 = .ok (.iload_n 2, 1) := by decide +kernel
theorem dX8_copy_173 : decode cX8_copy 173 = .ok (.iaload, 1) := by decide +kernel
theorem dX8_copy_174 : decode cX8_copy 174 = .ok (.i2l, 1) := by decide +kernel
theorem dX8_copy_175 : decode cX8_copy 175 = .ok (.lcmp, 1) := by decide +kernel
theorem dX8_copy_176 : decode cX8_copy 176 = .ok (.ifCond .le 10, 3) := by decide +kernel
theorem dX8_copy_179 : decode cX8_copy 179 = .ok (.aload_n 0, 1) := by decide +kernel
theorem dX8_copy_180 : decode cX8_copy 180 = .ok (.bipush (-5), 2) := by decide +kernel
theorem dX8_copy_182 : decode cX8_copy 182 = .ok (.invokevirtual 72, 3) := by decide +kernel
theorem dX8_copy_185 : decode cX8_copy 185 = .ok (.ireturn, 1) := by decide +kernel
theorem dX8_copy_186 : decode cX8_copy 186 = .ok (.iload_n 1, 1) := by decide +kernel
theorem dX8_copy_187 : decode cX8_copy 187 = .ok (.iload_n 2, 1) := by decide +kernel
theorem dX8_copy_188 : decode cX8_copy 188 = .ok (.if_icmp .ne 60, 3) := by decide +kernel
theorem dX8_copy_191 : decode cX8_copy 191 = .ok (.iload_n 3, 1) := by decide +kernel
theorem dX8_copy_192 : decode cX8_copy 192 = .ok (.iload 4, 2) := by decide +kernel
theorem dX8_copy_194 : decode cX8_copy 194 = .ok (.if_icmp .ge 54, 3) := by decide +kernel
theorem dX8_copy_197 : decode cX8_copy 197 = .ok (.iload 5, 2) := by decide +kernel
theorem dX8_copy_199 : decode cX8_copy 199 = .ok (.iconst 1, 1) := by decide +kernel
theorem dX8_copy_200 : decode cX8_copy 200 = .ok (.isub, 1) := by decide +kernel
theorem dX8_copy_201 : decode cX8_copy 201 = .ok (.istore 6, 2) := by decide +kernel
theorem dX8_copy_203 : decode cX8_copy 203 = .ok (.iload 6, 2) := by decide +kernel
theorem dX8_copy_205 : decode cX8_copy 205 = .ok (.ifCond .lt 40, 3) := by decide +kernel
theorem dX8_copy_208 : decode cX8_copy 208 = .ok (.aload_n 0, 1) := by decide +kernel
theorem dX8_copy_209 : decode cX8_copy 209 = .ok (.getfield 16, 3) := by decide +kernel
theorem dX8_copy_212 : decode cX8_copy 212 = .ok (.sipush 160, 3) := by decide +kernel
theorem dX8_copy_215 : decode cX8_copy 215 = .ok (.iload_n 2, 1) := by decide +kernel
theorem dX8_copy_216 : decode cX8_copy 216 = .ok (.imul, 1) := by decide +kernel
theorem dX8_copy_217 : decode cX8_copy 217 = .ok (.iload 4, 2) := by decide +kernel
theorem dX8_copy_219 : decode cX8_copy 219 = .ok (.iadd, 1) := by decide +kernel
theorem dX8_copy_220 : decode cX8_copy 220 = .ok (.iload 6, 2) := by decide +kernel
theorem dX8_copy_222 : decode cX8_copy 222 = .ok (.iadd, 1) := by decide +kernel
theorem dX8_copy_223 : decode cX8_copy 223 = .ok (.aload_n 0, 1) := by decide +kernel
theorem dX8_copy_224 : decode cX8_copy 224 = .ok (.getfield 16, 3) := by decide +kernel
theorem dX8_copy_227 : decode cX8_copy 227 = .ok (.sipush 160, 3) := by decide +kernel
theorem dX8_copy_230 : decode cX8_copy 230 = .ok (.iload_n 1, 1) := by decide +kernel
theorem dX8_copy_231 : decode cX8_copy 231 = .ok (.imul, 1) := by decide +kernel
theorem dX8_copy_232 : decode cX8_copy 232 = .ok (.iload_n 3, 1) := by decide +kernel
theorem dX8_copy_233 : decode cX8_copy 233 = .ok (.iadd, 1) := by decide +kernel
theorem dX8_copy_234 : decode cX8_copy 234 = .ok (.iload 6, 2) := by decide +kernel
theorem dX8_copy_236 : decode cX8_copy 236 = .ok (.iadd, 1) := by decide +kernel
theorem dX8_copy_237 : decode cX8_copy 237 = .ok (.laload, 1) := by decide +kernel
theorem dX8_copy_238 : decode cX8_copy 238 = .ok (.lastore, 1) := by decide +kernel
theorem dX8_copy_239 : decode cX8_copy 239 = .ok (.iinc 6 (-1), 3) := by decide +kernel
theorem dX8_copy_242 : decode cX8_copy 242 = .ok (.goto (-39), 3) := by decide +kernel
theorem dX8_copy_245 : decode cX8_copy 245 = .ok (.goto 50, 3) := by decide +kernel
theorem dX8_copy_248 : decode cX8_copy 248 = .ok (.iconst 0, 1) := by decide +kernel
theorem dX8_copy_249 : decode cX8_copy 249 = .ok (.istore 6, 2) := by decide +kernel
theorem dX8_copy_251 : decode cX8_copy 251 = .ok (.iload 6, 2) := by decide +kernel
theorem dX8_copy_253 : decode cX8_copy 253 = .ok (.iload 5, 2) := by decide +kernel
theorem dX8_copy_255 : decode cX8_copy 255 = .ok (.if_icmp .ge 40, 3) := by decide +kernel
theorem dX8_copy_258 : decode cX8_copy 258 = .ok (.aload_n 0, 1) := by decide +kernel
theorem dX8_copy_259 : decode cX8_copy 259 = .ok (.getfield 16, 3) := by decide +kernel
theorem dX8_copy_262 : decode cX8_copy 262 = .ok (.sipush 160, 3) := by decide +kernel
theorem dX8_copy_265 : decode cX8_copy 265 = .ok (.iload_n 2, 1) := by decide +kernel
theorem dX8_copy_266 : decode cX8_copy 266 = .ok (.imul, 1) := by decide +kernel
theorem dX8_copy_267 : decode cX8_copy 267 = .ok (.iload 4, 2) := by decide +kernel
theorem dX8_copy_269 : decode cX8_copy 269 = .ok (.iadd, 1) := by decide +kernel
theorem dX8_copy_270 : decode cX8_copy 270 = .ok (.iload 6, 2) := by decide +kernel
theorem dX8_copy_272 : decode cX8_copy 272 = .ok (.iadd, 1) := by decide +kernel
theorem dX8_copy_273 : decode cX8_copy 273 = .ok (.aload_n 0, 1) := by decide +kernel
theorem dX8_copy_274 : decode cX8_copy 274 = .ok (.getfield 16, 3) := by decide +kernel
theorem dX8_copy_277 : decode cX8_copy 277 = .ok (.sipush 160, 3) := by decide +kernel
theorem dX8_copy_280 : decode cX8_copy 280 = .ok (.iload_n 1, 1) := by decide +kernel
theorem dX8_copy_281 : decode cX8_copy 281 = .ok (.imul, 1) := by decide +kernel
theorem dX8_copy_282 : decode cX8_copy 282 = .ok (.iload_n 3, 1) := by decide +kernel
theorem dX8_copy_283 : decode cX8_copy 283 = .ok (.iadd, 1) := by decide +kernel
theorem dX8_copy_284 : decode cX8_copy 284 = .ok (.iload 6, 2) := by decide +kernel
theorem dX8_copy_286 : decode cX8_copy 286 = .ok (.iadd, 1) := by decide +kernel
theorem dX8_copy_287 : decode cX8_copy 287 = .ok (.laload, 1) := by decide +kernel
theorem dX8_copy_288 : decode cX8_copy 288 = .ok (.lastore, 1) := by decide +kernel
theorem dX8_copy_289 : decode cX8_copy 289 = .ok (.iinc 6 1, 3) := by decide +kernel
theorem dX8_copy_292 : decode cX8_copy 292 = .ok (.goto (-41), 3) := by decide +kernel
theorem dX8_copy_295 : decode cX8_copy 295 = .ok (.iconst 1, 1) := by decide +kernel
theorem dX8_copy_296 : decode cX8_copy 296 = .ok (.ireturn, 1) := by decide +kernel
theorem dX8_element_0 : decode cX8_element 0 = .ok (.iload_n 1, 1) := by decide +kernel
theorem dX8_element_1 : decode cX8_element 1 = .ok (.iconst 0, 1) := by decide +kernel
theorem dX8_element_2 : decode cX8_element 2 = .ok (.bipush 7, 2) := by decide +kernel
theorem dX8_element_4 : decode cX8_element 4 = .ok (.invokestatic 79, 3) := by decide +kernel
theorem dX8_element_7 : decode cX8_element 7 = .ok (.ifCond .eq 42, 3) := by decide +kernel
theorem dX8_element_10 : decode cX8_element 10 = .ok (.aload_n 0, 1) := by decide +kernel
theorem dX8_element_11 : decode cX8_element 11 = .ok (.iload_n 1, 1) := by decide +kernel
theorem dX8_element_12 : decode cX8_element 12 = .ok (.invokevirtual 86, 3) := by decide +kernel
theorem dX8_element_15 : decode cX8_element 15 = .ok (.ifCond .eq 34, 3) := by decide +kernel
theorem dX8_element_18 : decode cX8_element 18 = .ok (.iload_n 2, 1) := by decide +kernel
theorem dX8_element_19 : decode cX8_element 19 = .ok (.iconst 0, 1) := by decide +kernel
theorem dX8_element_20 : decode cX8_element 20 = .ok (.aload_n 0, 1) := by decide +kernel
theorem dX8_element_21 : decode cX8_element 21 = .ok (.getfield 13, 3) := by decide +kernel
theorem dX8_element_24 : decode cX8_element 24 = .ok (.iload_n 1, 1) := by decide +kernel
theorem dX8_element_25 : decode cX8_element 25 = .ok (.iaload, 1) := by decide +kernel
theorem dX8_element_26 : decode cX8_element 26 = .ok (.iconst 1, 1) := by decide +kernel
theorem dX8_element_27 : decode cX8_element 27 = .ok (.isub, 1) := by decide +kernel
theorem dX8_element_28 : decode cX8_element 28 = .ok (.invokestatic 79, 3) := by decide +kernel
theorem dX8_element_31 : decode cX8_element 31 = .ok (.ifCond .eq 18, 3) := by decide +kernel
theorem dX8_element_34 : decode cX8_element 34 = .ok (.aload_n 0, 1) := by decide +kernel
theorem dX8_element_35 : decode cX8_element 35 = .ok (.getfield 16, 3) := by decide +kernel
theorem dX8_element_38 : decode cX8_element 38 = .ok (.sipush 160, 3) := by decide +kernel
theorem dX8_element_41 : decode cX8_element 41 = .ok (.iload_n 1, 1) := by decide +kernel
theorem dX8_element_42 : decode cX8_element 42 = .ok (.imul, 1) := by decide +kernel
theorem dX8_element_43 : decode cX8_element 43 = .ok (.iload_n 2, 1) := by decide +kernel
theorem dX8_element_44 : decode cX8_element 44 = .ok (.iadd, 1) := by decide +kernel
theorem dX8_element_45 : decode cX8_element 45 = .ok (.laload, 1) := by decide +kernel
theorem dX8_element_46 : decode cX8_element 46 = .ok (.goto 4, 3) := by decide +kernel
theorem dX8_element_49 : decode cX8_element 49 = .ok (.lconst 0, 1) := by decide +kernel
theorem dX8_element_50 : decode cX8_element 50 = .ok (.lreturn, 1) := by decide +kernel
theorem dX8_show_0 : decode cX8_show 0 = .ok (.iload_n 1, 1) := by decide +kernel
theorem dX8_show_1 : decode cX8_show 1 = .ok (.iconst 0, 1) := by decide +kernel
theorem dX8_show_2 : decode cX8_show 2 = .ok (.bipush 7, 2) := by decide +kernel
theorem dX8_show_4 : decode cX8_show 4 = .ok (.invokestatic 79, 3) := by decide +kernel
theorem dX8_show_7 : decode cX8_show 7 = .ok (.ifCond .eq 16, 3) := by decide +kernel
theorem dX8_show_10 : decode cX8_show 10 = .ok (.iload_n 2, 1) := by decide +kernel
theorem dX8_show_11 : decode cX8_show 11 = .ok (.iconst (-1), 1) := by decide +kernel
theorem dX8_show_12 : decode cX8_show 12 = .ok (.if_icmp .eq 17, 3) := by decide +kernel
theorem dX8_show_15 : decode cX8_show 15 = .ok (.aload_n 0, 1) := by decide +kernel
theorem dX8_show_16 : decode cX8_show 16 = .ok (.iload_n 2, 1) := by decide +kernel
theorem dX8_show_17 : decode cX8_show 17 = .ok (.invokevirtual 93, 3) := by decide +kernel
theorem dX8_show_20 : decode cX8_show 20 = .ok (.ifCond .ne 9, 3) := by decide +kernel
theorem dX8_show_23 : decode cX8_show 23 = .ok (.aload_n 0, 1) := by decide +kernel
theorem dX8_show_24 : decode cX8_show 24 = .ok (.iconst (-1), 1) := by decide +kernel
theorem dX8_show_25 : decode cX8_show 25 = .ok (.invokevirtual 72, 3) := by decide +kernel
theorem dX8_show_28 : decode cX8_show 28 = .ok (.ireturn, 1) := by decide +kernel
theorem dX8_show_29 : decode cX8_show 29 = .ok (.aload_n 0, 1) := by decide +kernel
theorem dX8_show_30 : decode cX8_show 30 = .ok (.getfield 7, 3) := by decide +kernel
theorem dX8_show_33 : decode cX8_show 33 = .ok (.iload_n 1, 1) := by decide +kernel
theorem dX8_show_34 : decode cX8_show 34 = .ok (.iload_n 2, 1) := by decide +kernel
theorem dX8_show_35 : decode cX8_show 35 = .ok (.iastore, 1) := by decide +kernel
theorem dX8_show_36 : decode cX8_show 36 = .ok (.iload_n 2, 1) := by decide +kernel
theorem dX8_show_37 : decode cX8_show 37 = .ok (.iconst (-1), 1) := by decide +kernel
theorem dX8_show_38 : decode cX8_show 38 = .ok (.if_icmp .ne 7, 3) := by decide +kernel
theorem dX8_show_41 : decode cX8_show 41 = .ok (.iconst 0, 1) := by decide +kernel
theorem dX8_show_42 : decode cX8_show 42 = .ok (.goto 4, 3) := by decide +kernel
theorem dX8_show_45 : decode cX8_show 45 = .ok (.iconst 1, 1) := by decide +kernel
theorem dX8_show_46 : decode cX8_show 46 = .ok (.ireturn, 1) := by decide +kernel
theorem dX8_holds_0 : decode cX8_holds 0 = .ok (.iload_n 1, 1) := by decide +kernel
theorem dX8_holds_1 : decode cX8_holds 1 = .ok (.iconst 0, 1) := by decide +kernel
theorem dX8_holds_2 : decode cX8_holds 2 = .ok (.bipush 7, 2) := by decide +kernel
theorem dX8_holds_4 : decode cX8_holds 4 = .ok (.invokestatic 79, 3) := by decide +kernel
theorem dX8_holds_7 : decode cX8_holds 7 = .ok (.ifCond .eq 12, 3) := by decide +kernel
theorem dX8_holds_10 : decode cX8_holds 10 = .ok (.aload_n 0, 1) := by decide +kernel
theorem dX8_holds_11 : decode cX8_holds 11 = .ok (.getfield 7, 3) := by decide +kernel
theorem dX8_holds_14 : decode cX8_holds 14 = .ok (.iload_n 1, 1) := by decide +kernel
theorem dX8_holds_15 : decode cX8_holds 15 = .ok (.iaload, 1) := by decide +kernel
theorem dX8_holds_16 : decode cX8_holds 16 = .ok (.goto 4, 3) := by decide +kernel
theorem dX8_holds_19 : decode cX8_holds 19 = .ok (.iconst (-1), 1) := by decide +kernel
theorem dX8_holds_20 : decode cX8_holds 20 = .ok (.ireturn, 1) := by decide +kernel
theorem dX8_above_0 : decode cX8_above 0 = .ok (.iload_n 0, 1) := by decide +kernel
theorem dX8_above_1 : decode cX8_above 1 = .ok (.iconst 3, 1) := by decide +kernel
theorem dX8_above_2 : decode cX8_above 2 = .ok (.if_icmp .ne 7, 3) := by decide +kernel
theorem dX8_above_5 : decode cX8_above 5 = .ok (.iconst 1, 1) := by decide +kernel
theorem dX8_above_6 : decode cX8_above 6 = .ok (.goto 23, 3) := by decide +kernel
theorem dX8_above_9 : decode cX8_above 9 = .ok (.iload_n 0, 1) := by decide +kernel
theorem dX8_above_10 : decode cX8_above 10 = .ok (.iconst 5, 1) := by decide +kernel
theorem dX8_above_11 : decode cX8_above 11 = .ok (.if_icmp .ne 7, 3) := by decide +kernel
theorem dX8_above_14 : decode cX8_above 14 = .ok (.iconst 2, 1) := by decide +kernel
theorem dX8_above_15 : decode cX8_above 15 = .ok (.goto 14, 3) := by decide +kernel
theorem dX8_above_18 : decode cX8_above 18 = .ok (.iload_n 0, 1) := by decide +kernel
theorem dX8_above_19 : decode cX8_above 19 = .ok (.bipush 6, 2) := by decide +kernel
theorem dX8_above_21 : decode cX8_above 21 = .ok (.if_icmp .ne 7, 3) := by decide +kernel
theorem dX8_above_24 : decode cX8_above 24 = .ok (.iconst 4, 1) := by decide +kernel
theorem dX8_above_25 : decode cX8_above 25 = .ok (.goto 4, 3) := by decide +kernel
theorem dX8_above_28 : decode cX8_above 28 = .ok (.iconst 0, 1) := by decide +kernel
theorem dX8_above_29 : decode cX8_above 29 = .ok (.ireturn, 1) := by decide +kernel
theorem dX8_isUnder_0 : decode cX8_isUnder 0 = .ok (.iload_n 0, 1) := by decide +kernel
theorem dX8_isUnder_1 : decode cX8_isUnder 1 = .ok (.istore_n 2, 1) := by decide +kernel
theorem dX8_isUnder_2 : decode cX8_isUnder 2 = .ok (.iload_n 2, 1) := by decide +kernel
theorem dX8_isUnder_3 : decode cX8_isUnder 3 = .ok (.iload_n 1, 1) := by decide +kernel
theorem dX8_isUnder_4 : decode cX8_isUnder 4 = .ok (.if_icmp .eq 15, 3) := by decide +kernel
theorem dX8_isUnder_7 : decode cX8_isUnder 7 = .ok (.iload_n 2, 1) := by decide +kernel
theorem dX8_isUnder_8 : decode cX8_isUnder 8 = .ok (.ifCond .le 11, 3) := by decide +kernel
theorem dX8_isUnder_11 : decode cX8_isUnder 11 = .ok (.iload_n 2, 1) := by decide +kernel
theorem dX8_isUnder_12 : decode cX8_isUnder 12 = .ok (.invokestatic 96, 3) := by decide +kernel
theorem dX8_isUnder_15 : decode cX8_isUnder 15 = .ok (.istore_n 2, 1) := by decide +kernel
theorem dX8_isUnder_16 : decode cX8_isUnder 16 = .ok (.goto (-14), 3) := by decide +kernel
theorem dX8_isUnder_19 : decode cX8_isUnder 19 = .ok (.iload_n 2, 1) := by decide +kernel
theorem dX8_isUnder_20 : decode cX8_isUnder 20 = .ok (.iload_n 1, 1) := by decide +kernel
theorem dX8_isUnder_21 : decode cX8_isUnder 21 = .ok (.if_icmp .ne 7, 3) := by decide +kernel
theorem dX8_isUnder_24 : decode cX8_isUnder 24 = .ok (.iconst 1, 1) := by decide +kernel
theorem dX8_isUnder_25 : decode cX8_isUnder 25 = .ok (.goto 4, 3) := by decide +kernel
theorem dX8_isUnder_28 : decode cX8_isUnder 28 = .ok (.iconst 0, 1) := by decide +kernel
theorem dX8_isUnder_29 : decode cX8_isUnder 29 = .ok (.ireturn, 1) := by decide +kernel
theorem dX8_says_0 : decode cX8_says 0 = .ok (.iload_n 1, 1) := by decide +kernel
theorem dX8_says_1 : decode cX8_says 1 = .ok (.iconst 0, 1) := by decide +kernel
theorem dX8_says_2 : decode cX8_says 2 = .ok (.bipush 7, 2) := by decide +kernel
theorem dX8_says_4 : decode cX8_says 4 = .ok (.invokestatic 79, 3) := by decide +kernel
theorem dX8_says_7 : decode cX8_says 7 = .ok (.ifCond .eq 13, 3) := by decide +kernel
theorem dX8_says_10 : decode cX8_says 10 = .ok (.iload_n 2, 1) := by decide +kernel
theorem dX8_says_11 : decode cX8_says 11 = .ok (.iconst 0, 1) := by decide +kernel
theorem dX8_says_12 : decode cX8_says 12 = .ok (.bipush 6, 2) := by decide +kernel
theorem dX8_says_14 : decode cX8_says 14 = .ok (.invokestatic 79, 3) := by decide +kernel
theorem dX8_says_17 : decode cX8_says 17 = .ok (.ifCond .ne 9, 3) := by decide +kernel
theorem dX8_says_20 : decode cX8_says 20 = .ok (.aload_n 0, 1) := by decide +kernel
theorem dX8_says_21 : decode cX8_says 21 = .ok (.iconst (-1), 1) := by decide +kernel
theorem dX8_says_22 : decode cX8_says 22 = .ok (.invokevirtual 72, 3) := by decide +kernel
theorem dX8_says_25 : decode cX8_says 25 = .ok (.ireturn, 1) := by decide +kernel
theorem dX8_says_26 : decode cX8_says 26 = .ok (.aload_n 0, 1) := by decide +kernel
theorem dX8_says_27 : decode cX8_says 27 = .ok (.getfield 7, 3) := by decide +kernel
theorem dX8_says_30 : decode cX8_says 30 = .ok (.iload_n 1, 1) := by decide +kernel
theorem dX8_says_31 : decode cX8_says 31 = .ok (.iaload, 1) := by decide +kernel
theorem dX8_says_32 : decode cX8_says 32 = .ok (.istore_n 3, 1) := by decide +kernel
theorem dX8_says_33 : decode cX8_says 33 = .ok (.iload_n 3, 1) := by decide +kernel
theorem dX8_says_34 : decode cX8_says 34 = .ok (.ifCond .lt 31, 3) := by decide +kernel
theorem dX8_says_37 : decode cX8_says 37 = .ok (.aload_n 0, 1) := by decide +kernel
theorem dX8_says_38 : decode cX8_says 38 = .ok (.iload_n 1, 1) := by decide +kernel
theorem dX8_says_39 : decode cX8_says 39 = .ok (.invokevirtual 86, 3) := by decide +kernel
theorem dX8_says_42 : decode cX8_says 42 = .ok (.ifCond .ne 16, 3) := by decide +kernel
theorem dX8_says_45 : decode cX8_says 45 = .ok (.aload_n 0, 1) := by decide +kernel
theorem dX8_says_46 : decode cX8_says 46 = .ok (.getfield 26, 3) := by decide +kernel
theorem dX8_says_49 : decode cX8_says 49 = .ok (.iload_n 3, 1) := by decide +kernel
theorem dX8_says_50 : decode cX8_says 50 = .ok (.iaload, 1) := by decide +kernel
theorem dX8_says_51 : decode cX8_says 51 = .ok (.iload_n 2, 1) := by decide +kernel
theorem dX8_says_52 : decode cX8_says 52 = .ok (.invokestatic 99, 3) := by decide +kernel
theorem dX8_says_55 : decode cX8_says 55 = .ok (.ifCond .ne 10, 3) := by decide +kernel
theorem dX8_says_58 : decode cX8_says 58 = .ok (.aload_n 0, 1) := by decide +kernel
theorem dX8_says_59 : decode cX8_says 59 = .ok (.bipush (-2), 2) := by decide +kernel
theorem dX8_says_61 : decode cX8_says 61 = .ok (.invokevirtual 72, 3) := by decide +kernel
theorem dX8_says_64 : decode cX8_says 64 = .ok (.ireturn, 1) := by decide +kernel
theorem dX8_says_65 : decode cX8_says 65 = .ok (.iload_n 3, 1) := by decide +kernel
theorem dX8_says_66 : decode cX8_says 66 = .ok (.ifCond .ge 10, 3) := by decide +kernel
theorem dX8_says_69 : decode cX8_says 69 = .ok (.aload_n 0, 1) := by decide +kernel
theorem dX8_says_70 : decode cX8_says 70 = .ok (.bipush (-3), 2) := by decide +kernel
theorem dX8_says_72 : decode cX8_says 72 = .ok (.invokevirtual 72, 3) := by decide +kernel
theorem dX8_says_75 : decode cX8_says 75 = .ok (.ireturn, 1) := by decide +kernel
theorem dX8_says_76 : decode cX8_says 76 = .ok (.iconst 0, 1) := by decide +kernel
theorem dX8_says_77 : decode cX8_says 77 = .ok (.istore 4, 2) := by decide +kernel
theorem dX8_says_79 : decode cX8_says 79 = .ok (.iload_n 2, 1) := by decide +kernel
theorem dX8_says_80 : decode cX8_says 80 = .ok (.tableswitch 62 0 5 #[40, 62, 46, 62, 53, 46], 40) := by decide +kernel
theorem dX8_says_120 : decode cX8_says 120 = .ok (.aload_n 0, 1) := by decide +kernel
theorem dX8_says_121 : decode cX8_says 121 = .ok (.iload_n 3, 1) := by decide +kernel
theorem dX8_says_122 : decode cX8_says 122 = .ok (.invokevirtual 103, 3) := by decide +kernel
theorem dX8_says_125 : decode cX8_says 125 = .ok (.ireturn, 1) := by decide +kernel
theorem dX8_says_126 : decode cX8_says 126 = .ok (.aload_n 0, 1) := by decide +kernel
theorem dX8_says_127 : decode cX8_says 127 = .ok (.iload_n 3, 1) := by decide +kernel
theorem dX8_says_128 : decode cX8_says 128 = .ok (.iconst 0, 1) := by decide +kernel
theorem dX8_says_129 : decode cX8_says 129 = .ok (.invokevirtual 106, 3) := by decide +kernel
theorem dX8_says_132 : decode cX8_says 132 = .ok (.ireturn, 1) := by decide +kernel
theorem dX8_says_133 : decode cX8_says 133 = .ok (.bipush 12, 2) := by decide +kernel
theorem dX8_says_135 : decode cX8_says 135 = .ok (.aload_n 0, 1) := by decide +kernel
theorem dX8_says_136 : decode cX8_says 136 = .ok (.iload_n 3, 1) := by decide +kernel
theorem dX8_says_137 : decode cX8_says 137 = .ok (.invokevirtual 103, 3) := by decide +kernel
theorem dX8_says_140 : decode cX8_says 140 = .ok (.isub, 1) := by decide +kernel
theorem dX8_says_141 : decode cX8_says 141 = .ok (.ireturn, 1) := by decide +kernel
theorem dX8_says_142 : decode cX8_says 142 = .ok (.iconst 0, 1) := by decide +kernel
theorem dX8_says_143 : decode cX8_says 143 = .ok (.istore 5, 2) := by decide +kernel
theorem dX8_says_145 : decode cX8_says 145 = .ok (.iload 5, 2) := by decide +kernel
theorem dX8_says_147 : decode cX8_says 147 = .ok (.bipush 12, 2) := by decide +kernel
theorem dX8_says_149 : decode cX8_says 149 = .ok (.if_icmp .ge 22, 3) := by decide +kernel
theorem dX8_says_152 : decode cX8_says 152 = .ok (.aload_n 0, 1) := by decide +kernel
theorem dX8_says_153 : decode cX8_says 153 = .ok (.iload_n 3, 1) := by decide +kernel
theorem dX8_says_154 : decode cX8_says 154 = .ok (.iload 5, 2) := by decide +kernel
theorem dX8_says_156 : decode cX8_says 156 = .ok (.invokevirtual 110, 3) := by decide +kernel
theorem dX8_says_159 : decode cX8_says 159 = .ok (.ifCond .eq 6, 3) := by decide +kernel
theorem dX8_says_162 : decode cX8_says 162 = .ok (.iinc 4 1, 3) := by decide +kernel
theorem dX8_says_165 : decode cX8_says 165 = .ok (.iinc 5 1, 3) := by decide +kernel
theorem dX8_says_168 : decode cX8_says 168 = .ok (.goto (-23), 3) := by decide +kernel
theorem dX8_says_171 : decode cX8_says 171 = .ok (.iload 4, 2) := by decide +kernel
theorem dX8_says_173 : decode cX8_says 173 = .ok (.ireturn, 1) := by decide +kernel
theorem dX8_newOne_0 : decode cX8_newOne 0 = .ok (.aload_n 0, 1) := by decide +kernel
theorem dX8_newOne_1 : decode cX8_newOne 1 = .ok (.getfield 20, 3) := by decide +kernel
theorem dX8_newOne_4 : decode cX8_newOne 4 = .ok (.aload_n 0, 1) := by decide +kernel
theorem dX8_newOne_5 : decode cX8_newOne 5 = .ok (.getfield 83, 3) := by decide +kernel
theorem dX8_newOne_8 : decode cX8_newOne 8 = .ok (.iload_n 1, 1) := by decide +kernel
theorem dX8_newOne_9 : decode cX8_newOne 9 = .ok (.iastore, 1) := by decide +kernel
theorem dX8_newOne_10 : decode cX8_newOne 10 = .ok (.iconst 0, 1) := by decide +kernel
theorem dX8_newOne_11 : decode cX8_newOne 11 = .ok (.istore_n 2, 1) := by decide +kernel
theorem dX8_newOne_12 : decode cX8_newOne 12 = .ok (.iload_n 2, 1) := by decide +kernel
theorem dX8_newOne_13 : decode cX8_newOne 13 = .ok (.bipush 12, 2) := by decide +kernel
theorem dX8_newOne_15 : decode cX8_newOne 15 = .ok (.if_icmp .ge 24, 3) := by decide +kernel
theorem dX8_newOne_18 : decode cX8_newOne 18 = .ok (.aload_n 0, 1) := by decide +kernel
theorem dX8_newOne_19 : decode cX8_newOne 19 = .ok (.getfield 23, 3) := by decide +kernel
theorem dX8_newOne_22 : decode cX8_newOne 22 = .ok (.bipush 12, 2) := by decide +kernel
theorem dX8_newOne_24 : decode cX8_newOne 24 = .ok (.aload_n 0, 1) := by decide +kernel
theorem dX8_newOne_25 : decode cX8_newOne 25 = .ok (.getfield 83, 3) := by decide +kernel
theorem dX8_newOne_28 : decode cX8_newOne 28 = .ok (.imul, 1) := by decide +kernel
theorem dX8_newOne_29 : decode cX8_newOne 29 = .ok (.iload_n 2, 1) := by decide +kernel
theorem dX8_newOne_30 : decode cX8_newOne 30 = .ok (.iadd, 1) := by decide +kernel
theorem dX8_newOne_31 : decode cX8_newOne 31 = .ok (.iconst 0, 1) := by decide +kernel
theorem dX8_newOne_32 : decode cX8_newOne 32 = .ok (.iastore, 1) := by decide +kernel
theorem dX8_newOne_33 : decode cX8_newOne 33 = .ok (.iinc 2 1, 3) := by decide +kernel
theorem dX8_newOne_36 : decode cX8_newOne 36 = .ok (.goto (-24), 3) := by decide +kernel
theorem dX8_newOne_39 : decode cX8_newOne 39 = .ok (.aload_n 0, 1) := by decide +kernel
theorem dX8_newOne_40 : decode cX8_newOne 40 = .ok (.dup, 1) := by decide +kernel
theorem dX8_newOne_41 : decode cX8_newOne 41 = .ok (.getfield 83, 3) := by decide +kernel
theorem dX8_newOne_44 : decode cX8_newOne 44 = .ok (.dup_x1, 1) := by decide +kernel
theorem dX8_newOne_45 : decode cX8_newOne 45 = .ok (.iconst 1, 1) := by decide +kernel
theorem dX8_newOne_46 : decode cX8_newOne 46 = .ok (.iadd, 1) := by decide +kernel
theorem dX8_newOne_47 : decode cX8_newOne 47 = .ok (.putfield 83, 3) := by decide +kernel
theorem dX8_newOne_50 : decode cX8_newOne 50 = .ok (.ireturn, 1) := by decide +kernel
theorem dX8_person_0 : decode cX8_person 0 = .ok (.iload_n 1, 1) := by decide +kernel
theorem dX8_person_1 : decode cX8_person 1 = .ok (.invokestatic 113, 3) := by decide +kernel
theorem dX8_person_4 : decode cX8_person 4 = .ok (.ifCond .ne 10, 3) := by decide +kernel
theorem dX8_person_7 : decode cX8_person 7 = .ok (.aload_n 0, 1) := by decide +kernel
theorem dX8_person_8 : decode cX8_person 8 = .ok (.bipush (-6), 2) := by decide +kernel
theorem dX8_person_10 : decode cX8_person 10 = .ok (.invokevirtual 72, 3) := by decide +kernel
theorem dX8_person_13 : decode cX8_person 13 = .ok (.ireturn, 1) := by decide +kernel
theorem dX8_person_14 : decode cX8_person 14 = .ok (.aload_n 0, 1) := by decide +kernel
theorem dX8_person_15 : decode cX8_person 15 = .ok (.getfield 83, 3) := by decide +kernel
theorem dX8_person_18 : decode cX8_person 18 = .ok (.bipush 6, 2) := by decide +kernel
theorem dX8_person_20 : decode cX8_person 20 = .ok (.if_icmp .ne 12, 3) := by decide +kernel
theorem dX8_person_23 : decode cX8_person 23 = .ok (.aload_n 0, 1) := by decide +kernel
theorem dX8_person_24 : decode cX8_person 24 = .ok (.bipush (-7), 2) := by decide +kernel
theorem dX8_person_26 : decode cX8_person 26 = .ok (.invokevirtual 72, 3) := by decide +kernel
theorem dX8_person_29 : decode cX8_person 29 = .ok (.goto 8, 3) := by decide +kernel
theorem dX8_person_32 : decode cX8_person 32 = .ok (.aload_n 0, 1) := by decide +kernel
theorem dX8_person_33 : decode cX8_person 33 = .ok (.iload_n 1, 1) := by decide +kernel
theorem dX8_person_34 : decode cX8_person 34 = .ok (.invokevirtual 116, 3) := by decide +kernel
theorem dX8_person_37 : decode cX8_person 37 = .ok (.ireturn, 1) := by decide +kernel
theorem dX8_newGarment_0 : decode cX8_newGarment 0 = .ok (.aload_n 0, 1) := by decide +kernel
theorem dX8_newGarment_1 : decode cX8_newGarment 1 = .ok (.getfield 26, 3) := by decide +kernel
theorem dX8_newGarment_4 : decode cX8_newGarment 4 = .ok (.aload_n 0, 1) := by decide +kernel
theorem dX8_newGarment_5 : decode cX8_newGarment 5 = .ok (.getfield 76, 3) := by decide +kernel
theorem dX8_newGarment_8 : decode cX8_newGarment 8 = .ok (.iload_n 1, 1) := by decide +kernel
theorem dX8_newGarment_9 : decode cX8_newGarment 9 = .ok (.iastore, 1) := by decide +kernel
theorem dX8_newGarment_10 : decode cX8_newGarment 10 = .ok (.aload_n 0, 1) := by decide +kernel
theorem dX8_newGarment_11 : decode cX8_newGarment 11 = .ok (.getfield 29, 3) := by decide +kernel
theorem dX8_newGarment_14 : decode cX8_newGarment 14 = .ok (.aload_n 0, 1) := by decide +kernel
theorem dX8_newGarment_15 : decode cX8_newGarment 15 = .ok (.getfield 76, 3) := by decide +kernel
theorem dX8_newGarment_18 : decode cX8_newGarment 18 = .ok (.iload_n 2, 1) := by decide +kernel
theorem dX8_newGarment_19 : decode cX8_newGarment 19 = .ok (.iastore, 1) := by decide +kernel
theorem dX8_newGarment_20 : decode cX8_newGarment 20 = .ok (.aload_n 0, 1) := by decide +kernel
theorem dX8_newGarment_21 : decode cX8_newGarment 21 = .ok (.getfield 32, 3) := by decide +kernel
theorem dX8_newGarment_24 : decode cX8_newGarment 24 = .ok (.aload_n 0, 1) := by decide +kernel
theorem dX8_newGarment_25 : decode cX8_newGarment 25 = .ok (.getfield 76, 3) := by decide +kernel
theorem dX8_newGarment_28 : decode cX8_newGarment 28 = .ok (.iconst (-1), 1) := by decide +kernel
theorem dX8_newGarment_29 : decode cX8_newGarment 29 = .ok (.iastore, 1) := by decide +kernel
theorem dX8_newGarment_30 : decode cX8_newGarment 30 = .ok (.iconst 0, 1) := by decide +kernel
theorem dX8_newGarment_31 : decode cX8_newGarment 31 = .ok (.istore_n 3, 1) := by decide +kernel
theorem dX8_newGarment_32 : decode cX8_newGarment 32 = .ok (.iload_n 3, 1) := by decide +kernel
theorem dX8_newGarment_33 : decode cX8_newGarment 33 = .ok (.bipush 12, 2) := by decide +kernel
theorem dX8_newGarment_35 : decode cX8_newGarment 35 = .ok (.if_icmp .ge 39, 3) := by decide +kernel
theorem dX8_newGarment_38 : decode cX8_newGarment 38 = .ok (.aload_n 0, 1) := by decide +kernel
theorem dX8_newGarment_39 : decode cX8_newGarment 39 = .ok (.getfield 35, 3) := by decide +kernel
theorem dX8_newGarment_42 : decode cX8_newGarment 42 = .ok (.bipush 12, 2) := by decide +kernel
theorem dX8_newGarment_44 : decode cX8_newGarment 44 = .ok (.aload_n 0, 1) := by decide +kernel
theorem dX8_newGarment_45 : decode cX8_newGarment 45 = .ok (.getfield 76, 3) := by decide +kernel
theorem dX8_newGarment_48 : decode cX8_newGarment 48 = .ok (.imul, 1) := by decide +kernel
theorem dX8_newGarment_49 : decode cX8_newGarment 49 = .ok (.iload_n 3, 1) := by decide +kernel
theorem dX8_newGarment_50 : decode cX8_newGarment 50 = .ok (.iadd, 1) := by decide +kernel
theorem dX8_newGarment_51 : decode cX8_newGarment 51 = .ok (.iconst 0, 1) := by decide +kernel
theorem dX8_newGarment_52 : decode cX8_newGarment 52 = .ok (.iastore, 1) := by decide +kernel
theorem dX8_newGarment_53 : decode cX8_newGarment 53 = .ok (.aload_n 0, 1) := by decide +kernel
theorem dX8_newGarment_54 : decode cX8_newGarment 54 = .ok (.getfield 38, 3) := by decide +kernel
theorem dX8_newGarment_57 : decode cX8_newGarment 57 = .ok (.bipush 12, 2) := by decide +kernel
theorem dX8_newGarment_59 : decode cX8_newGarment 59 = .ok (.aload_n 0, 1) := by decide +kernel
theorem dX8_newGarment_60 : decode cX8_newGarment 60 = .ok (.getfield 76, 3) := by decide +kernel
theorem dX8_newGarment_63 : decode cX8_newGarment 63 = .ok (.imul, 1) := by decide +kernel
theorem dX8_newGarment_64 : decode cX8_newGarment 64 = .ok (.iload_n 3, 1) := by decide +kernel
theorem dX8_newGarment_65 : decode cX8_newGarment 65 = .ok (.iadd, 1) := by decide +kernel
theorem dX8_newGarment_66 : decode cX8_newGarment 66 = .ok (.iconst 0, 1) := by decide +kernel
theorem dX8_newGarment_67 : decode cX8_newGarment 67 = .ok (.iastore, 1) := by decide +kernel
theorem dX8_newGarment_68 : decode cX8_newGarment 68 = .ok (.iinc 3 1, 3) := by decide +kernel
theorem dX8_newGarment_71 : decode cX8_newGarment 71 = .ok (.goto (-39), 3) := by decide +kernel
theorem dX8_newGarment_74 : decode cX8_newGarment 74 = .ok (.aload_n 0, 1) := by decide +kernel
theorem dX8_newGarment_75 : decode cX8_newGarment 75 = .ok (.dup, 1) := by decide +kernel
theorem dX8_newGarment_76 : decode cX8_newGarment 76 = .ok (.getfield 76, 3) := by decide +kernel
theorem dX8_newGarment_79 : decode cX8_newGarment 79 = .ok (.dup_x1, 1) := by decide +kernel
theorem dX8_newGarment_80 : decode cX8_newGarment 80 = .ok (.iconst 1, 1) := by decide +kernel
theorem dX8_newGarment_81 : decode cX8_newGarment 81 = .ok (.iadd, 1) := by decide +kernel
theorem dX8_newGarment_82 : decode cX8_newGarment 82 = .ok (.putfield 76, 3) := by decide +kernel
theorem dX8_newGarment_85 : decode cX8_newGarment 85 = .ok (.ireturn, 1) := by decide +kernel
theorem dX8_garment_0 : decode cX8_garment 0 = .ok (.iload_n 1, 1) := by decide +kernel
theorem dX8_garment_1 : decode cX8_garment 1 = .ok (.iconst 0, 1) := by decide +kernel
theorem dX8_garment_2 : decode cX8_garment 2 = .ok (.bipush 6, 2) := by decide +kernel
theorem dX8_garment_4 : decode cX8_garment 4 = .ok (.invokestatic 79, 3) := by decide +kernel
theorem dX8_garment_7 : decode cX8_garment 7 = .ok (.ifCond .ne 9, 3) := by decide +kernel
theorem dX8_garment_10 : decode cX8_garment 10 = .ok (.aload_n 0, 1) := by decide +kernel
theorem dX8_garment_11 : decode cX8_garment 11 = .ok (.iconst (-1), 1) := by decide +kernel
theorem dX8_garment_12 : decode cX8_garment 12 = .ok (.invokevirtual 72, 3) := by decide +kernel
theorem dX8_garment_15 : decode cX8_garment 15 = .ok (.ireturn, 1) := by decide +kernel
theorem dX8_garment_16 : decode cX8_garment 16 = .ok (.iload_n 2, 1) := by decide +kernel
theorem dX8_garment_17 : decode cX8_garment 17 = .ok (.invokestatic 113, 3) := by decide +kernel
theorem dX8_garment_20 : decode cX8_garment 20 = .ok (.ifCond .ne 10, 3) := by decide +kernel
theorem dX8_garment_23 : decode cX8_garment 23 = .ok (.aload_n 0, 1) := by decide +kernel
theorem dX8_garment_24 : decode cX8_garment 24 = .ok (.bipush (-6), 2) := by decide +kernel
theorem dX8_garment_26 : decode cX8_garment 26 = .ok (.invokevirtual 72, 3) := by decide +kernel
theorem dX8_garment_29 : decode cX8_garment 29 = .ok (.ireturn, 1) := by decide +kernel
theorem dX8_garment_30 : decode cX8_garment 30 = .ok (.aload_n 0, 1) := by decide +kernel
theorem dX8_garment_31 : decode cX8_garment 31 = .ok (.getfield 76, 3) := by decide +kernel
theorem dX8_garment_34 : decode cX8_garment 34 = .ok (.bipush 8, 2) := by decide +kernel
theorem dX8_garment_36 : decode cX8_garment 36 = .ok (.if_icmp .ne 12, 3) := by decide +kernel
theorem dX8_garment_39 : decode cX8_garment 39 = .ok (.aload_n 0, 1) := by decide +kernel
theorem dX8_garment_40 : decode cX8_garment 40 = .ok (.bipush (-7), 2) := by decide +kernel
theorem dX8_garment_42 : decode cX8_garment 42 = .ok (.invokevirtual 72, 3) := by decide +kernel
theorem dX8_garment_45 : decode cX8_garment 45 = .ok (.goto 9, 3) := by decide +kernel
theorem dX8_garment_48 : decode cX8_garment 48 = .ok (.aload_n 0, 1) := by decide +kernel
theorem dX8_garment_49 : decode cX8_garment 49 = .ok (.iload_n 1, 1) := by decide +kernel
theorem dX8_garment_50 : decode cX8_garment 50 = .ok (.iload_n 2, 1) := by decide +kernel
theorem dX8_garment_51 : decode cX8_garment 51 = .ok (.invokevirtual 119, 3) := by decide +kernel
theorem dX8_garment_54 : decode cX8_garment 54 = .ok (.ireturn, 1) := by decide +kernel
theorem dX8_own_0 : decode cX8_own 0 = .ok (.aload_n 0, 1) := by decide +kernel
theorem dX8_own_1 : decode cX8_own 1 = .ok (.iload_n 1, 1) := by decide +kernel
theorem dX8_own_2 : decode cX8_own 2 = .ok (.invokevirtual 122, 3) := by decide +kernel
theorem dX8_own_5 : decode cX8_own 5 = .ok (.ifCond .ne 9, 3) := by decide +kernel
theorem dX8_own_8 : decode cX8_own 8 = .ok (.aload_n 0, 1) := by decide +kernel
theorem dX8_own_9 : decode cX8_own 9 = .ok (.iconst (-1), 1) := by decide +kernel
theorem dX8_own_10 : decode cX8_own 10 = .ok (.invokevirtual 72, 3) := by decide +kernel
theorem dX8_own_13 : decode cX8_own 13 = .ok (.ireturn, 1) := by decide +kernel
theorem dX8_own_14 : decode cX8_own 14 = .ok (.iload_n 2, 1) := by decide +kernel
theorem dX8_own_15 : decode cX8_own 15 = .ok (.invokestatic 125, 3) := by decide +kernel
theorem dX8_own_18 : decode cX8_own 18 = .ok (.ifCond .eq 10, 3) := by decide +kernel
theorem dX8_own_21 : decode cX8_own 21 = .ok (.iload_n 3, 1) := by decide +kernel
theorem dX8_own_22 : decode cX8_own 22 = .ok (.invokestatic 113, 3) := by decide +kernel
theorem dX8_own_25 : decode cX8_own 25 = .ok (.ifCond .ne 10, 3) := by decide +kernel
theorem dX8_own_28 : decode cX8_own 28 = .ok (.aload_n 0, 1) := by decide +kernel
theorem dX8_own_29 : decode cX8_own 29 = .ok (.bipush (-6), 2) := by decide +kernel
theorem dX8_own_31 : decode cX8_own 31 = .ok (.invokevirtual 72, 3) := by decide +kernel
theorem dX8_own_34 : decode cX8_own 34 = .ok (.ireturn, 1) := by decide +kernel
theorem dX8_own_35 : decode cX8_own 35 = .ok (.aload_n 0, 1) := by decide +kernel
theorem dX8_own_36 : decode cX8_own 36 = .ok (.getfield 23, 3) := by decide +kernel
theorem dX8_own_39 : decode cX8_own 39 = .ok (.bipush 12, 2) := by decide +kernel
theorem dX8_own_41 : decode cX8_own 41 = .ok (.iload_n 1, 1) := by decide +kernel
theorem dX8_own_42 : decode cX8_own 42 = .ok (.imul, 1) := by decide +kernel
theorem dX8_own_43 : decode cX8_own 43 = .ok (.iload_n 2, 1) := by decide +kernel
theorem dX8_own_44 : decode cX8_own 44 = .ok (.iadd, 1) := by decide +kernel
theorem dX8_own_45 : decode cX8_own 45 = .ok (.iaload, 1) := by decide +kernel
theorem dX8_own_46 : decode cX8_own 46 = .ok (.istore 4, 2) := by decide +kernel
theorem dX8_own_48 : decode cX8_own 48 = .ok (.aload_n 0, 1) := by decide +kernel
theorem dX8_own_49 : decode cX8_own 49 = .ok (.getfield 23, 3) := by decide +kernel
theorem dX8_own_52 : decode cX8_own 52 = .ok (.bipush 12, 2) := by decide +kernel
theorem dX8_own_54 : decode cX8_own 54 = .ok (.iload_n 1, 1) := by decide +kernel
theorem dX8_own_55 : decode cX8_own 55 = .ok (.imul, 1) := by decide +kernel
theorem dX8_own_56 : decode cX8_own 56 = .ok (.iload_n 2, 1) := by decide +kernel
theorem dX8_own_57 : decode cX8_own 57 = .ok (.iadd, 1) := by decide +kernel
theorem dX8_own_58 : decode cX8_own 58 = .ok (.iload_n 3, 1) := by decide +kernel
theorem dX8_own_59 : decode cX8_own 59 = .ok (.iastore, 1) := by decide +kernel
theorem dX8_own_60 : decode cX8_own 60 = .ok (.iload 4, 2) := by decide +kernel
theorem dX8_own_62 : decode cX8_own 62 = .ok (.ireturn, 1) := by decide +kernel
theorem dX8_becomes_0 : decode cX8_becomes 0 = .ok (.aload_n 0, 1) := by decide +kernel
theorem dX8_becomes_1 : decode cX8_becomes 1 = .ok (.getfield 35, 3) := by decide +kernel
theorem dX8_becomes_4 : decode cX8_becomes 4 = .ok (.bipush 12, 2) := by decide +kernel
theorem dX8_becomes_6 : decode cX8_becomes 6 = .ok (.iload_n 1, 1) := by decide +kernel
theorem dX8_becomes_7 : decode cX8_becomes 7 = .ok (.imul, 1) := by decide +kernel
theorem dX8_becomes_8 : decode cX8_becomes 8 = .ok (.iload_n 2, 1) := by decide +kernel
theorem dX8_becomes_9 : decode cX8_becomes 9 = .ok (.iadd, 1) := by decide +kernel
theorem dX8_becomes_10 : decode cX8_becomes 10 = .ok (.iload_n 3, 1) := by decide +kernel
theorem dX8_becomes_11 : decode cX8_becomes 11 = .ok (.iastore, 1) := by decide +kernel
theorem dX8_becomes_12 : decode cX8_becomes 12 = .ok (.aload_n 0, 1) := by decide +kernel
theorem dX8_becomes_13 : decode cX8_becomes 13 = .ok (.getfield 38, 3) := by decide +kernel
theorem dX8_becomes_16 : decode cX8_becomes 16 = .ok (.bipush 12, 2) := by decide +kernel
theorem dX8_becomes_18 : decode cX8_becomes 18 = .ok (.iload_n 1, 1) := by decide +kernel
theorem dX8_becomes_19 : decode cX8_becomes 19 = .ok (.imul, 1) := by decide +kernel
theorem dX8_becomes_20 : decode cX8_becomes 20 = .ok (.iload_n 2, 1) := by decide +kernel
theorem dX8_becomes_21 : decode cX8_becomes 21 = .ok (.iadd, 1) := by decide +kernel
theorem dX8_becomes_22 : decode cX8_becomes 22 = .ok (.iload 4, 2) := by decide +kernel
theorem dX8_becomes_24 : decode cX8_becomes 24 = .ok (.iastore, 1) := by decide +kernel
theorem dX8_becomes_25 : decode cX8_becomes 25 = .ok (.return_, 1) := by decide +kernel
theorem dX8_habit_0 : decode cX8_habit 0 = .ok (.aload_n 0, 1) := by decide +kernel
theorem dX8_habit_1 : decode cX8_habit 1 = .ok (.iload_n 1, 1) := by decide +kernel
theorem dX8_habit_2 : decode cX8_habit 2 = .ok (.invokevirtual 93, 3) := by decide +kernel
theorem dX8_habit_5 : decode cX8_habit 5 = .ok (.ifCond .ne 9, 3) := by decide +kernel
theorem dX8_habit_8 : decode cX8_habit 8 = .ok (.aload_n 0, 1) := by decide +kernel
theorem dX8_habit_9 : decode cX8_habit 9 = .ok (.iconst (-1), 1) := by decide +kernel
theorem dX8_habit_10 : decode cX8_habit 10 = .ok (.invokevirtual 72, 3) := by decide +kernel
theorem dX8_habit_13 : decode cX8_habit 13 = .ok (.ireturn, 1) := by decide +kernel
theorem dX8_habit_14 : decode cX8_habit 14 = .ok (.iload_n 2, 1) := by decide +kernel
theorem dX8_habit_15 : decode cX8_habit 15 = .ok (.invokestatic 125, 3) := by decide +kernel
theorem dX8_habit_18 : decode cX8_habit 18 = .ok (.ifCond .eq 40, 3) := by decide +kernel
theorem dX8_habit_21 : decode cX8_habit 21 = .ok (.iload_n 3, 1) := by decide +kernel
theorem dX8_habit_22 : decode cX8_habit 22 = .ok (.invokestatic 113, 3) := by decide +kernel
theorem dX8_habit_25 : decode cX8_habit 25 = .ok (.ifCond .eq 33, 3) := by decide +kernel
theorem dX8_habit_28 : decode cX8_habit 28 = .ok (.iload 4, 2) := by decide +kernel
theorem dX8_habit_30 : decode cX8_habit 30 = .ok (.invokestatic 113, 3) := by decide +kernel
theorem dX8_habit_33 : decode cX8_habit 33 = .ok (.ifCond .eq 25, 3) := by decide +kernel
theorem dX8_habit_36 : decode cX8_habit 36 = .ok (.iload_n 3, 1) := by decide +kernel
theorem dX8_habit_37 : decode cX8_habit 37 = .ok (.ifCond .ne 7, 3) := by decide +kernel
theorem dX8_habit_40 : decode cX8_habit 40 = .ok (.iconst 1, 1) := by decide +kernel
theorem dX8_habit_41 : decode cX8_habit 41 = .ok (.goto 4, 3) := by decide +kernel
theorem dX8_habit_44 : decode cX8_habit 44 = .ok (.iconst 0, 1) := by decide +kernel
theorem dX8_habit_45 : decode cX8_habit 45 = .ok (.iload 4, 2) := by decide +kernel
theorem dX8_habit_47 : decode cX8_habit 47 = .ok (.ifCond .ne 7, 3) := by decide +kernel
theorem dX8_habit_50 : decode cX8_habit 50 = .ok (.iconst 1, 1) := by decide +kernel
theorem dX8_habit_51 : decode cX8_habit 51 = .ok (.goto 4, 3) := by decide +kernel
theorem dX8_habit_54 : decode cX8_habit 54 = .ok (.iconst 0, 1) := by decide +kernel
theorem dX8_habit_55 : decode cX8_habit 55 = .ok (.if_icmp .eq 10, 3) := by decide +kernel
theorem dX8_habit_58 : decode cX8_habit 58 = .ok (.aload_n 0, 1) := by decide +kernel
theorem dX8_habit_59 : decode cX8_habit 59 = .ok (.bipush (-6), 2) := by decide +kernel
theorem dX8_habit_61 : decode cX8_habit 61 = .ok (.invokevirtual 72, 3) := by decide +kernel
theorem dX8_habit_64 : decode cX8_habit 64 = .ok (.ireturn, 1) := by decide +kernel
theorem dX8_habit_65 : decode cX8_habit 65 = .ok (.aload_n 0, 1) := by decide +kernel
theorem dX8_habit_66 : decode cX8_habit 66 = .ok (.getfield 35, 3) := by decide +kernel
theorem dX8_habit_69 : decode cX8_habit 69 = .ok (.bipush 12, 2) := by decide +kernel
theorem dX8_habit_71 : decode cX8_habit 71 = .ok (.iload_n 1, 1) := by decide +kernel
theorem dX8_habit_72 : decode cX8_habit 72 = .ok (.imul, 1) := by decide +kernel
theorem dX8_habit_73 : decode cX8_habit 73 = .ok (.iload_n 2, 1) := by decide +kernel
theorem dX8_habit_74 : decode cX8_habit 74 = .ok (.iadd, 1) := by decide +kernel
theorem dX8_habit_75 : decode cX8_habit 75 = .ok (.iaload, 1) := by decide +kernel
theorem dX8_habit_76 : decode cX8_habit 76 = .ok (.istore 5, 2) := by decide +kernel
theorem dX8_habit_78 : decode cX8_habit 78 = .ok (.aload_n 0, 1) := by decide +kernel
theorem dX8_habit_79 : decode cX8_habit 79 = .ok (.iload_n 1, 1) := by decide +kernel
theorem dX8_habit_80 : decode cX8_habit 80 = .ok (.iload_n 2, 1) := by decide +kernel
theorem dX8_habit_81 : decode cX8_habit 81 = .ok (.iload_n 3, 1) := by decide +kernel
theorem dX8_habit_82 : decode cX8_habit 82 = .ok (.iload 4, 2) := by decide +kernel
theorem dX8_habit_84 : decode cX8_habit 84 = .ok (.invokevirtual 128, 3) := by decide +kernel
theorem dX8_habit_87 : decode cX8_habit 87 = .ok (.iload 5, 2) := by decide +kernel
theorem dX8_habit_89 : decode cX8_habit 89 = .ok (.ireturn, 1) := by decide +kernel
theorem dX8_wear_0 : decode cX8_wear 0 = .ok (.aload_n 0, 1) := by decide +kernel
theorem dX8_wear_1 : decode cX8_wear 1 = .ok (.iload_n 1, 1) := by decide +kernel
theorem dX8_wear_2 : decode cX8_wear 2 = .ok (.invokevirtual 93, 3) := by decide +kernel
theorem dX8_wear_5 : decode cX8_wear 5 = .ok (.ifCond .eq 16, 3) := by decide +kernel
theorem dX8_wear_8 : decode cX8_wear 8 = .ok (.iload_n 2, 1) := by decide +kernel
theorem dX8_wear_9 : decode cX8_wear 9 = .ok (.iconst (-1), 1) := by decide +kernel
theorem dX8_wear_10 : decode cX8_wear 10 = .ok (.if_icmp .eq 17, 3) := by decide +kernel
theorem dX8_wear_13 : decode cX8_wear 13 = .ok (.aload_n 0, 1) := by decide +kernel
theorem dX8_wear_14 : decode cX8_wear 14 = .ok (.iload_n 2, 1) := by decide +kernel
theorem dX8_wear_15 : decode cX8_wear 15 = .ok (.invokevirtual 122, 3) := by decide +kernel
theorem dX8_wear_18 : decode cX8_wear 18 = .ok (.ifCond .ne 9, 3) := by decide +kernel
theorem dX8_wear_21 : decode cX8_wear 21 = .ok (.aload_n 0, 1) := by decide +kernel
theorem dX8_wear_22 : decode cX8_wear 22 = .ok (.iconst (-1), 1) := by decide +kernel
theorem dX8_wear_23 : decode cX8_wear 23 = .ok (.invokevirtual 132, 3) := by decide +kernel
theorem dX8_wear_26 : decode cX8_wear 26 = .ok (.ireturn, 1) := by decide +kernel
theorem dX8_wear_27 : decode cX8_wear 27 = .ok (.aload_n 0, 1) := by decide +kernel
theorem dX8_wear_28 : decode cX8_wear 28 = .ok (.getfield 32, 3) := by decide +kernel
theorem dX8_wear_31 : decode cX8_wear 31 = .ok (.iload_n 1, 1) := by decide +kernel
theorem dX8_wear_32 : decode cX8_wear 32 = .ok (.iaload, 1) := by decide +kernel
theorem dX8_wear_33 : decode cX8_wear 33 = .ok (.istore_n 3, 1) := by decide +kernel
theorem dX8_wear_34 : decode cX8_wear 34 = .ok (.aload_n 0, 1) := by decide +kernel
theorem dX8_wear_35 : decode cX8_wear 35 = .ok (.getfield 32, 3) := by decide +kernel
theorem dX8_wear_38 : decode cX8_wear 38 = .ok (.iload_n 1, 1) := by decide +kernel
theorem dX8_wear_39 : decode cX8_wear 39 = .ok (.iload_n 2, 1) := by decide +kernel
theorem dX8_wear_40 : decode cX8_wear 40 = .ok (.iastore, 1) := by decide +kernel
theorem dX8_wear_41 : decode cX8_wear 41 = .ok (.iload_n 3, 1) := by decide +kernel
theorem dX8_wear_42 : decode cX8_wear 42 = .ok (.ireturn, 1) := by decide +kernel
theorem dX8_will_0 : decode cX8_will 0 = .ok (.aload_n 0, 1) := by decide +kernel
theorem dX8_will_1 : decode cX8_will 1 = .ok (.iload_n 1, 1) := by decide +kernel
theorem dX8_will_2 : decode cX8_will 2 = .ok (.invokevirtual 122, 3) := by decide +kernel
theorem dX8_will_5 : decode cX8_will 5 = .ok (.ifCond .ne 9, 3) := by decide +kernel
theorem dX8_will_8 : decode cX8_will 8 = .ok (.aload_n 0, 1) := by decide +kernel
theorem dX8_will_9 : decode cX8_will 9 = .ok (.iconst (-1), 1) := by decide +kernel
theorem dX8_will_10 : decode cX8_will 10 = .ok (.invokevirtual 72, 3) := by decide +kernel
theorem dX8_will_13 : decode cX8_will 13 = .ok (.ireturn, 1) := by decide +kernel
theorem dX8_will_14 : decode cX8_will 14 = .ok (.iload_n 2, 1) := by decide +kernel
theorem dX8_will_15 : decode cX8_will 15 = .ok (.invokestatic 113, 3) := by decide +kernel
theorem dX8_will_18 : decode cX8_will 18 = .ok (.ifCond .ne 10, 3) := by decide +kernel
theorem dX8_will_21 : decode cX8_will 21 = .ok (.aload_n 0, 1) := by decide +kernel
theorem dX8_will_22 : decode cX8_will 22 = .ok (.bipush (-6), 2) := by decide +kernel
theorem dX8_will_24 : decode cX8_will 24 = .ok (.invokevirtual 72, 3) := by decide +kernel
theorem dX8_will_27 : decode cX8_will 27 = .ok (.ireturn, 1) := by decide +kernel
theorem dX8_will_28 : decode cX8_will 28 = .ok (.aload_n 0, 1) := by decide +kernel
theorem dX8_will_29 : decode cX8_will 29 = .ok (.getfield 20, 3) := by decide +kernel
theorem dX8_will_32 : decode cX8_will 32 = .ok (.iload_n 1, 1) := by decide +kernel
theorem dX8_will_33 : decode cX8_will 33 = .ok (.iaload, 1) := by decide +kernel
theorem dX8_will_34 : decode cX8_will 34 = .ok (.istore_n 3, 1) := by decide +kernel
theorem dX8_will_35 : decode cX8_will 35 = .ok (.aload_n 0, 1) := by decide +kernel
theorem dX8_will_36 : decode cX8_will 36 = .ok (.getfield 20, 3) := by decide +kernel
theorem dX8_will_39 : decode cX8_will 39 = .ok (.iload_n 1, 1) := by decide +kernel
theorem dX8_will_40 : decode cX8_will 40 = .ok (.iload_n 2, 1) := by decide +kernel
theorem dX8_will_41 : decode cX8_will 41 = .ok (.iastore, 1) := by decide +kernel
theorem dX8_will_42 : decode cX8_will 42 = .ok (.iload_n 3, 1) := by decide +kernel
theorem dX8_will_43 : decode cX8_will 43 = .ok (.ireturn, 1) := by decide +kernel
theorem dX8_garmentOf_0 : decode cX8_garmentOf 0 = .ok (.aload_n 0, 1) := by decide +kernel
theorem dX8_garmentOf_1 : decode cX8_garmentOf 1 = .ok (.iload_n 1, 1) := by decide +kernel
theorem dX8_garmentOf_2 : decode cX8_garmentOf 2 = .ok (.invokevirtual 93, 3) := by decide +kernel
theorem dX8_garmentOf_5 : decode cX8_garmentOf 5 = .ok (.ifCond .ne 10, 3) := by decide +kernel
theorem dX8_garmentOf_8 : decode cX8_garmentOf 8 = .ok (.aload_n 0, 1) := by decide +kernel
theorem dX8_garmentOf_9 : decode cX8_garmentOf 9 = .ok (.bipush (-5), 2) := by decide +kernel
theorem dX8_garmentOf_11 : decode cX8_garmentOf 11 = .ok (.invokevirtual 72, 3) := by decide +kernel
theorem dX8_garmentOf_14 : decode cX8_garmentOf 14 = .ok (.ireturn, 1) := by decide +kernel
theorem dX8_garmentOf_15 : decode cX8_garmentOf 15 = .ok (.iload_n 2, 1) := by decide +kernel
theorem dX8_garmentOf_16 : decode cX8_garmentOf 16 = .ok (.bipush 10, 2) := by decide +kernel
theorem dX8_garmentOf_18 : decode cX8_garmentOf 18 = .ok (.bipush 21, 2) := by decide +kernel
theorem dX8_garmentOf_20 : decode cX8_garmentOf 20 = .ok (.invokestatic 79, 3) := by decide +kernel
theorem dX8_garmentOf_23 : decode cX8_garmentOf 23 = .ok (.ifCond .eq 18, 3) := by decide +kernel
theorem dX8_garmentOf_26 : decode cX8_garmentOf 26 = .ok (.aload_n 0, 1) := by decide +kernel
theorem dX8_garmentOf_27 : decode cX8_garmentOf 27 = .ok (.getfield 35, 3) := by decide +kernel
theorem dX8_garmentOf_30 : decode cX8_garmentOf 30 = .ok (.bipush 12, 2) := by decide +kernel
theorem dX8_garmentOf_32 : decode cX8_garmentOf 32 = .ok (.iload_n 1, 1) := by decide +kernel
theorem dX8_garmentOf_33 : decode cX8_garmentOf 33 = .ok (.imul, 1) := by decide +kernel
theorem dX8_garmentOf_34 : decode cX8_garmentOf 34 = .ok (.iload_n 2, 1) := by decide +kernel
theorem dX8_garmentOf_35 : decode cX8_garmentOf 35 = .ok (.iadd, 1) := by decide +kernel
theorem dX8_garmentOf_36 : decode cX8_garmentOf 36 = .ok (.bipush 10, 2) := by decide +kernel
theorem dX8_garmentOf_38 : decode cX8_garmentOf 38 = .ok (.isub, 1) := by decide +kernel
theorem dX8_garmentOf_39 : decode cX8_garmentOf 39 = .ok (.iaload, 1) := by decide +kernel
theorem dX8_garmentOf_40 : decode cX8_garmentOf 40 = .ok (.ireturn, 1) := by decide +kernel
theorem dX8_garmentOf_41 : decode cX8_garmentOf 41 = .ok (.iload_n 2, 1) := by decide +kernel
theorem dX8_garmentOf_42 : decode cX8_garmentOf 42 = .ok (.bipush 30, 2) := by decide +kernel
theorem dX8_garmentOf_44 : decode cX8_garmentOf 44 = .ok (.bipush 41, 2) := by decide +kernel
theorem dX8_garmentOf_46 : decode cX8_garmentOf 46 = .ok (.invokestatic 79, 3) := by decide +kernel
theorem dX8_garmentOf_49 : decode cX8_garmentOf 49 = .ok (.ifCond .eq 18, 3) := by decide +kernel
theorem dX8_garmentOf_52 : decode cX8_garmentOf 52 = .ok (.aload_n 0, 1) := by decide +kernel
theorem dX8_garmentOf_53 : decode cX8_garmentOf 53 = .ok (.getfield 38, 3) := by decide +kernel
theorem dX8_garmentOf_56 : decode cX8_garmentOf 56 = .ok (.bipush 12, 2) := by decide +kernel
theorem dX8_garmentOf_58 : decode cX8_garmentOf 58 = .ok (.iload_n 1, 1) := by decide +kernel
theorem dX8_garmentOf_59 : decode cX8_garmentOf 59 = .ok (.imul, 1) := by decide +kernel
theorem dX8_garmentOf_60 : decode cX8_garmentOf 60 = .ok (.iload_n 2, 1) := by decide +kernel
theorem dX8_garmentOf_61 : decode cX8_garmentOf 61 = .ok (.iadd, 1) := by decide +kernel
theorem dX8_garmentOf_62 : decode cX8_garmentOf 62 = .ok (.bipush 30, 2) := by decide +kernel
theorem dX8_garmentOf_64 : decode cX8_garmentOf 64 = .ok (.isub, 1) := by decide +kernel
theorem dX8_garmentOf_65 : decode cX8_garmentOf 65 = .ok (.iaload, 1) := by decide +kernel
theorem dX8_garmentOf_66 : decode cX8_garmentOf 66 = .ok (.ireturn, 1) := by decide +kernel
theorem dX8_garmentOf_67 : decode cX8_garmentOf 67 = .ok (.iload_n 2, 1) := by decide +kernel
theorem dX8_garmentOf_68 : decode cX8_garmentOf 68 = .ok (.bipush 50, 2) := by decide +kernel
theorem dX8_garmentOf_70 : decode cX8_garmentOf 70 = .ok (.bipush 61, 2) := by decide +kernel
theorem dX8_garmentOf_72 : decode cX8_garmentOf 72 = .ok (.invokestatic 79, 3) := by decide +kernel
theorem dX8_garmentOf_75 : decode cX8_garmentOf 75 = .ok (.ifCond .eq 13, 3) := by decide +kernel
theorem dX8_garmentOf_78 : decode cX8_garmentOf 78 = .ok (.aload_n 0, 1) := by decide +kernel
theorem dX8_garmentOf_79 : decode cX8_garmentOf 79 = .ok (.iload_n 1, 1) := by decide +kernel
theorem dX8_garmentOf_80 : decode cX8_garmentOf 80 = .ok (.iload_n 2, 1) := by decide +kernel
theorem dX8_garmentOf_81 : decode cX8_garmentOf 81 = .ok (.bipush 50, 2) := by decide +kernel
theorem dX8_garmentOf_83 : decode cX8_garmentOf 83 = .ok (.isub, 1) := by decide +kernel
theorem dX8_garmentOf_84 : decode cX8_garmentOf 84 = .ok (.invokevirtual 135, 3) := by decide +kernel
theorem dX8_garmentOf_87 : decode cX8_garmentOf 87 = .ok (.ireturn, 1) := by decide +kernel
theorem dX8_garmentOf_88 : decode cX8_garmentOf 88 = .ok (.iload_n 2, 1) := by decide +kernel
theorem dX8_garmentOf_89 : decode cX8_garmentOf 89 = .ok (.tableswitch 50 0 2 #[27, 34, 41], 27) := by decide +kernel
theorem dX8_garmentOf_116 : decode cX8_garmentOf 116 = .ok (.aload_n 0, 1) := by decide +kernel
theorem dX8_garmentOf_117 : decode cX8_garmentOf 117 = .ok (.getfield 26, 3) := by decide +kernel
theorem dX8_garmentOf_120 : decode cX8_garmentOf 120 = .ok (.iload_n 1, 1) := by decide +kernel
theorem dX8_garmentOf_121 : decode cX8_garmentOf 121 = .ok (.iaload, 1) := by decide +kernel
theorem dX8_garmentOf_122 : decode cX8_garmentOf 122 = .ok (.ireturn, 1) := by decide +kernel
theorem dX8_garmentOf_123 : decode cX8_garmentOf 123 = .ok (.aload_n 0, 1) := by decide +kernel
theorem dX8_garmentOf_124 : decode cX8_garmentOf 124 = .ok (.getfield 29, 3) := by decide +kernel
theorem dX8_garmentOf_127 : decode cX8_garmentOf 127 = .ok (.iload_n 1, 1) := by decide +kernel
theorem dX8_garmentOf_128 : decode cX8_garmentOf 128 = .ok (.iaload, 1) := by decide +kernel
theorem dX8_garmentOf_129 : decode cX8_garmentOf 129 = .ok (.ireturn, 1) := by decide +kernel
theorem dX8_garmentOf_130 : decode cX8_garmentOf 130 = .ok (.aload_n 0, 1) := by decide +kernel
theorem dX8_garmentOf_131 : decode cX8_garmentOf 131 = .ok (.getfield 32, 3) := by decide +kernel
theorem dX8_garmentOf_134 : decode cX8_garmentOf 134 = .ok (.iload_n 1, 1) := by decide +kernel
theorem dX8_garmentOf_135 : decode cX8_garmentOf 135 = .ok (.iaload, 1) := by decide +kernel
theorem dX8_garmentOf_136 : decode cX8_garmentOf 136 = .ok (.iconst 1, 1) := by decide +kernel
theorem dX8_garmentOf_137 : decode cX8_garmentOf 137 = .ok (.iadd, 1) := by decide +kernel
theorem dX8_garmentOf_138 : decode cX8_garmentOf 138 = .ok (.ireturn, 1) := by decide +kernel
theorem dX8_garmentOf_139 : decode cX8_garmentOf 139 = .ok (.aload_n 0, 1) := by decide +kernel
theorem dX8_garmentOf_140 : decode cX8_garmentOf 140 = .ok (.bipush (-5), 2) := by decide +kernel
theorem dX8_garmentOf_142 : decode cX8_garmentOf 142 = .ok (.invokevirtual 72, 3) := by decide +kernel
theorem dX8_garmentOf_145 : decode cX8_garmentOf 145 = .ok (.ireturn, 1) := by decide +kernel
theorem dX8_personOf_0 : decode cX8_personOf 0 = .ok (.aload_n 0, 1) := by decide +kernel
theorem dX8_personOf_1 : decode cX8_personOf 1 = .ok (.iload_n 1, 1) := by decide +kernel
theorem dX8_personOf_2 : decode cX8_personOf 2 = .ok (.invokevirtual 122, 3) := by decide +kernel
theorem dX8_personOf_5 : decode cX8_personOf 5 = .ok (.ifCond .ne 10, 3) := by decide +kernel
theorem dX8_personOf_8 : decode cX8_personOf 8 = .ok (.aload_n 0, 1) := by decide +kernel
theorem dX8_personOf_9 : decode cX8_personOf 9 = .ok (.bipush (-5), 2) := by decide +kernel
theorem dX8_personOf_11 : decode cX8_personOf 11 = .ok (.invokevirtual 72, 3) := by decide +kernel
theorem dX8_personOf_14 : decode cX8_personOf 14 = .ok (.ireturn, 1) := by decide +kernel
theorem dX8_personOf_15 : decode cX8_personOf 15 = .ok (.iload_n 2, 1) := by decide +kernel
theorem dX8_personOf_16 : decode cX8_personOf 16 = .ok (.bipush 10, 2) := by decide +kernel
theorem dX8_personOf_18 : decode cX8_personOf 18 = .ok (.bipush 21, 2) := by decide +kernel
theorem dX8_personOf_20 : decode cX8_personOf 20 = .ok (.invokestatic 79, 3) := by decide +kernel
theorem dX8_personOf_23 : decode cX8_personOf 23 = .ok (.ifCond .eq 18, 3) := by decide +kernel
theorem dX8_personOf_26 : decode cX8_personOf 26 = .ok (.aload_n 0, 1) := by decide +kernel
theorem dX8_personOf_27 : decode cX8_personOf 27 = .ok (.getfield 23, 3) := by decide +kernel
theorem dX8_personOf_30 : decode cX8_personOf 30 = .ok (.bipush 12, 2) := by decide +kernel
theorem dX8_personOf_32 : decode cX8_personOf 32 = .ok (.iload_n 1, 1) := by decide +kernel
theorem dX8_personOf_33 : decode cX8_personOf 33 = .ok (.imul, 1) := by decide +kernel
theorem dX8_personOf_34 : decode cX8_personOf 34 = .ok (.iload_n 2, 1) := by decide +kernel
theorem dX8_personOf_35 : decode cX8_personOf 35 = .ok (.iadd, 1) := by decide +kernel
theorem dX8_personOf_36 : decode cX8_personOf 36 = .ok (.bipush 10, 2) := by decide +kernel
theorem dX8_personOf_38 : decode cX8_personOf 38 = .ok (.isub, 1) := by decide +kernel
theorem dX8_personOf_39 : decode cX8_personOf 39 = .ok (.iaload, 1) := by decide +kernel
theorem dX8_personOf_40 : decode cX8_personOf 40 = .ok (.ireturn, 1) := by decide +kernel
theorem dX8_personOf_41 : decode cX8_personOf 41 = .ok (.iconst 0, 1) := by decide +kernel
theorem dX8_personOf_42 : decode cX8_personOf 42 = .ok (.istore_n 3, 1) := by decide +kernel
theorem dX8_personOf_43 : decode cX8_personOf 43 = .ok (.iload_n 2, 1) := by decide +kernel
theorem dX8_personOf_44 : decode cX8_personOf 44 = .ok (.lookupswitch 73 #[(0, 28), (1, 35)], 28) := by decide +kernel
theorem dX8_personOf_72 : decode cX8_personOf 72 = .ok (.aload_n 0, 1) := by decide +kernel
theorem dX8_personOf_73 : decode cX8_personOf 73 = .ok (.getfield 20, 3) := by decide +kernel
theorem dX8_personOf_76 : decode cX8_personOf 76 = .ok (.iload_n 1, 1) := by decide +kernel
theorem dX8_personOf_77 : decode cX8_personOf 77 = .ok (.iaload, 1) := by decide +kernel
theorem dX8_personOf_78 : decode cX8_personOf 78 = .ok (.ireturn, 1) := by decide +kernel
theorem dX8_personOf_79 : decode cX8_personOf 79 = .ok (.iconst 0, 1) := by decide +kernel
theorem dX8_personOf_80 : decode cX8_personOf 80 = .ok (.istore 4, 2) := by decide +kernel
theorem dX8_personOf_82 : decode cX8_personOf 82 = .ok (.iload 4, 2) := by decide +kernel
theorem dX8_personOf_84 : decode cX8_personOf 84 = .ok (.aload_n 0, 1) := by decide +kernel
theorem dX8_personOf_85 : decode cX8_personOf 85 = .ok (.getfield 76, 3) := by decide +kernel
theorem dX8_personOf_88 : decode cX8_personOf 88 = .ok (.if_icmp .ge 27, 3) := by decide +kernel
theorem dX8_personOf_91 : decode cX8_personOf 91 = .ok (.aload_n 0, 1) := by decide +kernel
theorem dX8_personOf_92 : decode cX8_personOf 92 = .ok (.getfield 32, 3) := by decide +kernel
theorem dX8_personOf_95 : decode cX8_personOf 95 = .ok (.iload 4, 2) := by decide +kernel
theorem dX8_personOf_97 : decode cX8_personOf 97 = .ok (.iaload, 1) := by decide +kernel
theorem dX8_personOf_98 : decode cX8_personOf 98 = .ok (.iload_n 1, 1) := by decide +kernel
theorem dX8_personOf_99 : decode cX8_personOf 99 = .ok (.if_icmp .ne 10, 3) := by decide +kernel
theorem dX8_personOf_102 : decode cX8_personOf 102 = .ok (.iload_n 3, 1) := by decide +kernel
theorem dX8_personOf_103 : decode cX8_personOf 103 = .ok (.iconst 1, 1) := by decide +kernel
theorem dX8_personOf_104 : decode cX8_personOf 104 = .ok (.iload 4, 2) := by decide +kernel
theorem dX8_personOf_106 : decode cX8_personOf 106 = .ok (.ishl, 1) := by decide +kernel
theorem dX8_personOf_107 : decode cX8_personOf 107 = .ok (.ior, 1) := by decide +kernel
theorem dX8_personOf_108 : decode cX8_personOf 108 = .ok (.istore_n 3, 1) := by decide +kernel
theorem dX8_personOf_109 : decode cX8_personOf 109 = .ok (.iinc 4 1, 3) := by decide +kernel
theorem dX8_personOf_112 : decode cX8_personOf 112 = .ok (.goto (-30), 3) := by decide +kernel
theorem dX8_personOf_115 : decode cX8_personOf 115 = .ok (.iload_n 3, 1) := by decide +kernel
theorem dX8_personOf_116 : decode cX8_personOf 116 = .ok (.ireturn, 1) := by decide +kernel
theorem dX8_personOf_117 : decode cX8_personOf 117 = .ok (.aload_n 0, 1) := by decide +kernel
theorem dX8_personOf_118 : decode cX8_personOf 118 = .ok (.bipush (-5), 2) := by decide +kernel
theorem dX8_personOf_120 : decode cX8_personOf 120 = .ok (.invokevirtual 72, 3) := by decide +kernel
theorem dX8_personOf_123 : decode cX8_personOf 123 = .ok (.ireturn, 1) := by decide +kernel
theorem dX8_sign_0 : decode cX8_sign 0 = .ok (.aload_n 0, 1) := by decide +kernel
theorem dX8_sign_1 : decode cX8_sign 1 = .ok (.getfield 138, 3) := by decide +kernel
theorem dX8_sign_4 : decode cX8_sign 4 = .ok (.aload_n 0, 1) := by decide +kernel
theorem dX8_sign_5 : decode cX8_sign 5 = .ok (.getfield 13, 3) := by decide +kernel
theorem dX8_sign_8 : decode cX8_sign 8 = .ok (.aload_n 0, 1) := by decide +kernel
theorem dX8_sign_9 : decode cX8_sign 9 = .ok (.getfield 141, 3) := by decide +kernel
theorem dX8_sign_12 : decode cX8_sign 12 = .ok (.iaload, 1) := by decide +kernel
theorem dX8_sign_13 : decode cX8_sign 13 = .ok (.if_icmp .ge 25, 3) := by decide +kernel
theorem dX8_sign_16 : decode cX8_sign 16 = .ok (.aload_n 0, 1) := by decide +kernel
theorem dX8_sign_17 : decode cX8_sign 17 = .ok (.getfield 16, 3) := by decide +kernel
theorem dX8_sign_20 : decode cX8_sign 20 = .ok (.sipush 160, 3) := by decide +kernel
theorem dX8_sign_23 : decode cX8_sign 23 = .ok (.aload_n 0, 1) := by decide +kernel
theorem dX8_sign_24 : decode cX8_sign 24 = .ok (.getfield 141, 3) := by decide +kernel
theorem dX8_sign_27 : decode cX8_sign 27 = .ok (.imul, 1) := by decide +kernel
theorem dX8_sign_28 : decode cX8_sign 28 = .ok (.aload_n 0, 1) := by decide +kernel
theorem dX8_sign_29 : decode cX8_sign 29 = .ok (.getfield 138, 3) := by decide +kernel
theorem dX8_sign_32 : decode cX8_sign 32 = .ok (.iadd, 1) := by decide +kernel
theorem dX8_sign_33 : decode cX8_sign 33 = .ok (.laload, 1) := by decide +kernel
theorem dX8_sign_34 : decode cX8_sign 34 = .ok (.l2i, 1) := by decide +kernel
theorem dX8_sign_35 : decode cX8_sign 35 = .ok (.goto 4, 3) := by decide +kernel
theorem dX8_sign_38 : decode cX8_sign 38 = .ok (.iconst (-1), 1) := by decide +kernel
theorem dX8_sign_39 : decode cX8_sign 39 = .ok (.ireturn, 1) := by decide +kernel
theorem dX8_is_0 : decode cX8_is 0 = .ok (.aload_n 0, 1) := by decide +kernel
theorem dX8_is_1 : decode cX8_is 1 = .ok (.invokevirtual 144, 3) := by decide +kernel
theorem dX8_is_4 : decode cX8_is 4 = .ok (.iload_n 1, 1) := by decide +kernel
theorem dX8_is_5 : decode cX8_is 5 = .ok (.if_icmp .eq 5, 3) := by decide +kernel
theorem dX8_is_8 : decode cX8_is 8 = .ok (.iconst 0, 1) := by decide +kernel
theorem dX8_is_9 : decode cX8_is 9 = .ok (.ireturn, 1) := by decide +kernel
theorem dX8_is_10 : decode cX8_is 10 = .ok (.aload_n 0, 1) := by decide +kernel
theorem dX8_is_11 : decode cX8_is 11 = .ok (.dup, 1) := by decide +kernel
theorem dX8_is_12 : decode cX8_is 12 = .ok (.getfield 138, 3) := by decide +kernel
theorem dX8_is_15 : decode cX8_is 15 = .ok (.iconst 1, 1) := by decide +kernel
theorem dX8_is_16 : decode cX8_is 16 = .ok (.iadd, 1) := by decide +kernel
theorem dX8_is_17 : decode cX8_is 17 = .ok (.putfield 138, 3) := by decide +kernel
theorem dX8_is_20 : decode cX8_is 20 = .ok (.iconst 1, 1) := by decide +kernel
theorem dX8_is_21 : decode cX8_is 21 = .ok (.ireturn, 1) := by decide +kernel
theorem dX8_word_0 : decode cX8_word 0 = .ok (.iconst 0, 1) := by decide +kernel
theorem dX8_word_1 : decode cX8_word 1 = .ok (.istore_n 2, 1) := by decide +kernel
theorem dX8_word_2 : decode cX8_word 2 = .ok (.iload_n 2, 1) := by decide +kernel
theorem dX8_word_3 : decode cX8_word 3 = .ok (.aload_n 1, 1) := by decide +kernel
theorem dX8_word_4 : decode cX8_word 4 = .ok (.invokevirtual 148, 3) := by decide +kernel
theorem dX8_word_7 : decode cX8_word 7 = .ok (.if_icmp .ge 23, 3) := by decide +kernel
theorem dX8_word_10 : decode cX8_word 10 = .ok (.aload_n 0, 1) := by decide +kernel
theorem dX8_word_11 : decode cX8_word 11 = .ok (.aload_n 1, 1) := by decide +kernel
theorem dX8_word_12 : decode cX8_word 12 = .ok (.iload_n 2, 1) := by decide +kernel
theorem dX8_word_13 : decode cX8_word 13 = .ok (.invokevirtual 153, 3) := by decide +kernel
theorem dX8_word_16 : decode cX8_word 16 = .ok (.invokevirtual 157, 3) := by decide +kernel
theorem dX8_word_19 : decode cX8_word 19 = .ok (.ifCond .ne 5, 3) := by decide +kernel
theorem dX8_word_22 : decode cX8_word 22 = .ok (.iconst 0, 1) := by decide +kernel
theorem dX8_word_23 : decode cX8_word 23 = .ok (.ireturn, 1) := by decide +kernel
theorem dX8_word_24 : decode cX8_word 24 = .ok (.iinc 2 1, 3) := by decide +kernel
theorem dX8_word_27 : decode cX8_word 27 = .ok (.goto (-25), 3) := by decide +kernel
theorem dX8_word_30 : decode cX8_word 30 = .ok (.iconst 1, 1) := by decide +kernel
theorem dX8_word_31 : decode cX8_word 31 = .ok (.ireturn, 1) := by decide +kernel
theorem dX8_word__0 : decode cX8_word_ 0 = .ok (.aload_n 0, 1) := by decide +kernel
theorem dX8_word__1 : decode cX8_word_ 1 = .ok (.getfield 138, 3) := by decide +kernel
theorem dX8_word__4 : decode cX8_word_ 4 = .ok (.istore_n 3, 1) := by decide +kernel
theorem dX8_word__5 : decode cX8_word_ 5 = .ok (.aload_n 0, 1) := by decide +kernel
theorem dX8_word__6 : decode cX8_word_ 6 = .ok (.aload_n 1, 1) := by decide +kernel
theorem dX8_word__7 : decode cX8_word_ 7 = .ok (.invokevirtual 161, 3) := by decide +kernel
theorem dX8_word__10 : decode cX8_word_ 10 = .ok (.istore 4, 2) := by decide +kernel
theorem dX8_word__12 : decode cX8_word_ 12 = .ok (.iload 4, 2) := by decide +kernel
theorem dX8_word__14 : decode cX8_word_ 14 = .ok (.ifCond .eq 12, 3) := by decide +kernel
theorem dX8_word__17 : decode cX8_word_ 17 = .ok (.iload_n 2, 1) := by decide +kernel
theorem dX8_word__18 : decode cX8_word_ 18 = .ok (.ifCond .ne 8, 3) := by decide +kernel
theorem dX8_word__21 : decode cX8_word_ 21 = .ok (.aload_n 0, 1) := by decide +kernel
theorem dX8_word__22 : decode cX8_word_ 22 = .ok (.iload_n 3, 1) := by decide +kernel
theorem dX8_word__23 : decode cX8_word_ 23 = .ok (.putfield 138, 3) := by decide +kernel
theorem dX8_word__26 : decode cX8_word_ 26 = .ok (.iload 4, 2) := by decide +kernel
theorem dX8_word__28 : decode cX8_word_ 28 = .ok (.ifCond .eq 11, 3) := by decide +kernel
theorem dX8_word__31 : decode cX8_word_ 31 = .ok (.iload_n 2, 1) := by decide +kernel
theorem dX8_word__32 : decode cX8_word_ 32 = .ok (.ifCond .eq 7, 3) := by decide +kernel
theorem dX8_word__35 : decode cX8_word_ 35 = .ok (.iconst 1, 1) := by decide +kernel
theorem dX8_word__36 : decode cX8_word_ 36 = .ok (.goto 4, 3) := by decide +kernel
theorem dX8_word__39 : decode cX8_word_ 39 = .ok (.iconst 0, 1) := by decide +kernel
theorem dX8_word__40 : decode cX8_word_ 40 = .ok (.ireturn, 1) := by decide +kernel
theorem dX8_number_0 : decode cX8_number 0 = .ok (.aload_n 0, 1) := by decide +kernel
theorem dX8_number_1 : decode cX8_number 1 = .ok (.bipush 32, 2) := by decide +kernel
theorem dX8_number_3 : decode cX8_number 3 = .ok (.invokevirtual 157, 3) := by decide +kernel
theorem dX8_number_6 : decode cX8_number 6 = .ok (.ifCond .ne 5, 3) := by decide +kernel
theorem dX8_number_9 : decode cX8_number 9 = .ok (.iconst 0, 1) := by decide +kernel
theorem dX8_number_10 : decode cX8_number 10 = .ok (.ireturn, 1) := by decide +kernel
theorem dX8_number_11 : decode cX8_number 11 = .ok (.aload_n 0, 1) := by decide +kernel
theorem dX8_number_12 : decode cX8_number 12 = .ok (.getfield 138, 3) := by decide +kernel
theorem dX8_number_15 : decode cX8_number 15 = .ok (.istore 4, 2) := by decide +kernel
theorem dX8_number_17 : decode cX8_number 17 = .ok (.iconst 0, 1) := by decide +kernel
theorem dX8_number_18 : decode cX8_number 18 = .ok (.istore 5, 2) := by decide +kernel
theorem dX8_number_20 : decode cX8_number 20 = .ok (.aload_n 0, 1) := by decide +kernel
theorem dX8_number_21 : decode cX8_number 21 = .ok (.getfield 138, 3) := by decide +kernel
theorem dX8_number_24 : decode cX8_number 24 = .ok (.iload 4, 2) := by decide +kernel
theorem dX8_number_26 : decode cX8_number 26 = .ok (.isub, 1) := by decide +kernel
theorem dX8_number_27 : decode cX8_number 27 = .ok (.iconst 2, 1) := by decide +kernel
theorem dX8_number_28 : decode cX8_number 28 = .ok (.if_icmp .ge 49, 3) := by decide +kernel
theorem dX8_number_31 : decode cX8_number 31 = .ok (.aload_n 0, 1) := by decide +kernel
theorem dX8_number_32 : decode cX8_number 32 = .ok (.invokevirtual 144, 3) := by decide +kernel
theorem dX8_number_35 : decode cX8_number 35 = .ok (.bipush 48, 2) := by decide +kernel
theorem dX8_number_37 : decode cX8_number 37 = .ok (.if_icmp .lt 40, 3) := by decide +kernel
theorem dX8_number_40 : decode cX8_number 40 = .ok (.aload_n 0, 1) := by decide +kernel
theorem dX8_number_41 : decode cX8_number 41 = .ok (.invokevirtual 144, 3) := by decide +kernel
theorem dX8_number_44 : decode cX8_number 44 = .ok (.bipush 57, 2) := by decide +kernel
theorem dX8_number_46 : decode cX8_number 46 = .ok (.if_icmp .gt 31, 3) := by decide +kernel
theorem dX8_number_49 : decode cX8_number 49 = .ok (.bipush 10, 2) := by decide +kernel
theorem dX8_number_51 : decode cX8_number 51 = .ok (.iload 5, 2) := by decide +kernel
theorem dX8_number_53 : decode cX8_number 53 = .ok (.imul, 1) := by decide +kernel
theorem dX8_number_54 : decode cX8_number 54 = .ok (.aload_n 0, 1) := by decide +kernel
theorem dX8_number_55 : decode cX8_number 55 = .ok (.invokevirtual 144, 3) := by decide +kernel
theorem dX8_number_58 : decode cX8_number 58 = .ok (.iadd, 1) := by decide +kernel
theorem dX8_number_59 : decode cX8_number 59 = .ok (.bipush 48, 2) := by decide +kernel
theorem dX8_number_61 : decode cX8_number 61 = .ok (.isub, 1) := by decide +kernel
theorem dX8_number_62 : decode cX8_number 62 = .ok (.istore 5, 2) := by decide +kernel
theorem dX8_number_64 : decode cX8_number 64 = .ok (.aload_n 0, 1) := by decide +kernel
theorem dX8_number_65 : decode cX8_number 65 = .ok (.dup, 1) := by decide +kernel
theorem dX8_number_66 : decode cX8_number 66 = .ok (.getfield 138, 3) := by decide +kernel
theorem dX8_number_69 : decode cX8_number 69 = .ok (.iconst 1, 1) := by decide +kernel
theorem dX8_number_70 : decode cX8_number 70 = .ok (.iadd, 1) := by decide +kernel
theorem dX8_number_71 : decode cX8_number 71 = .ok (.putfield 138, 3) := by decide +kernel
theorem dX8_number_74 : decode cX8_number 74 = .ok (.goto (-54), 3) := by decide +kernel
theorem dX8_number_77 : decode cX8_number 77 = .ok (.aload_n 0, 1) := by decide +kernel
theorem dX8_number_78 : decode cX8_number 78 = .ok (.getfield 138, 3) := by decide +kernel
theorem dX8_number_81 : decode cX8_number 81 = .ok (.iload 4, 2) := by decide +kernel
theorem dX8_number_83 : decode cX8_number 83 = .ok (.if_icmp .ne 5, 3) := by decide +kernel
theorem dX8_number_86 : decode cX8_number 86 = .ok (.iconst 0, 1) := by decide +kernel
theorem dX8_number_87 : decode cX8_number 87 = .ok (.ireturn, 1) := by decide +kernel
theorem dX8_number_88 : decode cX8_number 88 = .ok (.aload_n 0, 1) := by decide +kernel
theorem dX8_number_89 : decode cX8_number 89 = .ok (.getfield 62, 3) := by decide +kernel
theorem dX8_number_92 : decode cX8_number 92 = .ok (.iload_n 1, 1) := by decide +kernel
theorem dX8_number_93 : decode cX8_number 93 = .ok (.iload 5, 2) := by decide +kernel
theorem dX8_number_95 : decode cX8_number 95 = .ok (.iastore, 1) := by decide +kernel
theorem dX8_number_96 : decode cX8_number 96 = .ok (.iload 5, 2) := by decide +kernel
theorem dX8_number_98 : decode cX8_number 98 = .ok (.iload_n 2, 1) := by decide +kernel
theorem dX8_number_99 : decode cX8_number 99 = .ok (.iload_n 3, 1) := by decide +kernel
theorem dX8_number_100 : decode cX8_number 100 = .ok (.invokestatic 79, 3) := by decide +kernel
theorem dX8_number_103 : decode cX8_number 103 = .ok (.istore 6, 2) := by decide +kernel
theorem dX8_number_105 : decode cX8_number 105 = .ok (.iload 6, 2) := by decide +kernel
theorem dX8_number_107 : decode cX8_number 107 = .ok (.ifCond .ne 9, 3) := by decide +kernel
theorem dX8_number_110 : decode cX8_number 110 = .ok (.aload_n 0, 1) := by decide +kernel
theorem dX8_number_111 : decode cX8_number 111 = .ok (.iload 4, 2) := by decide +kernel
theorem dX8_number_113 : decode cX8_number 113 = .ok (.putfield 138, 3) := by decide +kernel
theorem dX8_number_116 : decode cX8_number 116 = .ok (.iload 6, 2) := by decide +kernel
theorem dX8_number_118 : decode cX8_number 118 = .ok (.ireturn, 1) := by decide +kernel
theorem dX8_then_0 : decode cX8_then 0 = .ok (.aload_n 0, 1) := by decide +kernel
theorem dX8_then_1 : decode cX8_then 1 = .ok (.getfield 138, 3) := by decide +kernel
theorem dX8_then_4 : decode cX8_then 4 = .ok (.iconst 1, 1) := by decide +kernel
theorem dX8_then_5 : decode cX8_then 5 = .ok (.iadd, 1) := by decide +kernel
theorem dX8_then_6 : decode cX8_then 6 = .ok (.aload_n 0, 1) := by decide +kernel
theorem dX8_then_7 : decode cX8_then 7 = .ok (.getfield 13, 3) := by decide +kernel
theorem dX8_then_10 : decode cX8_then 10 = .ok (.aload_n 0, 1) := by decide +kernel
theorem dX8_then_11 : decode cX8_then 11 = .ok (.getfield 141, 3) := by decide +kernel
theorem dX8_then_14 : decode cX8_then 14 = .ok (.iaload, 1) := by decide +kernel
theorem dX8_then_15 : decode cX8_then 15 = .ok (.if_icmp .ge 32, 3) := by decide +kernel
theorem dX8_then_18 : decode cX8_then 18 = .ok (.aload_n 0, 1) := by decide +kernel
theorem dX8_then_19 : decode cX8_then 19 = .ok (.getfield 16, 3) := by decide +kernel
theorem dX8_then_22 : decode cX8_then 22 = .ok (.sipush 160, 3) := by decide +kernel
theorem dX8_then_25 : decode cX8_then 25 = .ok (.aload_n 0, 1) := by decide +kernel
theorem dX8_then_26 : decode cX8_then 26 = .ok (.getfield 141, 3) := by decide +kernel
theorem dX8_then_29 : decode cX8_then 29 = .ok (.imul, 1) := by decide +kernel
theorem dX8_then_30 : decode cX8_then 30 = .ok (.aload_n 0, 1) := by decide +kernel
theorem dX8_then_31 : decode cX8_then 31 = .ok (.getfield 138, 3) := by decide +kernel
theorem dX8_then_34 : decode cX8_then 34 = .ok (.iadd, 1) := by decide +kernel
theorem dX8_then_35 : decode cX8_then 35 = .ok (.iconst 1, 1) := by decide +kernel
theorem dX8_then_36 : decode cX8_then 36 = .ok (.iadd, 1) := by decide +kernel
theorem dX8_then_37 : decode cX8_then 37 = .ok (.laload, 1) := by decide +kernel
theorem dX8_then_38 : decode cX8_then 38 = .ok (.l2i, 1) := by decide +kernel
theorem dX8_then_39 : decode cX8_then 39 = .ok (.iload_n 1, 1) := by decide +kernel
theorem dX8_then_40 : decode cX8_then 40 = .ok (.if_icmp .ne 7, 3) := by decide +kernel
theorem dX8_then_43 : decode cX8_then 43 = .ok (.iconst 1, 1) := by decide +kernel
theorem dX8_then_44 : decode cX8_then 44 = .ok (.goto 4, 3) := by decide +kernel
theorem dX8_then_47 : decode cX8_then 47 = .ok (.iconst 0, 1) := by decide +kernel
theorem dX8_then_48 : decode cX8_then 48 = .ok (.ireturn, 1) := by decide +kernel
theorem dX8_item_0 : decode cX8_item 0 = .ok (.aload_n 0, 1) := by decide +kernel
theorem dX8_item_1 : decode cX8_item 1 = .ok (.invokevirtual 144, 3) := by decide +kernel
theorem dX8_item_4 : decode cX8_item 4 = .ok (.tableswitch 551 100 119 #[533, 551, 551, 145, 337, 551, 551, 551, 551, 551, 551, 211, 96, 551, 551, 551, 551, 551, 551, 426], 96) := by decide +kernel
theorem dX8_item_100 : decode cX8_item 100 = .ok (.aload_n 0, 1) := by decide +kernel
theorem dX8_item_101 : decode cX8_item 101 = .ok (.ldc 165, 2) := by decide +kernel
theorem dX8_item_103 : decode cX8_item 103 = .ok (.aload_n 0, 1) := by decide +kernel
theorem dX8_item_104 : decode cX8_item 104 = .ok (.getfield 83, 3) := by decide +kernel
theorem dX8_item_107 : decode cX8_item 107 = .ok (.bipush 6, 2) := by decide +kernel
theorem dX8_item_109 : decode cX8_item 109 = .ok (.if_icmp .ge 7, 3) := by decide +kernel
theorem dX8_item_112 : decode cX8_item 112 = .ok (.iconst 1, 1) := by decide +kernel
theorem dX8_item_113 : decode cX8_item 113 = .ok (.goto 4, 3) := by decide +kernel
theorem dX8_item_116 : decode cX8_item 116 = .ok (.iconst 0, 1) := by decide +kernel
theorem dX8_item_117 : decode cX8_item 117 = .ok (.invokevirtual 167, 3) := by decide +kernel
theorem dX8_item_120 : decode cX8_item 120 = .ok (.ifCond .eq 14, 3) := by decide +kernel
theorem dX8_item_123 : decode cX8_item 123 = .ok (.aload_n 0, 1) := by decide +kernel
theorem dX8_item_124 : decode cX8_item 124 = .ok (.iconst 0, 1) := by decide +kernel
theorem dX8_item_125 : decode cX8_item 125 = .ok (.iconst 0, 1) := by decide +kernel
theorem dX8_item_126 : decode cX8_item 126 = .ok (.bipush 9, 2) := by decide +kernel
theorem dX8_item_128 : decode cX8_item 128 = .ok (.invokevirtual 170, 3) := by decide +kernel
theorem dX8_item_131 : decode cX8_item 131 = .ok (.ifCond .ne 5, 3) := by decide +kernel
theorem dX8_item_134 : decode cX8_item 134 = .ok (.iconst 0, 1) := by decide +kernel
theorem dX8_item_135 : decode cX8_item 135 = .ok (.ireturn, 1) := by decide +kernel
theorem dX8_item_136 : decode cX8_item 136 = .ok (.aload_n 0, 1) := by decide +kernel
theorem dX8_item_137 : decode cX8_item 137 = .ok (.aload_n 0, 1) := by decide +kernel
theorem dX8_item_138 : decode cX8_item 138 = .ok (.getfield 62, 3) := by decide +kernel
theorem dX8_item_141 : decode cX8_item 141 = .ok (.iconst 0, 1) := by decide +kernel
theorem dX8_item_142 : decode cX8_item 142 = .ok (.iaload, 1) := by decide +kernel
theorem dX8_item_143 : decode cX8_item 143 = .ok (.invokevirtual 116, 3) := by decide +kernel
theorem dX8_item_146 : decode cX8_item 146 = .ok (.pop, 1) := by decide +kernel
theorem dX8_item_147 : decode cX8_item 147 = .ok (.iconst 1, 1) := by decide +kernel
theorem dX8_item_148 : decode cX8_item 148 = .ok (.ireturn, 1) := by decide +kernel
theorem dX8_item_149 : decode cX8_item 149 = .ok (.aload_n 0, 1) := by decide +kernel
theorem dX8_item_150 : decode cX8_item 150 = .ok (.ldc 173, 2) := by decide +kernel
theorem dX8_item_152 : decode cX8_item 152 = .ok (.aload_n 0, 1) := by decide +kernel
theorem dX8_item_153 : decode cX8_item 153 = .ok (.getfield 76, 3) := by decide +kernel
theorem dX8_item_156 : decode cX8_item 156 = .ok (.bipush 8, 2) := by decide +kernel
theorem dX8_item_158 : decode cX8_item 158 = .ok (.if_icmp .ge 7, 3) := by decide +kernel
theorem dX8_item_161 : decode cX8_item 161 = .ok (.iconst 1, 1) := by decide +kernel
theorem dX8_item_162 : decode cX8_item 162 = .ok (.goto 4, 3) := by decide +kernel
theorem dX8_item_165 : decode cX8_item 165 = .ok (.iconst 0, 1) := by decide +kernel
theorem dX8_item_166 : decode cX8_item 166 = .ok (.invokevirtual 167, 3) := by decide +kernel
theorem dX8_item_169 : decode cX8_item 169 = .ok (.ifCond .eq 25, 3) := by decide +kernel
theorem dX8_item_172 : decode cX8_item 172 = .ok (.aload_n 0, 1) := by decide +kernel
theorem dX8_item_173 : decode cX8_item 173 = .ok (.iconst 0, 1) := by decide +kernel
theorem dX8_item_174 : decode cX8_item 174 = .ok (.iconst 0, 1) := by decide +kernel
theorem dX8_item_175 : decode cX8_item 175 = .ok (.bipush 6, 2) := by decide +kernel
theorem dX8_item_177 : decode cX8_item 177 = .ok (.invokevirtual 170, 3) := by decide +kernel
theorem dX8_item_180 : decode cX8_item 180 = .ok (.ifCond .eq 14, 3) := by decide +kernel
theorem dX8_item_183 : decode cX8_item 183 = .ok (.aload_n 0, 1) := by decide +kernel
theorem dX8_item_184 : decode cX8_item 184 = .ok (.iconst 1, 1) := by decide +kernel
theorem dX8_item_185 : decode cX8_item 185 = .ok (.iconst 0, 1) := by decide +kernel
theorem dX8_item_186 : decode cX8_item 186 = .ok (.bipush 9, 2) := by decide +kernel
theorem dX8_item_188 : decode cX8_item 188 = .ok (.invokevirtual 170, 3) := by decide +kernel
theorem dX8_item_191 : decode cX8_item 191 = .ok (.ifCond .ne 5, 3) := by decide +kernel
theorem dX8_item_194 : decode cX8_item 194 = .ok (.iconst 0, 1) := by decide +kernel
theorem dX8_item_195 : decode cX8_item 195 = .ok (.ireturn, 1) := by decide +kernel
theorem dX8_item_196 : decode cX8_item 196 = .ok (.aload_n 0, 1) := by decide +kernel
theorem dX8_item_197 : decode cX8_item 197 = .ok (.aload_n 0, 1) := by decide +kernel
theorem dX8_item_198 : decode cX8_item 198 = .ok (.getfield 62, 3) := by decide +kernel
theorem dX8_item_201 : decode cX8_item 201 = .ok (.iconst 0, 1) := by decide +kernel
theorem dX8_item_202 : decode cX8_item 202 = .ok (.iaload, 1) := by decide +kernel
theorem dX8_item_203 : decode cX8_item 203 = .ok (.aload_n 0, 1) := by decide +kernel
theorem dX8_item_204 : decode cX8_item 204 = .ok (.getfield 62, 3) := by decide +kernel
theorem dX8_item_207 : decode cX8_item 207 = .ok (.iconst 1, 1) := by decide +kernel
theorem dX8_item_208 : decode cX8_item 208 = .ok (.iaload, 1) := by decide +kernel
theorem dX8_item_209 : decode cX8_item 209 = .ok (.invokevirtual 119, 3) := by decide +kernel
theorem dX8_item_212 : decode cX8_item 212 = .ok (.pop, 1) := by decide +kernel
theorem dX8_item_213 : decode cX8_item 213 = .ok (.iconst 1, 1) := by decide +kernel
theorem dX8_item_214 : decode cX8_item 214 = .ok (.ireturn, 1) := by decide +kernel
theorem dX8_item_215 : decode cX8_item 215 = .ok (.aload_n 0, 1) := by decide +kernel
theorem dX8_item_216 : decode cX8_item 216 = .ok (.bipush 102, 2) := by decide +kernel
theorem dX8_item_218 : decode cX8_item 218 = .ok (.invokevirtual 175, 3) := by decide +kernel
theorem dX8_item_221 : decode cX8_item 221 = .ok (.ifCond .eq 43, 3) := by decide +kernel
theorem dX8_item_224 : decode cX8_item 224 = .ok (.aload_n 0, 1) := by decide +kernel
theorem dX8_item_225 : decode cX8_item 225 = .ok (.ldc 178, 2) := by decide +kernel
theorem dX8_item_227 : decode cX8_item 227 = .ok (.invokevirtual 161, 3) := by decide +kernel
theorem dX8_item_230 : decode cX8_item 230 = .ok (.ifCond .eq 18, 3) := by decide +kernel
theorem dX8_item_233 : decode cX8_item 233 = .ok (.aload_n 0, 1) := by decide +kernel
theorem dX8_item_234 : decode cX8_item 234 = .ok (.iconst 0, 1) := by decide +kernel
theorem dX8_item_235 : decode cX8_item 235 = .ok (.iconst 0, 1) := by decide +kernel
theorem dX8_item_236 : decode cX8_item 236 = .ok (.aload_n 0, 1) := by decide +kernel
theorem dX8_item_237 : decode cX8_item 237 = .ok (.getfield 76, 3) := by decide +kernel
theorem dX8_item_240 : decode cX8_item 240 = .ok (.iconst 1, 1) := by decide +kernel
theorem dX8_item_241 : decode cX8_item 241 = .ok (.isub, 1) := by decide +kernel
theorem dX8_item_242 : decode cX8_item 242 = .ok (.invokevirtual 170, 3) := by decide +kernel
theorem dX8_item_245 : decode cX8_item 245 = .ok (.ifCond .ne 5, 3) := by decide +kernel
theorem dX8_item_248 : decode cX8_item 248 = .ok (.iconst 0, 1) := by decide +kernel
theorem dX8_item_249 : decode cX8_item 249 = .ok (.ireturn, 1) := by decide +kernel
theorem dX8_item_250 : decode cX8_item 250 = .ok (.aload_n 0, 1) := by decide +kernel
theorem dX8_item_251 : decode cX8_item 251 = .ok (.getfield 32, 3) := by decide +kernel
theorem dX8_item_254 : decode cX8_item 254 = .ok (.aload_n 0, 1) := by decide +kernel
theorem dX8_item_255 : decode cX8_item 255 = .ok (.getfield 62, 3) := by decide +kernel
theorem dX8_item_258 : decode cX8_item 258 = .ok (.iconst 0, 1) := by decide +kernel
theorem dX8_item_259 : decode cX8_item 259 = .ok (.iaload, 1) := by decide +kernel
theorem dX8_item_260 : decode cX8_item 260 = .ok (.iconst (-1), 1) := by decide +kernel
theorem dX8_item_261 : decode cX8_item 261 = .ok (.iastore, 1) := by decide +kernel
theorem dX8_item_262 : decode cX8_item 262 = .ok (.iconst 1, 1) := by decide +kernel
theorem dX8_item_263 : decode cX8_item 263 = .ok (.ireturn, 1) := by decide +kernel
theorem dX8_item_264 : decode cX8_item 264 = .ok (.aload_n 0, 1) := by decide +kernel
theorem dX8_item_265 : decode cX8_item 265 = .ok (.ldc 180, 2) := by decide +kernel
theorem dX8_item_267 : decode cX8_item 267 = .ok (.invokevirtual 161, 3) := by decide +kernel
theorem dX8_item_270 : decode cX8_item 270 = .ok (.ifCond .eq 40, 3) := by decide +kernel
theorem dX8_item_273 : decode cX8_item 273 = .ok (.aload_n 0, 1) := by decide +kernel
theorem dX8_item_274 : decode cX8_item 274 = .ok (.iconst 0, 1) := by decide +kernel
theorem dX8_item_275 : decode cX8_item 275 = .ok (.iconst 0, 1) := by decide +kernel
theorem dX8_item_276 : decode cX8_item 276 = .ok (.aload_n 0, 1) := by decide +kernel
theorem dX8_item_277 : decode cX8_item 277 = .ok (.getfield 83, 3) := by decide +kernel
theorem dX8_item_280 : decode cX8_item 280 = .ok (.iconst 1, 1) := by decide +kernel
theorem dX8_item_281 : decode cX8_item 281 = .ok (.isub, 1) := by decide +kernel
theorem dX8_item_282 : decode cX8_item 282 = .ok (.invokevirtual 170, 3) := by decide +kernel
theorem dX8_item_285 : decode cX8_item 285 = .ok (.ifCond .eq 25, 3) := by decide +kernel
theorem dX8_item_288 : decode cX8_item 288 = .ok (.aload_n 0, 1) := by decide +kernel
theorem dX8_item_289 : decode cX8_item 289 = .ok (.iconst 1, 1) := by decide +kernel
theorem dX8_item_290 : decode cX8_item 290 = .ok (.iconst 0, 1) := by decide +kernel
theorem dX8_item_291 : decode cX8_item 291 = .ok (.bipush 11, 2) := by decide +kernel
theorem dX8_item_293 : decode cX8_item 293 = .ok (.invokevirtual 170, 3) := by decide +kernel
theorem dX8_item_296 : decode cX8_item 296 = .ok (.ifCond .eq 14, 3) := by decide +kernel
theorem dX8_item_299 : decode cX8_item 299 = .ok (.aload_n 0, 1) := by decide +kernel
theorem dX8_item_300 : decode cX8_item 300 = .ok (.iconst 2, 1) := by decide +kernel
theorem dX8_item_301 : decode cX8_item 301 = .ok (.iconst 0, 1) := by decide +kernel
theorem dX8_item_302 : decode cX8_item 302 = .ok (.bipush 9, 2) := by decide +kernel
theorem dX8_item_304 : decode cX8_item 304 = .ok (.invokevirtual 170, 3) := by decide +kernel
theorem dX8_item_307 : decode cX8_item 307 = .ok (.ifCond .ne 5, 3) := by decide +kernel
theorem dX8_item_310 : decode cX8_item 310 = .ok (.iconst 0, 1) := by decide +kernel
theorem dX8_item_311 : decode cX8_item 311 = .ok (.ireturn, 1) := by decide +kernel
theorem dX8_item_312 : decode cX8_item 312 = .ok (.aload_n 0, 1) := by decide +kernel
theorem dX8_item_313 : decode cX8_item 313 = .ok (.getfield 23, 3) := by decide +kernel
theorem dX8_item_316 : decode cX8_item 316 = .ok (.bipush 12, 2) := by decide +kernel
theorem dX8_item_318 : decode cX8_item 318 = .ok (.aload_n 0, 1) := by decide +kernel
theorem dX8_item_319 : decode cX8_item 319 = .ok (.getfield 62, 3) := by decide +kernel
theorem dX8_item_322 : decode cX8_item 322 = .ok (.iconst 0, 1) := by decide +kernel
theorem dX8_item_323 : decode cX8_item 323 = .ok (.iaload, 1) := by decide +kernel
theorem dX8_item_324 : decode cX8_item 324 = .ok (.imul, 1) := by decide +kernel
theorem dX8_item_325 : decode cX8_item 325 = .ok (.aload_n 0, 1) := by decide +kernel
theorem dX8_item_326 : decode cX8_item 326 = .ok (.getfield 62, 3) := by decide +kernel
theorem dX8_item_329 : decode cX8_item 329 = .ok (.iconst 1, 1) := by decide +kernel
theorem dX8_item_330 : decode cX8_item 330 = .ok (.iaload, 1) := by decide +kernel
theorem dX8_item_331 : decode cX8_item 331 = .ok (.iadd, 1) := by decide +kernel
theorem dX8_item_332 : decode cX8_item 332 = .ok (.aload_n 0, 1) := by decide +kernel
theorem dX8_item_333 : decode cX8_item 333 = .ok (.getfield 62, 3) := by decide +kernel
theorem dX8_item_336 : decode cX8_item 336 = .ok (.iconst 2, 1) := by decide +kernel
theorem dX8_item_337 : decode cX8_item 337 = .ok (.iaload, 1) := by decide +kernel
theorem dX8_item_338 : decode cX8_item 338 = .ok (.iastore, 1) := by decide +kernel
theorem dX8_item_339 : decode cX8_item 339 = .ok (.iconst 1, 1) := by decide +kernel
theorem dX8_item_340 : decode cX8_item 340 = .ok (.ireturn, 1) := by decide +kernel
theorem dX8_item_341 : decode cX8_item 341 = .ok (.aload_n 0, 1) := by decide +kernel
theorem dX8_item_342 : decode cX8_item 342 = .ok (.ldc 181, 2) := by decide +kernel
theorem dX8_item_344 : decode cX8_item 344 = .ok (.invokevirtual 161, 3) := by decide +kernel
theorem dX8_item_347 : decode cX8_item 347 = .ok (.ifCond .eq 51, 3) := by decide +kernel
theorem dX8_item_350 : decode cX8_item 350 = .ok (.aload_n 0, 1) := by decide +kernel
theorem dX8_item_351 : decode cX8_item 351 = .ok (.iconst 0, 1) := by decide +kernel
theorem dX8_item_352 : decode cX8_item 352 = .ok (.iconst 0, 1) := by decide +kernel
theorem dX8_item_353 : decode cX8_item 353 = .ok (.aload_n 0, 1) := by decide +kernel
theorem dX8_item_354 : decode cX8_item 354 = .ok (.getfield 76, 3) := by decide +kernel
theorem dX8_item_357 : decode cX8_item 357 = .ok (.iconst 1, 1) := by decide +kernel
theorem dX8_item_358 : decode cX8_item 358 = .ok (.isub, 1) := by decide +kernel
theorem dX8_item_359 : decode cX8_item 359 = .ok (.invokevirtual 170, 3) := by decide +kernel
theorem dX8_item_362 : decode cX8_item 362 = .ok (.ifCond .eq 36, 3) := by decide +kernel
theorem dX8_item_365 : decode cX8_item 365 = .ok (.aload_n 0, 1) := by decide +kernel
theorem dX8_item_366 : decode cX8_item 366 = .ok (.iconst 1, 1) := by decide +kernel
theorem dX8_item_367 : decode cX8_item 367 = .ok (.iconst 0, 1) := by decide +kernel
theorem dX8_item_368 : decode cX8_item 368 = .ok (.bipush 11, 2) := by decide +kernel
theorem dX8_item_370 : decode cX8_item 370 = .ok (.invokevirtual 170, 3) := by decide +kernel
theorem dX8_item_373 : decode cX8_item 373 = .ok (.ifCond .eq 25, 3) := by decide +kernel
theorem dX8_item_376 : decode cX8_item 376 = .ok (.aload_n 0, 1) := by decide +kernel
theorem dX8_item_377 : decode cX8_item 377 = .ok (.iconst 2, 1) := by decide +kernel
theorem dX8_item_378 : decode cX8_item 378 = .ok (.iconst 1, 1) := by decide +kernel
theorem dX8_item_379 : decode cX8_item 379 = .ok (.bipush 9, 2) := by decide +kernel
theorem dX8_item_381 : decode cX8_item 381 = .ok (.invokevirtual 170, 3) := by decide +kernel
theorem dX8_item_384 : decode cX8_item 384 = .ok (.ifCond .eq 14, 3) := by decide +kernel
theorem dX8_item_387 : decode cX8_item 387 = .ok (.aload_n 0, 1) := by decide +kernel
theorem dX8_item_388 : decode cX8_item 388 = .ok (.iconst 3, 1) := by decide +kernel
theorem dX8_item_389 : decode cX8_item 389 = .ok (.iconst 1, 1) := by decide +kernel
theorem dX8_item_390 : decode cX8_item 390 = .ok (.bipush 9, 2) := by decide +kernel
theorem dX8_item_392 : decode cX8_item 392 = .ok (.invokevirtual 170, 3) := by decide +kernel
theorem dX8_item_395 : decode cX8_item 395 = .ok (.ifCond .ne 5, 3) := by decide +kernel
theorem dX8_item_398 : decode cX8_item 398 = .ok (.iconst 0, 1) := by decide +kernel
theorem dX8_item_399 : decode cX8_item 399 = .ok (.ireturn, 1) := by decide +kernel
theorem dX8_item_400 : decode cX8_item 400 = .ok (.aload_n 0, 1) := by decide +kernel
theorem dX8_item_401 : decode cX8_item 401 = .ok (.aload_n 0, 1) := by decide +kernel
theorem dX8_item_402 : decode cX8_item 402 = .ok (.getfield 62, 3) := by decide +kernel
theorem dX8_item_405 : decode cX8_item 405 = .ok (.iconst 0, 1) := by decide +kernel
theorem dX8_item_406 : decode cX8_item 406 = .ok (.iaload, 1) := by decide +kernel
theorem dX8_item_407 : decode cX8_item 407 = .ok (.aload_n 0, 1) := by decide +kernel
theorem dX8_item_408 : decode cX8_item 408 = .ok (.getfield 62, 3) := by decide +kernel
theorem dX8_item_411 : decode cX8_item 411 = .ok (.iconst 1, 1) := by decide +kernel
theorem dX8_item_412 : decode cX8_item 412 = .ok (.iaload, 1) := by decide +kernel
theorem dX8_item_413 : decode cX8_item 413 = .ok (.aload_n 0, 1) := by decide +kernel
theorem dX8_item_414 : decode cX8_item 414 = .ok (.getfield 62, 3) := by decide +kernel
theorem dX8_item_417 : decode cX8_item 417 = .ok (.iconst 2, 1) := by decide +kernel
theorem dX8_item_418 : decode cX8_item 418 = .ok (.iaload, 1) := by decide +kernel
theorem dX8_item_419 : decode cX8_item 419 = .ok (.aload_n 0, 1) := by decide +kernel
theorem dX8_item_420 : decode cX8_item 420 = .ok (.getfield 62, 3) := by decide +kernel
theorem dX8_item_423 : decode cX8_item 423 = .ok (.iconst 3, 1) := by decide +kernel
theorem dX8_item_424 : decode cX8_item 424 = .ok (.iaload, 1) := by decide +kernel
theorem dX8_item_425 : decode cX8_item 425 = .ok (.invokevirtual 128, 3) := by decide +kernel
theorem dX8_item_428 : decode cX8_item 428 = .ok (.iconst 1, 1) := by decide +kernel
theorem dX8_item_429 : decode cX8_item 429 = .ok (.ireturn, 1) := by decide +kernel
theorem dX8_item_430 : decode cX8_item 430 = .ok (.aload_n 0, 1) := by decide +kernel
theorem dX8_item_431 : decode cX8_item 431 = .ok (.bipush 97, 2) := by decide +kernel
theorem dX8_item_433 : decode cX8_item 433 = .ok (.invokevirtual 175, 3) := by decide +kernel
theorem dX8_item_436 : decode cX8_item 436 = .ok (.ifCond .eq 41, 3) := by decide +kernel
theorem dX8_item_439 : decode cX8_item 439 = .ok (.aload_n 0, 1) := by decide +kernel
theorem dX8_item_440 : decode cX8_item 440 = .ok (.ldc 182, 2) := by decide +kernel
theorem dX8_item_442 : decode cX8_item 442 = .ok (.invokevirtual 161, 3) := by decide +kernel
theorem dX8_item_445 : decode cX8_item 445 = .ok (.ifCond .eq 18, 3) := by decide +kernel
theorem dX8_item_448 : decode cX8_item 448 = .ok (.aload_n 0, 1) := by decide +kernel
theorem dX8_item_449 : decode cX8_item 449 = .ok (.iconst 0, 1) := by decide +kernel
theorem dX8_item_450 : decode cX8_item 450 = .ok (.iconst 0, 1) := by decide +kernel
theorem dX8_item_451 : decode cX8_item 451 = .ok (.aload_n 0, 1) := by decide +kernel
theorem dX8_item_452 : decode cX8_item 452 = .ok (.getfield 76, 3) := by decide +kernel
theorem dX8_item_455 : decode cX8_item 455 = .ok (.iconst 1, 1) := by decide +kernel
theorem dX8_item_456 : decode cX8_item 456 = .ok (.isub, 1) := by decide +kernel
theorem dX8_item_457 : decode cX8_item 457 = .ok (.invokevirtual 170, 3) := by decide +kernel
theorem dX8_item_460 : decode cX8_item 460 = .ok (.ifCond .ne 5, 3) := by decide +kernel
theorem dX8_item_463 : decode cX8_item 463 = .ok (.iconst 0, 1) := by decide +kernel
theorem dX8_item_464 : decode cX8_item 464 = .ok (.ireturn, 1) := by decide +kernel
theorem dX8_item_465 : decode cX8_item 465 = .ok (.aload_n 0, 1) := by decide +kernel
theorem dX8_item_466 : decode cX8_item 466 = .ok (.aload_n 0, 1) := by decide +kernel
theorem dX8_item_467 : decode cX8_item 467 = .ok (.getfield 62, 3) := by decide +kernel
theorem dX8_item_470 : decode cX8_item 470 = .ok (.iconst 0, 1) := by decide +kernel
theorem dX8_item_471 : decode cX8_item 471 = .ok (.iaload, 1) := by decide +kernel
theorem dX8_item_472 : decode cX8_item 472 = .ok (.invokevirtual 184, 3) := by decide +kernel
theorem dX8_item_475 : decode cX8_item 475 = .ok (.iconst 1, 1) := by decide +kernel
theorem dX8_item_476 : decode cX8_item 476 = .ok (.ireturn, 1) := by decide +kernel
theorem dX8_item_477 : decode cX8_item 477 = .ok (.aload_n 0, 1) := by decide +kernel
theorem dX8_item_478 : decode cX8_item 478 = .ok (.ldc 188, 2) := by decide +kernel
theorem dX8_item_480 : decode cX8_item 480 = .ok (.invokevirtual 161, 3) := by decide +kernel
theorem dX8_item_483 : decode cX8_item 483 = .ok (.ifCond .eq 33, 3) := by decide +kernel
theorem dX8_item_486 : decode cX8_item 486 = .ok (.aload_n 0, 1) := by decide +kernel
theorem dX8_item_487 : decode cX8_item 487 = .ok (.iconst 0, 1) := by decide +kernel
theorem dX8_item_488 : decode cX8_item 488 = .ok (.iconst 0, 1) := by decide +kernel
theorem dX8_item_489 : decode cX8_item 489 = .ok (.aload_n 0, 1) := by decide +kernel
theorem dX8_item_490 : decode cX8_item 490 = .ok (.getfield 76, 3) := by decide +kernel
theorem dX8_item_493 : decode cX8_item 493 = .ok (.iconst 1, 1) := by decide +kernel
theorem dX8_item_494 : decode cX8_item 494 = .ok (.isub, 1) := by decide +kernel
theorem dX8_item_495 : decode cX8_item 495 = .ok (.invokevirtual 170, 3) := by decide +kernel
theorem dX8_item_498 : decode cX8_item 498 = .ok (.ifCond .eq 18, 3) := by decide +kernel
theorem dX8_item_501 : decode cX8_item 501 = .ok (.aload_n 0, 1) := by decide +kernel
theorem dX8_item_502 : decode cX8_item 502 = .ok (.iconst 1, 1) := by decide +kernel
theorem dX8_item_503 : decode cX8_item 503 = .ok (.iconst 0, 1) := by decide +kernel
theorem dX8_item_504 : decode cX8_item 504 = .ok (.aload_n 0, 1) := by decide +kernel
theorem dX8_item_505 : decode cX8_item 505 = .ok (.getfield 83, 3) := by decide +kernel
theorem dX8_item_508 : decode cX8_item 508 = .ok (.iconst 1, 1) := by decide +kernel
theorem dX8_item_509 : decode cX8_item 509 = .ok (.isub, 1) := by decide +kernel
theorem dX8_item_510 : decode cX8_item 510 = .ok (.invokevirtual 170, 3) := by decide +kernel
theorem dX8_item_513 : decode cX8_item 513 = .ok (.ifCond .ne 5, 3) := by decide +kernel
theorem dX8_item_516 : decode cX8_item 516 = .ok (.iconst 0, 1) := by decide +kernel
theorem dX8_item_517 : decode cX8_item 517 = .ok (.ireturn, 1) := by decide +kernel
theorem dX8_item_518 : decode cX8_item 518 = .ok (.aload_n 0, 1) := by decide +kernel
theorem dX8_item_519 : decode cX8_item 519 = .ok (.getfield 32, 3) := by decide +kernel
theorem dX8_item_522 : decode cX8_item 522 = .ok (.aload_n 0, 1) := by decide +kernel
theorem dX8_item_523 : decode cX8_item 523 = .ok (.getfield 62, 3) := by decide +kernel
theorem dX8_item_526 : decode cX8_item 526 = .ok (.iconst 0, 1) := by decide +kernel
theorem dX8_item_527 : decode cX8_item 527 = .ok (.iaload, 1) := by decide +kernel
theorem dX8_item_528 : decode cX8_item 528 = .ok (.aload_n 0, 1) := by decide +kernel
theorem dX8_item_529 : decode cX8_item 529 = .ok (.getfield 62, 3) := by decide +kernel
theorem dX8_item_532 : decode cX8_item 532 = .ok (.iconst 1, 1) := by decide +kernel
theorem dX8_item_533 : decode cX8_item 533 = .ok (.iaload, 1) := by decide +kernel
theorem dX8_item_534 : decode cX8_item 534 = .ok (.iastore, 1) := by decide +kernel
theorem dX8_item_535 : decode cX8_item 535 = .ok (.iconst 1, 1) := by decide +kernel
theorem dX8_item_536 : decode cX8_item 536 = .ok (.ireturn, 1) := by decide +kernel
theorem dX8_item_537 : decode cX8_item 537 = .ok (.aload_n 0, 1) := by decide +kernel
theorem dX8_item_538 : decode cX8_item 538 = .ok (.ldc 190, 2) := by decide +kernel
theorem dX8_item_540 : decode cX8_item 540 = .ok (.invokevirtual 161, 3) := by decide +kernel
theorem dX8_item_543 : decode cX8_item 543 = .ok (.ifCond .ne 5, 3) := by decide +kernel
theorem dX8_item_546 : decode cX8_item 546 = .ok (.iconst 0, 1) := by decide +kernel
theorem dX8_item_547 : decode cX8_item 547 = .ok (.ireturn, 1) := by decide +kernel
theorem dX8_item_548 : decode cX8_item 548 = .ok (.aload_n 0, 1) := by decide +kernel
theorem dX8_item_549 : decode cX8_item 549 = .ok (.invokevirtual 192, 3) := by decide +kernel
theorem dX8_item_552 : decode cX8_item 552 = .ok (.pop, 1) := by decide +kernel
theorem dX8_item_553 : decode cX8_item 553 = .ok (.iconst 1, 1) := by decide +kernel
theorem dX8_item_554 : decode cX8_item 554 = .ok (.ireturn, 1) := by decide +kernel
theorem dX8_item_555 : decode cX8_item 555 = .ok (.iconst 0, 1) := by decide +kernel
theorem dX8_item_556 : decode cX8_item 556 = .ok (.ireturn, 1) := by decide +kernel
theorem dX8_wardrobe_0 : decode cX8_wardrobe 0 = .ok (.aload_n 0, 1) := by decide +kernel
theorem dX8_wardrobe_1 : decode cX8_wardrobe 1 = .ok (.iload_n 1, 1) := by decide +kernel
theorem dX8_wardrobe_2 : decode cX8_wardrobe 2 = .ok (.invokevirtual 90, 3) := by decide +kernel
theorem dX8_wardrobe_5 : decode cX8_wardrobe 5 = .ok (.istore_n 2, 1) := by decide +kernel
theorem dX8_wardrobe_6 : decode cX8_wardrobe 6 = .ok (.iload_n 2, 1) := by decide +kernel
theorem dX8_wardrobe_7 : decode cX8_wardrobe 7 = .ok (.ifCond .ge 9, 3) := by decide +kernel
theorem dX8_wardrobe_10 : decode cX8_wardrobe 10 = .ok (.aload_n 0, 1) := by decide +kernel
theorem dX8_wardrobe_11 : decode cX8_wardrobe 11 = .ok (.iload_n 2, 1) := by decide +kernel
theorem dX8_wardrobe_12 : decode cX8_wardrobe 12 = .ok (.invokevirtual 72, 3) := by decide +kernel
theorem dX8_wardrobe_15 : decode cX8_wardrobe 15 = .ok (.ireturn, 1) := by decide +kernel
theorem dX8_wardrobe_16 : decode cX8_wardrobe 16 = .ok (.aload_n 0, 1) := by decide +kernel
theorem dX8_wardrobe_17 : decode cX8_wardrobe 17 = .ok (.aload_n 0, 1) := by decide +kernel
theorem dX8_wardrobe_18 : decode cX8_wardrobe 18 = .ok (.getfield 50, 3) := by decide +kernel
theorem dX8_wardrobe_21 : decode cX8_wardrobe 21 = .ok (.invokevirtual 194, 3) := by decide +kernel
theorem dX8_wardrobe_24 : decode cX8_wardrobe 24 = .ok (.aload_n 0, 1) := by decide +kernel
theorem dX8_wardrobe_25 : decode cX8_wardrobe 25 = .ok (.iload_n 1, 1) := by decide +kernel
theorem dX8_wardrobe_26 : decode cX8_wardrobe 26 = .ok (.putfield 141, 3) := by decide +kernel
theorem dX8_wardrobe_29 : decode cX8_wardrobe 29 = .ok (.aload_n 0, 1) := by decide +kernel
theorem dX8_wardrobe_30 : decode cX8_wardrobe 30 = .ok (.iconst 0, 1) := by decide +kernel
theorem dX8_wardrobe_31 : decode cX8_wardrobe 31 = .ok (.putfield 138, 3) := by decide +kernel
theorem dX8_wardrobe_34 : decode cX8_wardrobe 34 = .ok (.iconst 0, 1) := by decide +kernel
theorem dX8_wardrobe_35 : decode cX8_wardrobe 35 = .ok (.istore_n 3, 1) := by decide +kernel
theorem dX8_wardrobe_36 : decode cX8_wardrobe 36 = .ok (.iconst 1, 1) := by decide +kernel
theorem dX8_wardrobe_37 : decode cX8_wardrobe 37 = .ok (.istore 4, 2) := by decide +kernel
theorem dX8_wardrobe_39 : decode cX8_wardrobe 39 = .ok (.iload 4, 2) := by decide +kernel
theorem dX8_wardrobe_41 : decode cX8_wardrobe 41 = .ok (.ifCond .eq 58, 3) := by decide +kernel
theorem dX8_wardrobe_44 : decode cX8_wardrobe 44 = .ok (.aload_n 0, 1) := by decide +kernel
theorem dX8_wardrobe_45 : decode cX8_wardrobe 45 = .ok (.invokevirtual 198, 3) := by decide +kernel
theorem dX8_wardrobe_48 : decode cX8_wardrobe 48 = .ok (.istore 4, 2) := by decide +kernel
theorem dX8_wardrobe_50 : decode cX8_wardrobe 50 = .ok (.iload 4, 2) := by decide +kernel
theorem dX8_wardrobe_52 : decode cX8_wardrobe 52 = .ok (.ifCond .eq 6, 3) := by decide +kernel
theorem dX8_wardrobe_55 : decode cX8_wardrobe 55 = .ok (.iinc 3 1, 3) := by decide +kernel
theorem dX8_wardrobe_58 : decode cX8_wardrobe 58 = .ok (.iload 4, 2) := by decide +kernel
theorem dX8_wardrobe_60 : decode cX8_wardrobe 60 = .ok (.ifCond .eq 23, 3) := by decide +kernel
theorem dX8_wardrobe_63 : decode cX8_wardrobe 63 = .ok (.aload_n 0, 1) := by decide +kernel
theorem dX8_wardrobe_64 : decode cX8_wardrobe 64 = .ok (.getfield 138, 3) := by decide +kernel
theorem dX8_wardrobe_67 : decode cX8_wardrobe 67 = .ok (.aload_n 0, 1) := by decide +kernel
theorem dX8_wardrobe_68 : decode cX8_wardrobe 68 = .ok (.getfield 13, 3) := by decide +kernel
theorem dX8_wardrobe_71 : decode cX8_wardrobe 71 = .ok (.iload_n 1, 1) := by decide +kernel
theorem dX8_wardrobe_72 : decode cX8_wardrobe 72 = .ok (.iaload, 1) := by decide +kernel
theorem dX8_wardrobe_73 : decode cX8_wardrobe 73 = .ok (.if_icmp .ne 10, 3) := by decide +kernel
theorem dX8_wardrobe_76 : decode cX8_wardrobe 76 = .ok (.aload_n 0, 1) := by decide +kernel
theorem dX8_wardrobe_77 : decode cX8_wardrobe 77 = .ok (.iconst (-1), 1) := by decide +kernel
theorem dX8_wardrobe_78 : decode cX8_wardrobe 78 = .ok (.putfield 69, 3) := by decide +kernel
theorem dX8_wardrobe_81 : decode cX8_wardrobe 81 = .ok (.iload_n 3, 1) := by decide +kernel
theorem dX8_wardrobe_82 : decode cX8_wardrobe 82 = .ok (.ireturn, 1) := by decide +kernel
theorem dX8_wardrobe_83 : decode cX8_wardrobe 83 = .ok (.iload 4, 2) := by decide +kernel
theorem dX8_wardrobe_85 : decode cX8_wardrobe 85 = .ok (.ifCond .eq (-46), 3) := by decide +kernel
theorem dX8_wardrobe_88 : decode cX8_wardrobe 88 = .ok (.aload_n 0, 1) := by decide +kernel
theorem dX8_wardrobe_89 : decode cX8_wardrobe 89 = .ok (.bipush 59, 2) := by decide +kernel
theorem dX8_wardrobe_91 : decode cX8_wardrobe 91 = .ok (.invokevirtual 157, 3) := by decide +kernel
theorem dX8_wardrobe_94 : decode cX8_wardrobe 94 = .ok (.istore 4, 2) := by decide +kernel
theorem dX8_wardrobe_96 : decode cX8_wardrobe 96 = .ok (.goto (-57), 3) := by decide +kernel
theorem dX8_wardrobe_99 : decode cX8_wardrobe 99 = .ok (.aload_n 0, 1) := by decide +kernel
theorem dX8_wardrobe_100 : decode cX8_wardrobe 100 = .ok (.aload_n 0, 1) := by decide +kernel
theorem dX8_wardrobe_101 : decode cX8_wardrobe 101 = .ok (.getfield 138, 3) := by decide +kernel
theorem dX8_wardrobe_104 : decode cX8_wardrobe 104 = .ok (.putfield 69, 3) := by decide +kernel
theorem dX8_wardrobe_107 : decode cX8_wardrobe 107 = .ok (.aload_n 0, 1) := by decide +kernel
theorem dX8_wardrobe_108 : decode cX8_wardrobe 108 = .ok (.aload_n 0, 1) := by decide +kernel
theorem dX8_wardrobe_109 : decode cX8_wardrobe 109 = .ok (.getfield 50, 3) := by decide +kernel
theorem dX8_wardrobe_112 : decode cX8_wardrobe 112 = .ok (.invokevirtual 202, 3) := by decide +kernel
theorem dX8_wardrobe_115 : decode cX8_wardrobe 115 = .ok (.aload_n 0, 1) := by decide +kernel
theorem dX8_wardrobe_116 : decode cX8_wardrobe 116 = .ok (.bipush (-6), 2) := by decide +kernel
theorem dX8_wardrobe_118 : decode cX8_wardrobe 118 = .ok (.invokevirtual 72, 3) := by decide +kernel
theorem dX8_wardrobe_121 : decode cX8_wardrobe 121 = .ok (.ireturn, 1) := by decide +kernel
theorem dX8_fault_0 : decode cX8_fault 0 = .ok (.aload_n 0, 1) := by decide +kernel
theorem dX8_fault_1 : decode cX8_fault 1 = .ok (.getfield 69, 3) := by decide +kernel
theorem dX8_fault_4 : decode cX8_fault 4 = .ok (.ireturn, 1) := by decide +kernel
theorem dX8_pull_0 : decode cX8_pull 0 = .ok (.aload_n 0, 1) := by decide +kernel
theorem dX8_pull_1 : decode cX8_pull 1 = .ok (.getfield 35, 3) := by decide +kernel
theorem dX8_pull_4 : decode cX8_pull 4 = .ok (.bipush 12, 2) := by decide +kernel
theorem dX8_pull_6 : decode cX8_pull 6 = .ok (.iload_n 1, 1) := by decide +kernel
theorem dX8_pull_7 : decode cX8_pull 7 = .ok (.imul, 1) := by decide +kernel
theorem dX8_pull_8 : decode cX8_pull 8 = .ok (.iload_n 2, 1) := by decide +kernel
theorem dX8_pull_9 : decode cX8_pull 9 = .ok (.iadd, 1) := by decide +kernel
theorem dX8_pull_10 : decode cX8_pull 10 = .ok (.iaload, 1) := by decide +kernel
theorem dX8_pull_11 : decode cX8_pull 11 = .ok (.istore_n 3, 1) := by decide +kernel
theorem dX8_pull_12 : decode cX8_pull 12 = .ok (.aload_n 0, 1) := by decide +kernel
theorem dX8_pull_13 : decode cX8_pull 13 = .ok (.getfield 38, 3) := by decide +kernel
theorem dX8_pull_16 : decode cX8_pull 16 = .ok (.bipush 12, 2) := by decide +kernel
theorem dX8_pull_18 : decode cX8_pull 18 = .ok (.iload_n 1, 1) := by decide +kernel
theorem dX8_pull_19 : decode cX8_pull 19 = .ok (.imul, 1) := by decide +kernel
theorem dX8_pull_20 : decode cX8_pull 20 = .ok (.iload_n 2, 1) := by decide +kernel
theorem dX8_pull_21 : decode cX8_pull 21 = .ok (.iadd, 1) := by decide +kernel
theorem dX8_pull_22 : decode cX8_pull 22 = .ok (.iaload, 1) := by decide +kernel
theorem dX8_pull_23 : decode cX8_pull 23 = .ok (.istore 4, 2) := by decide +kernel
theorem dX8_pull_25 : decode cX8_pull 25 = .ok (.iload_n 3, 1) := by decide +kernel
theorem dX8_pull_26 : decode cX8_pull 26 = .ok (.ifCond .ne 5, 3) := by decide +kernel
theorem dX8_pull_29 : decode cX8_pull 29 = .ok (.iconst 0, 1) := by decide +kernel
theorem dX8_pull_30 : decode cX8_pull 30 = .ok (.ireturn, 1) := by decide +kernel
theorem dX8_pull_31 : decode cX8_pull 31 = .ok (.iconst 0, 1) := by decide +kernel
theorem dX8_pull_32 : decode cX8_pull 32 = .ok (.istore 5, 2) := by decide +kernel
theorem dX8_pull_34 : decode cX8_pull 34 = .ok (.aload_n 0, 1) := by decide +kernel
theorem dX8_pull_35 : decode cX8_pull 35 = .ok (.getfield 26, 3) := by decide +kernel
theorem dX8_pull_38 : decode cX8_pull 38 = .ok (.iload_n 1, 1) := by decide +kernel
theorem dX8_pull_39 : decode cX8_pull 39 = .ok (.iaload, 1) := by decide +kernel
theorem dX8_pull_40 : decode cX8_pull 40 = .ok (.tableswitch 143 1 6 #[40, 143, 50, 111, 116, 121], 40) := by decide +kernel
theorem dX8_pull_80 : decode cX8_pull 80 = .ok (.iload 4, 2) := by decide +kernel
theorem dX8_pull_82 : decode cX8_pull 82 = .ok (.aload_n 0, 1) := by decide +kernel
theorem dX8_pull_83 : decode cX8_pull 83 = .ok (.getfield 29, 3) := by decide +kernel
theorem dX8_pull_86 : decode cX8_pull 86 = .ok (.iload_n 1, 1) := by decide +kernel
theorem dX8_pull_87 : decode cX8_pull 87 = .ok (.iaload, 1) := by decide +kernel
theorem dX8_pull_88 : decode cX8_pull 88 = .ok (.iadd, 1) := by decide +kernel
theorem dX8_pull_89 : decode cX8_pull 89 = .ok (.ireturn, 1) := by decide +kernel
theorem dX8_pull_90 : decode cX8_pull 90 = .ok (.iconst 0, 1) := by decide +kernel
theorem dX8_pull_91 : decode cX8_pull 91 = .ok (.istore 6, 2) := by decide +kernel
theorem dX8_pull_93 : decode cX8_pull 93 = .ok (.iload 6, 2) := by decide +kernel
theorem dX8_pull_95 : decode cX8_pull 95 = .ok (.aload_n 0, 1) := by decide +kernel
theorem dX8_pull_96 : decode cX8_pull 96 = .ok (.getfield 76, 3) := by decide +kernel
theorem dX8_pull_99 : decode cX8_pull 99 = .ok (.if_icmp .ge 39, 3) := by decide +kernel
theorem dX8_pull_102 : decode cX8_pull 102 = .ok (.aload_n 0, 1) := by decide +kernel
theorem dX8_pull_103 : decode cX8_pull 103 = .ok (.getfield 26, 3) := by decide +kernel
theorem dX8_pull_106 : decode cX8_pull 106 = .ok (.iload 6, 2) := by decide +kernel
theorem dX8_pull_108 : decode cX8_pull 108 = .ok (.iaload, 1) := by decide +kernel
theorem dX8_pull_109 : decode cX8_pull 109 = .ok (.iconst 3, 1) := by decide +kernel
theorem dX8_pull_110 : decode cX8_pull 110 = .ok (.if_icmp .ne 22, 3) := by decide +kernel
theorem dX8_pull_113 : decode cX8_pull 113 = .ok (.aload_n 0, 1) := by decide +kernel
theorem dX8_pull_114 : decode cX8_pull 114 = .ok (.getfield 35, 3) := by decide +kernel
theorem dX8_pull_117 : decode cX8_pull 117 = .ok (.bipush 12, 2) := by decide +kernel
theorem dX8_pull_119 : decode cX8_pull 119 = .ok (.iload 6, 2) := by decide +kernel
theorem dX8_pull_121 : decode cX8_pull 121 = .ok (.imul, 1) := by decide +kernel
theorem dX8_pull_122 : decode cX8_pull 122 = .ok (.iload_n 2, 1) := by decide +kernel
theorem dX8_pull_123 : decode cX8_pull 123 = .ok (.iadd, 1) := by decide +kernel
theorem dX8_pull_124 : decode cX8_pull 124 = .ok (.iaload, 1) := by decide +kernel
theorem dX8_pull_125 : decode cX8_pull 125 = .ok (.iload_n 3, 1) := by decide +kernel
theorem dX8_pull_126 : decode cX8_pull 126 = .ok (.if_icmp .ne 6, 3) := by decide +kernel
theorem dX8_pull_129 : decode cX8_pull 129 = .ok (.iinc 5 1, 3) := by decide +kernel
theorem dX8_pull_132 : decode cX8_pull 132 = .ok (.iinc 6 1, 3) := by decide +kernel
theorem dX8_pull_135 : decode cX8_pull 135 = .ok (.goto (-42), 3) := by decide +kernel
theorem dX8_pull_138 : decode cX8_pull 138 = .ok (.iload 4, 2) := by decide +kernel
theorem dX8_pull_140 : decode cX8_pull 140 = .ok (.iload 5, 2) := by decide +kernel
theorem dX8_pull_142 : decode cX8_pull 142 = .ok (.iadd, 1) := by decide +kernel
theorem dX8_pull_143 : decode cX8_pull 143 = .ok (.aload_n 0, 1) := by decide +kernel
theorem dX8_pull_144 : decode cX8_pull 144 = .ok (.getfield 29, 3) := by decide +kernel
theorem dX8_pull_147 : decode cX8_pull 147 = .ok (.iload_n 1, 1) := by decide +kernel
theorem dX8_pull_148 : decode cX8_pull 148 = .ok (.iaload, 1) := by decide +kernel
theorem dX8_pull_149 : decode cX8_pull 149 = .ok (.iadd, 1) := by decide +kernel
theorem dX8_pull_150 : decode cX8_pull 150 = .ok (.ireturn, 1) := by decide +kernel
theorem dX8_pull_151 : decode cX8_pull 151 = .ok (.iconst 2, 1) := by decide +kernel
theorem dX8_pull_152 : decode cX8_pull 152 = .ok (.iload 4, 2) := by decide +kernel
theorem dX8_pull_154 : decode cX8_pull 154 = .ok (.imul, 1) := by decide +kernel
theorem dX8_pull_155 : decode cX8_pull 155 = .ok (.ireturn, 1) := by decide +kernel
theorem dX8_pull_156 : decode cX8_pull 156 = .ok (.iload 4, 2) := by decide +kernel
theorem dX8_pull_158 : decode cX8_pull 158 = .ok (.iconst 2, 1) := by decide +kernel
theorem dX8_pull_159 : decode cX8_pull 159 = .ok (.idiv, 1) := by decide +kernel
theorem dX8_pull_160 : decode cX8_pull 160 = .ok (.ireturn, 1) := by decide +kernel
theorem dX8_pull_161 : decode cX8_pull 161 = .ok (.iconst 2, 1) := by decide +kernel
theorem dX8_pull_162 : decode cX8_pull 162 = .ok (.iload 4, 2) := by decide +kernel
theorem dX8_pull_164 : decode cX8_pull 164 = .ok (.imul, 1) := by decide +kernel
theorem dX8_pull_165 : decode cX8_pull 165 = .ok (.iload_n 2, 1) := by decide +kernel
theorem dX8_pull_166 : decode cX8_pull 166 = .ok (.aload_n 0, 1) := by decide +kernel
theorem dX8_pull_167 : decode cX8_pull 167 = .ok (.getfield 29, 3) := by decide +kernel
theorem dX8_pull_170 : decode cX8_pull 170 = .ok (.iload_n 1, 1) := by decide +kernel
theorem dX8_pull_171 : decode cX8_pull 171 = .ok (.iaload, 1) := by decide +kernel
theorem dX8_pull_172 : decode cX8_pull 172 = .ok (.if_icmp .ne 8, 3) := by decide +kernel
theorem dX8_pull_175 : decode cX8_pull 175 = .ok (.bipush 9, 2) := by decide +kernel
theorem dX8_pull_177 : decode cX8_pull 177 = .ok (.goto 4, 3) := by decide +kernel
theorem dX8_pull_180 : decode cX8_pull 180 = .ok (.iconst 0, 1) := by decide +kernel
theorem dX8_pull_181 : decode cX8_pull 181 = .ok (.iadd, 1) := by decide +kernel
theorem dX8_pull_182 : decode cX8_pull 182 = .ok (.ireturn, 1) := by decide +kernel
theorem dX8_pull_183 : decode cX8_pull 183 = .ok (.iload 4, 2) := by decide +kernel
theorem dX8_pull_185 : decode cX8_pull 185 = .ok (.ireturn, 1) := by decide +kernel
theorem dX8_doesWithout_0 : decode cX8_doesWithout 0 = .ok (.iconst (-1), 1) := by decide +kernel
theorem dX8_doesWithout_1 : decode cX8_doesWithout 1 = .ok (.istore 4, 2) := by decide +kernel
theorem dX8_doesWithout_3 : decode cX8_doesWithout 3 = .ok (.iconst 0, 1) := by decide +kernel
theorem dX8_doesWithout_4 : decode cX8_doesWithout 4 = .ok (.istore 5, 2) := by decide +kernel
theorem dX8_doesWithout_6 : decode cX8_doesWithout 6 = .ok (.iload 5, 2) := by decide +kernel
theorem dX8_doesWithout_8 : decode cX8_doesWithout 8 = .ok (.aload_n 0, 1) := by decide +kernel
theorem dX8_doesWithout_9 : decode cX8_doesWithout 9 = .ok (.getfield 76, 3) := by decide +kernel
theorem dX8_doesWithout_12 : decode cX8_doesWithout 12 = .ok (.if_icmp .ge 56, 3) := by decide +kernel
theorem dX8_doesWithout_15 : decode cX8_doesWithout 15 = .ok (.aload_n 0, 1) := by decide +kernel
theorem dX8_doesWithout_16 : decode cX8_doesWithout 16 = .ok (.getfield 32, 3) := by decide +kernel
theorem dX8_doesWithout_19 : decode cX8_doesWithout 19 = .ok (.iload 5, 2) := by decide +kernel
theorem dX8_doesWithout_21 : decode cX8_doesWithout 21 = .ok (.iaload, 1) := by decide +kernel
theorem dX8_doesWithout_22 : decode cX8_doesWithout 22 = .ok (.iload_n 1, 1) := by decide +kernel
theorem dX8_doesWithout_23 : decode cX8_doesWithout 23 = .ok (.if_icmp .ne 39, 3) := by decide +kernel
theorem dX8_doesWithout_26 : decode cX8_doesWithout 26 = .ok (.iload_n 3, 1) := by decide +kernel
theorem dX8_doesWithout_27 : decode cX8_doesWithout 27 = .ok (.iload 5, 2) := by decide +kernel
theorem dX8_doesWithout_29 : decode cX8_doesWithout 29 = .ok (.invokestatic 205, 3) := by decide +kernel
theorem dX8_doesWithout_32 : decode cX8_doesWithout 32 = .ok (.ifCond .ne 30, 3) := by decide +kernel
theorem dX8_doesWithout_35 : decode cX8_doesWithout 35 = .ok (.iload 4, 2) := by decide +kernel
theorem dX8_doesWithout_37 : decode cX8_doesWithout 37 = .ok (.iconst (-1), 1) := by decide +kernel
theorem dX8_doesWithout_38 : decode cX8_doesWithout 38 = .ok (.if_icmp .eq 20, 3) := by decide +kernel
theorem dX8_doesWithout_41 : decode cX8_doesWithout 41 = .ok (.aload_n 0, 1) := by decide +kernel
theorem dX8_doesWithout_42 : decode cX8_doesWithout 42 = .ok (.iload 5, 2) := by decide +kernel
theorem dX8_doesWithout_44 : decode cX8_doesWithout 44 = .ok (.iload_n 2, 1) := by decide +kernel
theorem dX8_doesWithout_45 : decode cX8_doesWithout 45 = .ok (.invokevirtual 135, 3) := by decide +kernel
theorem dX8_doesWithout_48 : decode cX8_doesWithout 48 = .ok (.aload_n 0, 1) := by decide +kernel
theorem dX8_doesWithout_49 : decode cX8_doesWithout 49 = .ok (.iload 4, 2) := by decide +kernel
theorem dX8_doesWithout_51 : decode cX8_doesWithout 51 = .ok (.iload_n 2, 1) := by decide +kernel
theorem dX8_doesWithout_52 : decode cX8_doesWithout 52 = .ok (.invokevirtual 135, 3) := by decide +kernel
theorem dX8_doesWithout_55 : decode cX8_doesWithout 55 = .ok (.if_icmp .le 7, 3) := by decide +kernel
theorem dX8_doesWithout_58 : decode cX8_doesWithout 58 = .ok (.iload 5, 2) := by decide +kernel
theorem dX8_doesWithout_60 : decode cX8_doesWithout 60 = .ok (.istore 4, 2) := by decide +kernel
theorem dX8_doesWithout_62 : decode cX8_doesWithout 62 = .ok (.iinc 5 1, 3) := by decide +kernel
theorem dX8_doesWithout_65 : decode cX8_doesWithout 65 = .ok (.goto (-59), 3) := by decide +kernel
theorem dX8_doesWithout_68 : decode cX8_doesWithout 68 = .ok (.iload 4, 2) := by decide +kernel
theorem dX8_doesWithout_70 : decode cX8_doesWithout 70 = .ok (.iconst (-1), 1) := by decide +kernel
theorem dX8_doesWithout_71 : decode cX8_doesWithout 71 = .ok (.if_icmp .eq 34, 3) := by decide +kernel
theorem dX8_doesWithout_74 : decode cX8_doesWithout 74 = .ok (.aload_n 0, 1) := by decide +kernel
theorem dX8_doesWithout_75 : decode cX8_doesWithout 75 = .ok (.iload 4, 2) := by decide +kernel
theorem dX8_doesWithout_77 : decode cX8_doesWithout 77 = .ok (.iload_n 2, 1) := by decide +kernel
theorem dX8_doesWithout_78 : decode cX8_doesWithout 78 = .ok (.invokevirtual 135, 3) := by decide +kernel
theorem dX8_doesWithout_81 : decode cX8_doesWithout 81 = .ok (.aload_n 0, 1) := by decide +kernel
theorem dX8_doesWithout_82 : decode cX8_doesWithout 82 = .ok (.getfield 20, 3) := by decide +kernel
theorem dX8_doesWithout_85 : decode cX8_doesWithout 85 = .ok (.iload_n 1, 1) := by decide +kernel
theorem dX8_doesWithout_86 : decode cX8_doesWithout 86 = .ok (.iaload, 1) := by decide +kernel
theorem dX8_doesWithout_87 : decode cX8_doesWithout 87 = .ok (.if_icmp .le 18, 3) := by decide +kernel
theorem dX8_doesWithout_90 : decode cX8_doesWithout 90 = .ok (.aload_n 0, 1) := by decide +kernel
theorem dX8_doesWithout_91 : decode cX8_doesWithout 91 = .ok (.getfield 35, 3) := by decide +kernel
theorem dX8_doesWithout_94 : decode cX8_doesWithout 94 = .ok (.bipush 12, 2) := by decide +kernel
theorem dX8_doesWithout_96 : decode cX8_doesWithout 96 = .ok (.iload 4, 2) := by decide +kernel
theorem dX8_doesWithout_98 : decode cX8_doesWithout 98 = .ok (.imul, 1) := by decide +kernel
theorem dX8_doesWithout_99 : decode cX8_doesWithout 99 = .ok (.iload_n 2, 1) := by decide +kernel
theorem dX8_doesWithout_100 : decode cX8_doesWithout 100 = .ok (.iadd, 1) := by decide +kernel
theorem dX8_doesWithout_101 : decode cX8_doesWithout 101 = .ok (.iaload, 1) := by decide +kernel
theorem dX8_doesWithout_102 : decode cX8_doesWithout 102 = .ok (.goto 14, 3) := by decide +kernel
theorem dX8_doesWithout_105 : decode cX8_doesWithout 105 = .ok (.aload_n 0, 1) := by decide +kernel
theorem dX8_doesWithout_106 : decode cX8_doesWithout 106 = .ok (.getfield 23, 3) := by decide +kernel
theorem dX8_doesWithout_109 : decode cX8_doesWithout 109 = .ok (.bipush 12, 2) := by decide +kernel
theorem dX8_doesWithout_111 : decode cX8_doesWithout 111 = .ok (.iload_n 1, 1) := by decide +kernel
theorem dX8_doesWithout_112 : decode cX8_doesWithout 112 = .ok (.imul, 1) := by decide +kernel
theorem dX8_doesWithout_113 : decode cX8_doesWithout 113 = .ok (.iload_n 2, 1) := by decide +kernel
theorem dX8_doesWithout_114 : decode cX8_doesWithout 114 = .ok (.iadd, 1) := by decide +kernel
theorem dX8_doesWithout_115 : decode cX8_doesWithout 115 = .ok (.iaload, 1) := by decide +kernel
theorem dX8_doesWithout_116 : decode cX8_doesWithout 116 = .ok (.ireturn, 1) := by decide +kernel
theorem dX8_doesNow_0 : decode cX8_doesNow 0 = .ok (.aload_n 0, 1) := by decide +kernel
theorem dX8_doesNow_1 : decode cX8_doesNow 1 = .ok (.iload_n 1, 1) := by decide +kernel
theorem dX8_doesNow_2 : decode cX8_doesNow 2 = .ok (.iload_n 2, 1) := by decide +kernel
theorem dX8_doesNow_3 : decode cX8_doesNow 3 = .ok (.iconst 0, 1) := by decide +kernel
theorem dX8_doesNow_4 : decode cX8_doesNow 4 = .ok (.invokevirtual 208, 3) := by decide +kernel
theorem dX8_doesNow_7 : decode cX8_doesNow 7 = .ok (.ireturn, 1) := by decide +kernel
theorem dX8_couldGo_0 : decode cX8_couldGo 0 = .ok (.aload_n 0, 1) := by decide +kernel
theorem dX8_couldGo_1 : decode cX8_couldGo 1 = .ok (.getfield 26, 3) := by decide +kernel
theorem dX8_couldGo_4 : decode cX8_couldGo 4 = .ok (.iload_n 1, 1) := by decide +kernel
theorem dX8_couldGo_5 : decode cX8_couldGo 5 = .ok (.iaload, 1) := by decide +kernel
theorem dX8_couldGo_6 : decode cX8_couldGo 6 = .ok (.iconst 1, 1) := by decide +kernel
theorem dX8_couldGo_7 : decode cX8_couldGo 7 = .ok (.invokestatic 99, 3) := by decide +kernel
theorem dX8_couldGo_10 : decode cX8_couldGo 10 = .ok (.ifCond .ne 14, 3) := by decide +kernel
theorem dX8_couldGo_13 : decode cX8_couldGo 13 = .ok (.aload_n 0, 1) := by decide +kernel
theorem dX8_couldGo_14 : decode cX8_couldGo 14 = .ok (.getfield 26, 3) := by decide +kernel
theorem dX8_couldGo_17 : decode cX8_couldGo 17 = .ok (.iload_n 1, 1) := by decide +kernel
theorem dX8_couldGo_18 : decode cX8_couldGo 18 = .ok (.iaload, 1) := by decide +kernel
theorem dX8_couldGo_19 : decode cX8_couldGo 19 = .ok (.bipush 6, 2) := by decide +kernel
theorem dX8_couldGo_21 : decode cX8_couldGo 21 = .ok (.if_icmp .ne 18, 3) := by decide +kernel
theorem dX8_couldGo_24 : decode cX8_couldGo 24 = .ok (.aload_n 0, 1) := by decide +kernel
theorem dX8_couldGo_25 : decode cX8_couldGo 25 = .ok (.iload_n 1, 1) := by decide +kernel
theorem dX8_couldGo_26 : decode cX8_couldGo 26 = .ok (.iload_n 2, 1) := by decide +kernel
theorem dX8_couldGo_27 : decode cX8_couldGo 27 = .ok (.invokevirtual 135, 3) := by decide +kernel
theorem dX8_couldGo_30 : decode cX8_couldGo 30 = .ok (.bipush 10, 2) := by decide +kernel
theorem dX8_couldGo_32 : decode cX8_couldGo 32 = .ok (.if_icmp .lt 7, 3) := by decide +kernel
theorem dX8_couldGo_35 : decode cX8_couldGo 35 = .ok (.iconst 1, 1) := by decide +kernel
theorem dX8_couldGo_36 : decode cX8_couldGo 36 = .ok (.goto 4, 3) := by decide +kernel
theorem dX8_couldGo_39 : decode cX8_couldGo 39 = .ok (.iconst 0, 1) := by decide +kernel
theorem dX8_couldGo_40 : decode cX8_couldGo 40 = .ok (.ireturn, 1) := by decide +kernel
theorem dX8_goesNow_0 : decode cX8_goesNow 0 = .ok (.aload_n 0, 1) := by decide +kernel
theorem dX8_goesNow_1 : decode cX8_goesNow 1 = .ok (.getfield 32, 3) := by decide +kernel
theorem dX8_goesNow_4 : decode cX8_goesNow 4 = .ok (.iload_n 1, 1) := by decide +kernel
theorem dX8_goesNow_5 : decode cX8_goesNow 5 = .ok (.iaload, 1) := by decide +kernel
theorem dX8_goesNow_6 : decode cX8_goesNow 6 = .ok (.iconst (-1), 1) := by decide +kernel
theorem dX8_goesNow_7 : decode cX8_goesNow 7 = .ok (.if_icmp .ne 16, 3) := by decide +kernel
theorem dX8_goesNow_10 : decode cX8_goesNow 10 = .ok (.aload_n 0, 1) := by decide +kernel
theorem dX8_goesNow_11 : decode cX8_goesNow 11 = .ok (.iload_n 1, 1) := by decide +kernel
theorem dX8_goesNow_12 : decode cX8_goesNow 12 = .ok (.iload_n 2, 1) := by decide +kernel
theorem dX8_goesNow_13 : decode cX8_goesNow 13 = .ok (.invokevirtual 110, 3) := by decide +kernel
theorem dX8_goesNow_16 : decode cX8_goesNow 16 = .ok (.ifCond .eq 7, 3) := by decide +kernel
theorem dX8_goesNow_19 : decode cX8_goesNow 19 = .ok (.iconst 1, 1) := by decide +kernel
theorem dX8_goesNow_20 : decode cX8_goesNow 20 = .ok (.goto 4, 3) := by decide +kernel
theorem dX8_goesNow_23 : decode cX8_goesNow 23 = .ok (.iconst 0, 1) := by decide +kernel
theorem dX8_goesNow_24 : decode cX8_goesNow 24 = .ok (.ireturn, 1) := by decide +kernel
theorem dX8_step_0 : decode cX8_step 0 = .ok (.aload_n 0, 1) := by decide +kernel
theorem dX8_step_1 : decode cX8_step 1 = .ok (.getfield 26, 3) := by decide +kernel
theorem dX8_step_4 : decode cX8_step 4 = .ok (.iload_n 1, 1) := by decide +kernel
theorem dX8_step_5 : decode cX8_step 5 = .ok (.iaload, 1) := by decide +kernel
theorem dX8_step_6 : decode cX8_step 6 = .ok (.tableswitch 49 2 6 #[34, 34, 36, 47, 36], 34) := by decide +kernel
theorem dX8_step_40 : decode cX8_step 40 = .ok (.iconst 2, 1) := by decide +kernel
theorem dX8_step_41 : decode cX8_step 41 = .ok (.ireturn, 1) := by decide +kernel
theorem dX8_step_42 : decode cX8_step 42 = .ok (.iload_n 2, 1) := by decide +kernel
theorem dX8_step_43 : decode cX8_step 43 = .ok (.ifCond .ne 8, 3) := by decide +kernel
theorem dX8_step_46 : decode cX8_step 46 = .ok (.bipush 9, 2) := by decide +kernel
theorem dX8_step_48 : decode cX8_step 48 = .ok (.goto 4, 3) := by decide +kernel
theorem dX8_step_51 : decode cX8_step 51 = .ok (.iconst 0, 1) := by decide +kernel
theorem dX8_step_52 : decode cX8_step 52 = .ok (.ireturn, 1) := by decide +kernel
theorem dX8_step_53 : decode cX8_step 53 = .ok (.iconst 3, 1) := by decide +kernel
theorem dX8_step_54 : decode cX8_step 54 = .ok (.ireturn, 1) := by decide +kernel
theorem dX8_step_55 : decode cX8_step 55 = .ok (.iconst 1, 1) := by decide +kernel
theorem dX8_step_56 : decode cX8_step 56 = .ok (.ireturn, 1) := by decide +kernel
theorem dX8_learns_0 : decode cX8_learns 0 = .ok (.bipush 12, 2) := by decide +kernel
theorem dX8_learns_2 : decode cX8_learns 2 = .ok (.iload_n 1, 1) := by decide +kernel
theorem dX8_learns_3 : decode cX8_learns 3 = .ok (.imul, 1) := by decide +kernel
theorem dX8_learns_4 : decode cX8_learns 4 = .ok (.iload_n 2, 1) := by decide +kernel
theorem dX8_learns_5 : decode cX8_learns 5 = .ok (.iadd, 1) := by decide +kernel
theorem dX8_learns_6 : decode cX8_learns 6 = .ok (.istore 4, 2) := by decide +kernel
theorem dX8_learns_8 : decode cX8_learns 8 = .ok (.aload_n 0, 1) := by decide +kernel
theorem dX8_learns_9 : decode cX8_learns 9 = .ok (.iload_n 1, 1) := by decide +kernel
theorem dX8_learns_10 : decode cX8_learns 10 = .ok (.aload_n 0, 1) := by decide +kernel
theorem dX8_learns_11 : decode cX8_learns 11 = .ok (.getfield 35, 3) := by decide +kernel
theorem dX8_learns_14 : decode cX8_learns 14 = .ok (.iload 4, 2) := by decide +kernel
theorem dX8_learns_16 : decode cX8_learns 16 = .ok (.iaload, 1) := by decide +kernel
theorem dX8_learns_17 : decode cX8_learns 17 = .ok (.invokevirtual 106, 3) := by decide +kernel
theorem dX8_learns_20 : decode cX8_learns 20 = .ok (.istore 5, 2) := by decide +kernel
theorem dX8_learns_22 : decode cX8_learns 22 = .ok (.iload_n 3, 1) := by decide +kernel
theorem dX8_learns_23 : decode cX8_learns 23 = .ok (.ifCond .eq 8, 3) := by decide +kernel
theorem dX8_learns_26 : decode cX8_learns 26 = .ok (.iload 5, 2) := by decide +kernel
theorem dX8_learns_28 : decode cX8_learns 28 = .ok (.ifCond .ne 4, 3) := by decide +kernel
theorem dX8_learns_31 : decode cX8_learns 31 = .ok (.return_, 1) := by decide +kernel
theorem dX8_learns_32 : decode cX8_learns 32 = .ok (.aload_n 0, 1) := by decide +kernel
theorem dX8_learns_33 : decode cX8_learns 33 = .ok (.getfield 35, 3) := by decide +kernel
theorem dX8_learns_36 : decode cX8_learns 36 = .ok (.iload 4, 2) := by decide +kernel
theorem dX8_learns_38 : decode cX8_learns 38 = .ok (.iaload, 1) := by decide +kernel
theorem dX8_learns_39 : decode cX8_learns 39 = .ok (.iload_n 3, 1) := by decide +kernel
theorem dX8_learns_40 : decode cX8_learns 40 = .ok (.if_icmp .ne 26, 3) := by decide +kernel
theorem dX8_learns_43 : decode cX8_learns 43 = .ok (.aload_n 0, 1) := by decide +kernel
theorem dX8_learns_44 : decode cX8_learns 44 = .ok (.getfield 38, 3) := by decide +kernel
theorem dX8_learns_47 : decode cX8_learns 47 = .ok (.iload 4, 2) := by decide +kernel
theorem dX8_learns_49 : decode cX8_learns 49 = .ok (.bipush 9, 2) := by decide +kernel
theorem dX8_learns_51 : decode cX8_learns 51 = .ok (.aload_n 0, 1) := by decide +kernel
theorem dX8_learns_52 : decode cX8_learns 52 = .ok (.getfield 38, 3) := by decide +kernel
theorem dX8_learns_55 : decode cX8_learns 55 = .ok (.iload 4, 2) := by decide +kernel
theorem dX8_learns_57 : decode cX8_learns 57 = .ok (.iaload, 1) := by decide +kernel
theorem dX8_learns_58 : decode cX8_learns 58 = .ok (.iload 5, 2) := by decide +kernel
theorem dX8_learns_60 : decode cX8_learns 60 = .ok (.iadd, 1) := by decide +kernel
theorem dX8_learns_61 : decode cX8_learns 61 = .ok (.invokestatic 212, 3) := by decide +kernel
theorem dX8_learns_64 : decode cX8_learns 64 = .ok (.iastore, 1) := by decide +kernel
theorem dX8_learns_65 : decode cX8_learns 65 = .ok (.return_, 1) := by decide +kernel
theorem dX8_learns_66 : decode cX8_learns 66 = .ok (.aload_n 0, 1) := by decide +kernel
theorem dX8_learns_67 : decode cX8_learns 67 = .ok (.getfield 38, 3) := by decide +kernel
theorem dX8_learns_70 : decode cX8_learns 70 = .ok (.iload 4, 2) := by decide +kernel
theorem dX8_learns_72 : decode cX8_learns 72 = .ok (.dup2, 1) := by decide +kernel
theorem dX8_learns_73 : decode cX8_learns 73 = .ok (.iaload, 1) := by decide +kernel
theorem dX8_learns_74 : decode cX8_learns 74 = .ok (.iload 5, 2) := by decide +kernel
theorem dX8_learns_76 : decode cX8_learns 76 = .ok (.isub, 1) := by decide +kernel
theorem dX8_learns_77 : decode cX8_learns 77 = .ok (.iastore, 1) := by decide +kernel
theorem dX8_learns_78 : decode cX8_learns 78 = .ok (.aload_n 0, 1) := by decide +kernel
theorem dX8_learns_79 : decode cX8_learns 79 = .ok (.getfield 38, 3) := by decide +kernel
theorem dX8_learns_82 : decode cX8_learns 82 = .ok (.iload 4, 2) := by decide +kernel
theorem dX8_learns_84 : decode cX8_learns 84 = .ok (.iaload, 1) := by decide +kernel
theorem dX8_learns_85 : decode cX8_learns 85 = .ok (.ifCond .gt 29, 3) := by decide +kernel
theorem dX8_learns_88 : decode cX8_learns 88 = .ok (.aload_n 0, 1) := by decide +kernel
theorem dX8_learns_89 : decode cX8_learns 89 = .ok (.iload_n 1, 1) := by decide +kernel
theorem dX8_learns_90 : decode cX8_learns 90 = .ok (.iload_n 2, 1) := by decide +kernel
theorem dX8_learns_91 : decode cX8_learns 91 = .ok (.iload_n 3, 1) := by decide +kernel
theorem dX8_learns_92 : decode cX8_learns 92 = .ok (.aload_n 0, 1) := by decide +kernel
theorem dX8_learns_93 : decode cX8_learns 93 = .ok (.getfield 26, 3) := by decide +kernel
theorem dX8_learns_96 : decode cX8_learns 96 = .ok (.iload_n 1, 1) := by decide +kernel
theorem dX8_learns_97 : decode cX8_learns 97 = .ok (.iaload, 1) := by decide +kernel
theorem dX8_learns_98 : decode cX8_learns 98 = .ok (.iconst 4, 1) := by decide +kernel
theorem dX8_learns_99 : decode cX8_learns 99 = .ok (.invokestatic 99, 3) := by decide +kernel
theorem dX8_learns_102 : decode cX8_learns 102 = .ok (.ifCond .eq 8, 3) := by decide +kernel
theorem dX8_learns_105 : decode cX8_learns 105 = .ok (.bipush 9, 2) := by decide +kernel
theorem dX8_learns_107 : decode cX8_learns 107 = .ok (.goto 4, 3) := by decide +kernel
theorem dX8_learns_110 : decode cX8_learns 110 = .ok (.iconst 1, 1) := by decide +kernel
theorem dX8_learns_111 : decode cX8_learns 111 = .ok (.invokevirtual 128, 3) := by decide +kernel
theorem dX8_learns_114 : decode cX8_learns 114 = .ok (.return_, 1) := by decide +kernel
theorem dX8_day_0 : decode cX8_day 0 = .ok (.iconst 0, 1) := by decide +kernel
theorem dX8_day_1 : decode cX8_day 1 = .ok (.istore_n 1, 1) := by decide +kernel
theorem dX8_day_2 : decode cX8_day 2 = .ok (.iconst 0, 1) := by decide +kernel
theorem dX8_day_3 : decode cX8_day 3 = .ok (.istore_n 2, 1) := by decide +kernel
theorem dX8_day_4 : decode cX8_day 4 = .ok (.iload_n 2, 1) := by decide +kernel
theorem dX8_day_5 : decode cX8_day 5 = .ok (.bipush 12, 2) := by decide +kernel
theorem dX8_day_7 : decode cX8_day 7 = .ok (.if_icmp .ge 92, 3) := by decide +kernel
theorem dX8_day_10 : decode cX8_day 10 = .ok (.iconst 0, 1) := by decide +kernel
theorem dX8_day_11 : decode cX8_day 11 = .ok (.istore_n 3, 1) := by decide +kernel
theorem dX8_day_12 : decode cX8_day 12 = .ok (.iload_n 3, 1) := by decide +kernel
theorem dX8_day_13 : decode cX8_day 13 = .ok (.aload_n 0, 1) := by decide +kernel
theorem dX8_day_14 : decode cX8_day 14 = .ok (.getfield 83, 3) := by decide +kernel
theorem dX8_day_17 : decode cX8_day 17 = .ok (.if_icmp .ge 33, 3) := by decide +kernel
theorem dX8_day_20 : decode cX8_day 20 = .ok (.aload_n 0, 1) := by decide +kernel
theorem dX8_day_21 : decode cX8_day 21 = .ok (.getfield 56, 3) := by decide +kernel
theorem dX8_day_24 : decode cX8_day 24 = .ok (.iload_n 3, 1) := by decide +kernel
theorem dX8_day_25 : decode cX8_day 25 = .ok (.aload_n 0, 1) := by decide +kernel
theorem dX8_day_26 : decode cX8_day 26 = .ok (.iload_n 3, 1) := by decide +kernel
theorem dX8_day_27 : decode cX8_day 27 = .ok (.iload_n 2, 1) := by decide +kernel
theorem dX8_day_28 : decode cX8_day 28 = .ok (.invokevirtual 217, 3) := by decide +kernel
theorem dX8_day_31 : decode cX8_day 31 = .ok (.iastore, 1) := by decide +kernel
theorem dX8_day_32 : decode cX8_day 32 = .ok (.aload_n 0, 1) := by decide +kernel
theorem dX8_day_33 : decode cX8_day 33 = .ok (.getfield 56, 3) := by decide +kernel
theorem dX8_day_36 : decode cX8_day 36 = .ok (.iload_n 3, 1) := by decide +kernel
theorem dX8_day_37 : decode cX8_day 37 = .ok (.iaload, 1) := by decide +kernel
theorem dX8_day_38 : decode cX8_day 38 = .ok (.ifCond .eq 6, 3) := by decide +kernel
theorem dX8_day_41 : decode cX8_day 41 = .ok (.iinc 1 1, 3) := by decide +kernel
theorem dX8_day_44 : decode cX8_day 44 = .ok (.iinc 3 1, 3) := by decide +kernel
theorem dX8_day_47 : decode cX8_day 47 = .ok (.goto (-35), 3) := by decide +kernel
theorem dX8_day_50 : decode cX8_day 50 = .ok (.iconst 0, 1) := by decide +kernel
theorem dX8_day_51 : decode cX8_day 51 = .ok (.istore_n 3, 1) := by decide +kernel
theorem dX8_day_52 : decode cX8_day 52 = .ok (.iload_n 3, 1) := by decide +kernel
theorem dX8_day_53 : decode cX8_day 53 = .ok (.aload_n 0, 1) := by decide +kernel
theorem dX8_day_54 : decode cX8_day 54 = .ok (.getfield 76, 3) := by decide +kernel
theorem dX8_day_57 : decode cX8_day 57 = .ok (.if_icmp .ge 36, 3) := by decide +kernel
theorem dX8_day_60 : decode cX8_day 60 = .ok (.aload_n 0, 1) := by decide +kernel
theorem dX8_day_61 : decode cX8_day 61 = .ok (.getfield 32, 3) := by decide +kernel
theorem dX8_day_64 : decode cX8_day 64 = .ok (.iload_n 3, 1) := by decide +kernel
theorem dX8_day_65 : decode cX8_day 65 = .ok (.iaload, 1) := by decide +kernel
theorem dX8_day_66 : decode cX8_day 66 = .ok (.iconst (-1), 1) := by decide +kernel
theorem dX8_day_67 : decode cX8_day 67 = .ok (.if_icmp .eq 20, 3) := by decide +kernel
theorem dX8_day_70 : decode cX8_day 70 = .ok (.aload_n 0, 1) := by decide +kernel
theorem dX8_day_71 : decode cX8_day 71 = .ok (.iload_n 3, 1) := by decide +kernel
theorem dX8_day_72 : decode cX8_day 72 = .ok (.iload_n 2, 1) := by decide +kernel
theorem dX8_day_73 : decode cX8_day 73 = .ok (.aload_n 0, 1) := by decide +kernel
theorem dX8_day_74 : decode cX8_day 74 = .ok (.getfield 56, 3) := by decide +kernel
theorem dX8_day_77 : decode cX8_day 77 = .ok (.aload_n 0, 1) := by decide +kernel
theorem dX8_day_78 : decode cX8_day 78 = .ok (.getfield 32, 3) := by decide +kernel
theorem dX8_day_81 : decode cX8_day 81 = .ok (.iload_n 3, 1) := by decide +kernel
theorem dX8_day_82 : decode cX8_day 82 = .ok (.iaload, 1) := by decide +kernel
theorem dX8_day_83 : decode cX8_day 83 = .ok (.iaload, 1) := by decide +kernel
theorem dX8_day_84 : decode cX8_day 84 = .ok (.invokevirtual 220, 3) := by decide +kernel
theorem dX8_day_87 : decode cX8_day 87 = .ok (.iinc 3 1, 3) := by decide +kernel
theorem dX8_day_90 : decode cX8_day 90 = .ok (.goto (-38), 3) := by decide +kernel
theorem dX8_day_93 : decode cX8_day 93 = .ok (.iinc 2 1, 3) := by decide +kernel
theorem dX8_day_96 : decode cX8_day 96 = .ok (.goto (-92), 3) := by decide +kernel
theorem dX8_day_99 : decode cX8_day 99 = .ok (.aload_n 0, 1) := by decide +kernel
theorem dX8_day_100 : decode cX8_day 100 = .ok (.dup, 1) := by decide +kernel
theorem dX8_day_101 : decode cX8_day 101 = .ok (.getfield 224, 3) := by decide +kernel
theorem dX8_day_104 : decode cX8_day 104 = .ok (.iconst 1, 1) := by decide +kernel
theorem dX8_day_105 : decode cX8_day 105 = .ok (.iadd, 1) := by decide +kernel
theorem dX8_day_106 : decode cX8_day 106 = .ok (.putfield 224, 3) := by decide +kernel
theorem dX8_day_109 : decode cX8_day 109 = .ok (.iload_n 1, 1) := by decide +kernel
theorem dX8_day_110 : decode cX8_day 110 = .ok (.ireturn, 1) := by decide +kernel
theorem dX8_washedBy_0 : decode cX8_washedBy 0 = .ok (.iload_n 0, 1) := by decide +kernel
theorem dX8_washedBy_1 : decode cX8_washedBy 1 = .ok (.tableswitch 50 1 6 #[39, 41, 39, 43, 45, 47], 39) := by decide +kernel
theorem dX8_washedBy_40 : decode cX8_washedBy 40 = .ok (.iconst 1, 1) := by decide +kernel
theorem dX8_washedBy_41 : decode cX8_washedBy 41 = .ok (.ireturn, 1) := by decide +kernel
theorem dX8_washedBy_42 : decode cX8_washedBy 42 = .ok (.iconst 5, 1) := by decide +kernel
theorem dX8_washedBy_43 : decode cX8_washedBy 43 = .ok (.ireturn, 1) := by decide +kernel
theorem dX8_washedBy_44 : decode cX8_washedBy 44 = .ok (.iconst 0, 1) := by decide +kernel
theorem dX8_washedBy_45 : decode cX8_washedBy 45 = .ok (.ireturn, 1) := by decide +kernel
theorem dX8_washedBy_46 : decode cX8_washedBy 46 = .ok (.iconst 2, 1) := by decide +kernel
theorem dX8_washedBy_47 : decode cX8_washedBy 47 = .ok (.ireturn, 1) := by decide +kernel
theorem dX8_washedBy_48 : decode cX8_washedBy 48 = .ok (.bipush 9, 2) := by decide +kernel
theorem dX8_washedBy_50 : decode cX8_washedBy 50 = .ok (.ireturn, 1) := by decide +kernel
theorem dX8_washedBy_51 : decode cX8_washedBy 51 = .ok (.iconst 3, 1) := by decide +kernel
theorem dX8_washedBy_52 : decode cX8_washedBy 52 = .ok (.ireturn, 1) := by decide +kernel
theorem dX8_washes_0 : decode cX8_washes 0 = .ok (.iconst 0, 1) := by decide +kernel
theorem dX8_washes_1 : decode cX8_washes 1 = .ok (.istore_n 2, 1) := by decide +kernel
theorem dX8_washes_2 : decode cX8_washes 2 = .ok (.iload_n 2, 1) := by decide +kernel
theorem dX8_washes_3 : decode cX8_washes 3 = .ok (.bipush 12, 2) := by decide +kernel
theorem dX8_washes_5 : decode cX8_washes 5 = .ok (.if_icmp .ge 58, 3) := by decide +kernel
theorem dX8_washes_8 : decode cX8_washes 8 = .ok (.aload_n 0, 1) := by decide +kernel
theorem dX8_washes_9 : decode cX8_washes 9 = .ok (.getfield 38, 3) := by decide +kernel
theorem dX8_washes_12 : decode cX8_washes 12 = .ok (.bipush 12, 2) := by decide +kernel
theorem dX8_washes_14 : decode cX8_washes 14 = .ok (.iload_n 1, 1) := by decide +kernel
theorem dX8_washes_15 : decode cX8_washes 15 = .ok (.imul, 1) := by decide +kernel
theorem dX8_washes_16 : decode cX8_washes 16 = .ok (.iload_n 2, 1) := by decide +kernel
theorem dX8_washes_17 : decode cX8_washes 17 = .ok (.iadd, 1) := by decide +kernel
theorem dX8_washes_18 : decode cX8_washes 18 = .ok (.iaload, 1) := by decide +kernel
theorem dX8_washes_19 : decode cX8_washes 19 = .ok (.aload_n 0, 1) := by decide +kernel
theorem dX8_washes_20 : decode cX8_washes 20 = .ok (.getfield 26, 3) := by decide +kernel
theorem dX8_washes_23 : decode cX8_washes 23 = .ok (.iload_n 1, 1) := by decide +kernel
theorem dX8_washes_24 : decode cX8_washes 24 = .ok (.iaload, 1) := by decide +kernel
theorem dX8_washes_25 : decode cX8_washes 25 = .ok (.invokestatic 227, 3) := by decide +kernel
theorem dX8_washes_28 : decode cX8_washes 28 = .ok (.isub, 1) := by decide +kernel
theorem dX8_washes_29 : decode cX8_washes 29 = .ok (.istore_n 3, 1) := by decide +kernel
theorem dX8_washes_30 : decode cX8_washes 30 = .ok (.iload_n 3, 1) := by decide +kernel
theorem dX8_washes_31 : decode cX8_washes 31 = .ok (.ifCond .gt 14, 3) := by decide +kernel
theorem dX8_washes_34 : decode cX8_washes 34 = .ok (.aload_n 0, 1) := by decide +kernel
theorem dX8_washes_35 : decode cX8_washes 35 = .ok (.iload_n 1, 1) := by decide +kernel
theorem dX8_washes_36 : decode cX8_washes 36 = .ok (.iload_n 2, 1) := by decide +kernel
theorem dX8_washes_37 : decode cX8_washes 37 = .ok (.iconst 0, 1) := by decide +kernel
theorem dX8_washes_38 : decode cX8_washes 38 = .ok (.iconst 0, 1) := by decide +kernel
theorem dX8_washes_39 : decode cX8_washes 39 = .ok (.invokevirtual 128, 3) := by decide +kernel
theorem dX8_washes_42 : decode cX8_washes 42 = .ok (.goto 15, 3) := by decide +kernel
theorem dX8_washes_45 : decode cX8_washes 45 = .ok (.aload_n 0, 1) := by decide +kernel
theorem dX8_washes_46 : decode cX8_washes 46 = .ok (.getfield 38, 3) := by decide +kernel
theorem dX8_washes_49 : decode cX8_washes 49 = .ok (.bipush 12, 2) := by decide +kernel
theorem dX8_washes_51 : decode cX8_washes 51 = .ok (.iload_n 1, 1) := by decide +kernel
theorem dX8_washes_52 : decode cX8_washes 52 = .ok (.imul, 1) := by decide +kernel
theorem dX8_washes_53 : decode cX8_washes 53 = .ok (.iload_n 2, 1) := by decide +kernel
theorem dX8_washes_54 : decode cX8_washes 54 = .ok (.iadd, 1) := by decide +kernel
theorem dX8_washes_55 : decode cX8_washes 55 = .ok (.iload_n 3, 1) := by decide +kernel
theorem dX8_washes_56 : decode cX8_washes 56 = .ok (.iastore, 1) := by decide +kernel
theorem dX8_washes_57 : decode cX8_washes 57 = .ok (.iinc 2 1, 3) := by decide +kernel
theorem dX8_washes_60 : decode cX8_washes 60 = .ok (.goto (-58), 3) := by decide +kernel
theorem dX8_washes_63 : decode cX8_washes 63 = .ok (.return_, 1) := by decide +kernel
theorem dX8_habits_0 : decode cX8_habits 0 = .ok (.iconst 0, 1) := by decide +kernel
theorem dX8_habits_1 : decode cX8_habits 1 = .ok (.istore_n 2, 1) := by decide +kernel
theorem dX8_habits_2 : decode cX8_habits 2 = .ok (.iconst 0, 1) := by decide +kernel
theorem dX8_habits_3 : decode cX8_habits 3 = .ok (.istore_n 3, 1) := by decide +kernel
theorem dX8_habits_4 : decode cX8_habits 4 = .ok (.iload_n 3, 1) := by decide +kernel
theorem dX8_habits_5 : decode cX8_habits 5 = .ok (.bipush 12, 2) := by decide +kernel
theorem dX8_habits_7 : decode cX8_habits 7 = .ok (.if_icmp .ge 26, 3) := by decide +kernel
theorem dX8_habits_10 : decode cX8_habits 10 = .ok (.aload_n 0, 1) := by decide +kernel
theorem dX8_habits_11 : decode cX8_habits 11 = .ok (.getfield 35, 3) := by decide +kernel
theorem dX8_habits_14 : decode cX8_habits 14 = .ok (.bipush 12, 2) := by decide +kernel
theorem dX8_habits_16 : decode cX8_habits 16 = .ok (.iload_n 1, 1) := by decide +kernel
theorem dX8_habits_17 : decode cX8_habits 17 = .ok (.imul, 1) := by decide +kernel
theorem dX8_habits_18 : decode cX8_habits 18 = .ok (.iload_n 3, 1) := by decide +kernel
theorem dX8_habits_19 : decode cX8_habits 19 = .ok (.iadd, 1) := by decide +kernel
theorem dX8_habits_20 : decode cX8_habits 20 = .ok (.iaload, 1) := by decide +kernel
theorem dX8_habits_21 : decode cX8_habits 21 = .ok (.ifCond .eq 6, 3) := by decide +kernel
theorem dX8_habits_24 : decode cX8_habits 24 = .ok (.iinc 2 1, 3) := by decide +kernel
theorem dX8_habits_27 : decode cX8_habits 27 = .ok (.iinc 3 1, 3) := by decide +kernel
theorem dX8_habits_30 : decode cX8_habits 30 = .ok (.goto (-26), 3) := by decide +kernel
theorem dX8_habits_33 : decode cX8_habits 33 = .ok (.iload_n 2, 1) := by decide +kernel
theorem dX8_habits_34 : decode cX8_habits 34 = .ok (.ireturn, 1) := by decide +kernel
theorem dX8_waits_0 : decode cX8_waits 0 = .ok (.iconst 0, 1) := by decide +kernel
theorem dX8_waits_1 : decode cX8_waits 1 = .ok (.istore_n 2, 1) := by decide +kernel
theorem dX8_waits_2 : decode cX8_waits 2 = .ok (.iload_n 2, 1) := by decide +kernel
theorem dX8_waits_3 : decode cX8_waits 3 = .ok (.iload_n 1, 1) := by decide +kernel
theorem dX8_waits_4 : decode cX8_waits 4 = .ok (.if_icmp .ge 14, 3) := by decide +kernel
theorem dX8_waits_7 : decode cX8_waits 7 = .ok (.aload_n 0, 1) := by decide +kernel
theorem dX8_waits_8 : decode cX8_waits 8 = .ok (.invokevirtual 192, 3) := by decide +kernel
theorem dX8_waits_11 : decode cX8_waits 11 = .ok (.pop, 1) := by decide +kernel
theorem dX8_waits_12 : decode cX8_waits 12 = .ok (.iinc 2 1, 3) := by decide +kernel
theorem dX8_waits_15 : decode cX8_waits 15 = .ok (.goto (-13), 3) := by decide +kernel
theorem dX8_waits_18 : decode cX8_waits 18 = .ok (.return_, 1) := by decide +kernel
theorem dX8_isDays_0 : decode cX8_isDays 0 = .ok (.iload_n 0, 1) := by decide +kernel
theorem dX8_isDays_1 : decode cX8_isDays 1 = .ok (.iconst 0, 1) := by decide +kernel
theorem dX8_isDays_2 : decode cX8_isDays 2 = .ok (.bipush 60, 2) := by decide +kernel
theorem dX8_isDays_4 : decode cX8_isDays 4 = .ok (.invokestatic 79, 3) := by decide +kernel
theorem dX8_isDays_7 : decode cX8_isDays 7 = .ok (.ireturn, 1) := by decide +kernel
theorem dX8_does_0 : decode cX8_does 0 = .ok (.aload_n 0, 1) := by decide +kernel
theorem dX8_does_1 : decode cX8_does 1 = .ok (.iload_n 1, 1) := by decide +kernel
theorem dX8_does_2 : decode cX8_does 2 = .ok (.invokevirtual 122, 3) := by decide +kernel
theorem dX8_does_5 : decode cX8_does 5 = .ok (.ifCond .ne 9, 3) := by decide +kernel
theorem dX8_does_8 : decode cX8_does 8 = .ok (.aload_n 0, 1) := by decide +kernel
theorem dX8_does_9 : decode cX8_does 9 = .ok (.iconst (-1), 1) := by decide +kernel
theorem dX8_does_10 : decode cX8_does 10 = .ok (.invokevirtual 72, 3) := by decide +kernel
theorem dX8_does_13 : decode cX8_does 13 = .ok (.ireturn, 1) := by decide +kernel
theorem dX8_does_14 : decode cX8_does 14 = .ok (.iload_n 2, 1) := by decide +kernel
theorem dX8_does_15 : decode cX8_does 15 = .ok (.invokestatic 230, 3) := by decide +kernel
theorem dX8_does_18 : decode cX8_does 18 = .ok (.ifCond .eq 10, 3) := by decide +kernel
theorem dX8_does_21 : decode cX8_does 21 = .ok (.iload_n 3, 1) := by decide +kernel
theorem dX8_does_22 : decode cX8_does 22 = .ok (.invokestatic 125, 3) := by decide +kernel
theorem dX8_does_25 : decode cX8_does 25 = .ok (.ifCond .ne 10, 3) := by decide +kernel
theorem dX8_does_28 : decode cX8_does 28 = .ok (.aload_n 0, 1) := by decide +kernel
theorem dX8_does_29 : decode cX8_does 29 = .ok (.bipush (-6), 2) := by decide +kernel
theorem dX8_does_31 : decode cX8_does 31 = .ok (.invokevirtual 72, 3) := by decide +kernel
theorem dX8_does_34 : decode cX8_does 34 = .ok (.ireturn, 1) := by decide +kernel
theorem dX8_does_35 : decode cX8_does 35 = .ok (.aload_n 0, 1) := by decide +kernel
theorem dX8_does_36 : decode cX8_does 36 = .ok (.aload_n 0, 1) := by decide +kernel
theorem dX8_does_37 : decode cX8_does 37 = .ok (.getfield 53, 3) := by decide +kernel
theorem dX8_does_40 : decode cX8_does 40 = .ok (.invokevirtual 194, 3) := by decide +kernel
theorem dX8_does_43 : decode cX8_does 43 = .ok (.aload_n 0, 1) := by decide +kernel
theorem dX8_does_44 : decode cX8_does 44 = .ok (.iload_n 2, 1) := by decide +kernel
theorem dX8_does_45 : decode cX8_does 45 = .ok (.invokevirtual 233, 3) := by decide +kernel
theorem dX8_does_48 : decode cX8_does 48 = .ok (.aload_n 0, 1) := by decide +kernel
theorem dX8_does_49 : decode cX8_does 49 = .ok (.iload_n 1, 1) := by decide +kernel
theorem dX8_does_50 : decode cX8_does 50 = .ok (.iload_n 3, 1) := by decide +kernel
theorem dX8_does_51 : decode cX8_does 51 = .ok (.invokevirtual 217, 3) := by decide +kernel
theorem dX8_does_54 : decode cX8_does 54 = .ok (.istore 4, 2) := by decide +kernel
theorem dX8_does_56 : decode cX8_does 56 = .ok (.aload_n 0, 1) := by decide +kernel
theorem dX8_does_57 : decode cX8_does 57 = .ok (.aload_n 0, 1) := by decide +kernel
theorem dX8_does_58 : decode cX8_does 58 = .ok (.getfield 53, 3) := by decide +kernel
theorem dX8_does_61 : decode cX8_does 61 = .ok (.invokevirtual 202, 3) := by decide +kernel
theorem dX8_does_64 : decode cX8_does 64 = .ok (.iload 4, 2) := by decide +kernel
theorem dX8_does_66 : decode cX8_does 66 = .ok (.ireturn, 1) := by decide +kernel
theorem dX8_goes_0 : decode cX8_goes 0 = .ok (.aload_n 0, 1) := by decide +kernel
theorem dX8_goes_1 : decode cX8_goes 1 = .ok (.iload_n 1, 1) := by decide +kernel
theorem dX8_goes_2 : decode cX8_goes 2 = .ok (.invokevirtual 93, 3) := by decide +kernel
theorem dX8_goes_5 : decode cX8_goes 5 = .ok (.ifCond .ne 9, 3) := by decide +kernel
theorem dX8_goes_8 : decode cX8_goes 8 = .ok (.aload_n 0, 1) := by decide +kernel
theorem dX8_goes_9 : decode cX8_goes 9 = .ok (.iconst (-1), 1) := by decide +kernel
theorem dX8_goes_10 : decode cX8_goes 10 = .ok (.invokevirtual 72, 3) := by decide +kernel
theorem dX8_goes_13 : decode cX8_goes 13 = .ok (.ireturn, 1) := by decide +kernel
theorem dX8_goes_14 : decode cX8_goes 14 = .ok (.iload_n 2, 1) := by decide +kernel
theorem dX8_goes_15 : decode cX8_goes 15 = .ok (.invokestatic 230, 3) := by decide +kernel
theorem dX8_goes_18 : decode cX8_goes 18 = .ok (.ifCond .eq 10, 3) := by decide +kernel
theorem dX8_goes_21 : decode cX8_goes 21 = .ok (.iload_n 3, 1) := by decide +kernel
theorem dX8_goes_22 : decode cX8_goes 22 = .ok (.invokestatic 125, 3) := by decide +kernel
theorem dX8_goes_25 : decode cX8_goes 25 = .ok (.ifCond .ne 10, 3) := by decide +kernel
theorem dX8_goes_28 : decode cX8_goes 28 = .ok (.aload_n 0, 1) := by decide +kernel
theorem dX8_goes_29 : decode cX8_goes 29 = .ok (.bipush (-6), 2) := by decide +kernel
theorem dX8_goes_31 : decode cX8_goes 31 = .ok (.invokevirtual 72, 3) := by decide +kernel
theorem dX8_goes_34 : decode cX8_goes 34 = .ok (.ireturn, 1) := by decide +kernel
theorem dX8_goes_35 : decode cX8_goes 35 = .ok (.aload_n 0, 1) := by decide +kernel
theorem dX8_goes_36 : decode cX8_goes 36 = .ok (.aload_n 0, 1) := by decide +kernel
theorem dX8_goes_37 : decode cX8_goes 37 = .ok (.getfield 53, 3) := by decide +kernel
theorem dX8_goes_40 : decode cX8_goes 40 = .ok (.invokevirtual 194, 3) := by decide +kernel
theorem dX8_goes_43 : decode cX8_goes 43 = .ok (.aload_n 0, 1) := by decide +kernel
theorem dX8_goes_44 : decode cX8_goes 44 = .ok (.iload_n 2, 1) := by decide +kernel
theorem dX8_goes_45 : decode cX8_goes 45 = .ok (.invokevirtual 233, 3) := by decide +kernel
theorem dX8_goes_48 : decode cX8_goes 48 = .ok (.aload_n 0, 1) := by decide +kernel
theorem dX8_goes_49 : decode cX8_goes 49 = .ok (.iload_n 1, 1) := by decide +kernel
theorem dX8_goes_50 : decode cX8_goes 50 = .ok (.iload_n 3, 1) := by decide +kernel
theorem dX8_goes_51 : decode cX8_goes 51 = .ok (.invokevirtual 236, 3) := by decide +kernel
theorem dX8_goes_54 : decode cX8_goes 54 = .ok (.ifCond .eq 17, 3) := by decide +kernel
theorem dX8_goes_57 : decode cX8_goes 57 = .ok (.aload_n 0, 1) := by decide +kernel
theorem dX8_goes_58 : decode cX8_goes 58 = .ok (.getfield 35, 3) := by decide +kernel
theorem dX8_goes_61 : decode cX8_goes 61 = .ok (.bipush 12, 2) := by decide +kernel
theorem dX8_goes_63 : decode cX8_goes 63 = .ok (.iload_n 1, 1) := by decide +kernel
theorem dX8_goes_64 : decode cX8_goes 64 = .ok (.imul, 1) := by decide +kernel
theorem dX8_goes_65 : decode cX8_goes 65 = .ok (.iload_n 3, 1) := by decide +kernel
theorem dX8_goes_66 : decode cX8_goes 66 = .ok (.iadd, 1) := by decide +kernel
theorem dX8_goes_67 : decode cX8_goes 67 = .ok (.iaload, 1) := by decide +kernel
theorem dX8_goes_68 : decode cX8_goes 68 = .ok (.goto 4, 3) := by decide +kernel
theorem dX8_goes_71 : decode cX8_goes 71 = .ok (.iconst 0, 1) := by decide +kernel
theorem dX8_goes_72 : decode cX8_goes 72 = .ok (.istore 4, 2) := by decide +kernel
theorem dX8_goes_74 : decode cX8_goes 74 = .ok (.aload_n 0, 1) := by decide +kernel
theorem dX8_goes_75 : decode cX8_goes 75 = .ok (.aload_n 0, 1) := by decide +kernel
theorem dX8_goes_76 : decode cX8_goes 76 = .ok (.getfield 53, 3) := by decide +kernel
theorem dX8_goes_79 : decode cX8_goes 79 = .ok (.invokevirtual 202, 3) := by decide +kernel
theorem dX8_goes_82 : decode cX8_goes 82 = .ok (.iload 4, 2) := by decide +kernel
theorem dX8_goes_84 : decode cX8_goes 84 = .ok (.ireturn, 1) := by decide +kernel
theorem dX8_behind_0 : decode cX8_behind 0 = .ok (.aload_n 0, 1) := by decide +kernel
theorem dX8_behind_1 : decode cX8_behind 1 = .ok (.iload_n 1, 1) := by decide +kernel
theorem dX8_behind_2 : decode cX8_behind 2 = .ok (.invokevirtual 93, 3) := by decide +kernel
theorem dX8_behind_5 : decode cX8_behind 5 = .ok (.ifCond .ne 9, 3) := by decide +kernel
theorem dX8_behind_8 : decode cX8_behind 8 = .ok (.aload_n 0, 1) := by decide +kernel
theorem dX8_behind_9 : decode cX8_behind 9 = .ok (.iconst (-1), 1) := by decide +kernel
theorem dX8_behind_10 : decode cX8_behind 10 = .ok (.invokevirtual 72, 3) := by decide +kernel
theorem dX8_behind_13 : decode cX8_behind 13 = .ok (.ireturn, 1) := by decide +kernel
theorem dX8_behind_14 : decode cX8_behind 14 = .ok (.iload 4, 2) := by decide +kernel
theorem dX8_behind_16 : decode cX8_behind 16 = .ok (.iconst 0, 1) := by decide +kernel
theorem dX8_behind_17 : decode cX8_behind 17 = .ok (.iconst 1, 1) := by decide +kernel
theorem dX8_behind_18 : decode cX8_behind 18 = .ok (.invokestatic 79, 3) := by decide +kernel
theorem dX8_behind_21 : decode cX8_behind 21 = .ok (.ifCond .ne 10, 3) := by decide +kernel
theorem dX8_behind_24 : decode cX8_behind 24 = .ok (.aload_n 0, 1) := by decide +kernel
theorem dX8_behind_25 : decode cX8_behind 25 = .ok (.bipush (-5), 2) := by decide +kernel
theorem dX8_behind_27 : decode cX8_behind 27 = .ok (.invokevirtual 72, 3) := by decide +kernel
theorem dX8_behind_30 : decode cX8_behind 30 = .ok (.ireturn, 1) := by decide +kernel
theorem dX8_behind_31 : decode cX8_behind 31 = .ok (.iload_n 2, 1) := by decide +kernel
theorem dX8_behind_32 : decode cX8_behind 32 = .ok (.invokestatic 230, 3) := by decide +kernel
theorem dX8_behind_35 : decode cX8_behind 35 = .ok (.ifCond .eq 10, 3) := by decide +kernel
theorem dX8_behind_38 : decode cX8_behind 38 = .ok (.iload_n 3, 1) := by decide +kernel
theorem dX8_behind_39 : decode cX8_behind 39 = .ok (.invokestatic 125, 3) := by decide +kernel
theorem dX8_behind_42 : decode cX8_behind 42 = .ok (.ifCond .ne 10, 3) := by decide +kernel
theorem dX8_behind_45 : decode cX8_behind 45 = .ok (.aload_n 0, 1) := by decide +kernel
theorem dX8_behind_46 : decode cX8_behind 46 = .ok (.bipush (-6), 2) := by decide +kernel
theorem dX8_behind_48 : decode cX8_behind 48 = .ok (.invokevirtual 72, 3) := by decide +kernel
theorem dX8_behind_51 : decode cX8_behind 51 = .ok (.ireturn, 1) := by decide +kernel
theorem dX8_behind_52 : decode cX8_behind 52 = .ok (.aload_n 0, 1) := by decide +kernel
theorem dX8_behind_53 : decode cX8_behind 53 = .ok (.aload_n 0, 1) := by decide +kernel
theorem dX8_behind_54 : decode cX8_behind 54 = .ok (.getfield 53, 3) := by decide +kernel
theorem dX8_behind_57 : decode cX8_behind 57 = .ok (.invokevirtual 194, 3) := by decide +kernel
theorem dX8_behind_60 : decode cX8_behind 60 = .ok (.aload_n 0, 1) := by decide +kernel
theorem dX8_behind_61 : decode cX8_behind 61 = .ok (.iload_n 2, 1) := by decide +kernel
theorem dX8_behind_62 : decode cX8_behind 62 = .ok (.invokevirtual 233, 3) := by decide +kernel
theorem dX8_behind_65 : decode cX8_behind 65 = .ok (.iload 4, 2) := by decide +kernel
theorem dX8_behind_67 : decode cX8_behind 67 = .ok (.ifCond .ne 17, 3) := by decide +kernel
theorem dX8_behind_70 : decode cX8_behind 70 = .ok (.aload_n 0, 1) := by decide +kernel
theorem dX8_behind_71 : decode cX8_behind 71 = .ok (.getfield 35, 3) := by decide +kernel
theorem dX8_behind_74 : decode cX8_behind 74 = .ok (.bipush 12, 2) := by decide +kernel
theorem dX8_behind_76 : decode cX8_behind 76 = .ok (.iload_n 1, 1) := by decide +kernel
theorem dX8_behind_77 : decode cX8_behind 77 = .ok (.imul, 1) := by decide +kernel
theorem dX8_behind_78 : decode cX8_behind 78 = .ok (.iload_n 3, 1) := by decide +kernel
theorem dX8_behind_79 : decode cX8_behind 79 = .ok (.iadd, 1) := by decide +kernel
theorem dX8_behind_80 : decode cX8_behind 80 = .ok (.iaload, 1) := by decide +kernel
theorem dX8_behind_81 : decode cX8_behind 81 = .ok (.goto 14, 3) := by decide +kernel
theorem dX8_behind_84 : decode cX8_behind 84 = .ok (.aload_n 0, 1) := by decide +kernel
theorem dX8_behind_85 : decode cX8_behind 85 = .ok (.getfield 38, 3) := by decide +kernel
theorem dX8_behind_88 : decode cX8_behind 88 = .ok (.bipush 12, 2) := by decide +kernel
theorem dX8_behind_90 : decode cX8_behind 90 = .ok (.iload_n 1, 1) := by decide +kernel
theorem dX8_behind_91 : decode cX8_behind 91 = .ok (.imul, 1) := by decide +kernel
theorem dX8_behind_92 : decode cX8_behind 92 = .ok (.iload_n 3, 1) := by decide +kernel
theorem dX8_behind_93 : decode cX8_behind 93 = .ok (.iadd, 1) := by decide +kernel
theorem dX8_behind_94 : decode cX8_behind 94 = .ok (.iaload, 1) := by decide +kernel
theorem dX8_behind_95 : decode cX8_behind 95 = .ok (.istore 5, 2) := by decide +kernel
theorem dX8_behind_97 : decode cX8_behind 97 = .ok (.aload_n 0, 1) := by decide +kernel
theorem dX8_behind_98 : decode cX8_behind 98 = .ok (.aload_n 0, 1) := by decide +kernel
theorem dX8_behind_99 : decode cX8_behind 99 = .ok (.getfield 53, 3) := by decide +kernel
theorem dX8_behind_102 : decode cX8_behind 102 = .ok (.invokevirtual 202, 3) := by decide +kernel
theorem dX8_behind_105 : decode cX8_behind 105 = .ok (.iload 5, 2) := by decide +kernel
theorem dX8_behind_107 : decode cX8_behind 107 = .ok (.ireturn, 1) := by decide +kernel
theorem dX8_settled_0 : decode cX8_settled 0 = .ok (.aload_n 0, 1) := by decide +kernel
theorem dX8_settled_1 : decode cX8_settled 1 = .ok (.aload_n 0, 1) := by decide +kernel
theorem dX8_settled_2 : decode cX8_settled 2 = .ok (.getfield 53, 3) := by decide +kernel
theorem dX8_settled_5 : decode cX8_settled 5 = .ok (.invokevirtual 194, 3) := by decide +kernel
theorem dX8_settled_8 : decode cX8_settled 8 = .ok (.iconst (-1), 1) := by decide +kernel
theorem dX8_settled_9 : decode cX8_settled 9 = .ok (.istore_n 1, 1) := by decide +kernel
theorem dX8_settled_10 : decode cX8_settled 10 = .ok (.iconst 0, 1) := by decide +kernel
theorem dX8_settled_11 : decode cX8_settled 11 = .ok (.istore_n 2, 1) := by decide +kernel
theorem dX8_settled_12 : decode cX8_settled 12 = .ok (.iload_n 2, 1) := by decide +kernel
theorem dX8_settled_13 : decode cX8_settled 13 = .ok (.bipush 61, 2) := by decide +kernel
theorem dX8_settled_15 : decode cX8_settled 15 = .ok (.if_icmp .ge 93, 3) := by decide +kernel
theorem dX8_settled_18 : decode cX8_settled 18 = .ok (.iload_n 1, 1) := by decide +kernel
theorem dX8_settled_19 : decode cX8_settled 19 = .ok (.iconst (-1), 1) := by decide +kernel
theorem dX8_settled_20 : decode cX8_settled 20 = .ok (.if_icmp .ne 88, 3) := by decide +kernel
theorem dX8_settled_23 : decode cX8_settled 23 = .ok (.aload_n 0, 1) := by decide +kernel
theorem dX8_settled_24 : decode cX8_settled 24 = .ok (.aload_n 0, 1) := by decide +kernel
theorem dX8_settled_25 : decode cX8_settled 25 = .ok (.getfield 50, 3) := by decide +kernel
theorem dX8_settled_28 : decode cX8_settled 28 = .ok (.invokevirtual 194, 3) := by decide +kernel
theorem dX8_settled_31 : decode cX8_settled 31 = .ok (.aload_n 0, 1) := by decide +kernel
theorem dX8_settled_32 : decode cX8_settled 32 = .ok (.invokevirtual 192, 3) := by decide +kernel
theorem dX8_settled_35 : decode cX8_settled 35 = .ok (.pop, 1) := by decide +kernel
theorem dX8_settled_36 : decode cX8_settled 36 = .ok (.iconst 1, 1) := by decide +kernel
theorem dX8_settled_37 : decode cX8_settled 37 = .ok (.istore_n 3, 1) := by decide +kernel
theorem dX8_settled_38 : decode cX8_settled 38 = .ok (.iconst 0, 1) := by decide +kernel
theorem dX8_settled_39 : decode cX8_settled 39 = .ok (.istore 4, 2) := by decide +kernel
theorem dX8_settled_41 : decode cX8_settled 41 = .ok (.iload 4, 2) := by decide +kernel
theorem dX8_settled_43 : decode cX8_settled 43 = .ok (.bipush 96, 2) := by decide +kernel
theorem dX8_settled_45 : decode cX8_settled 45 = .ok (.if_icmp .ge 51, 3) := by decide +kernel
theorem dX8_settled_48 : decode cX8_settled 48 = .ok (.aload_n 0, 1) := by decide +kernel
theorem dX8_settled_49 : decode cX8_settled 49 = .ok (.getfield 35, 3) := by decide +kernel
theorem dX8_settled_52 : decode cX8_settled 52 = .ok (.iload 4, 2) := by decide +kernel
theorem dX8_settled_54 : decode cX8_settled 54 = .ok (.iaload, 1) := by decide +kernel
theorem dX8_settled_55 : decode cX8_settled 55 = .ok (.aload_n 0, 1) := by decide +kernel
theorem dX8_settled_56 : decode cX8_settled 56 = .ok (.getfield 50, 3) := by decide +kernel
theorem dX8_settled_59 : decode cX8_settled 59 = .ok (.bipush 24, 2) := by decide +kernel
theorem dX8_settled_61 : decode cX8_settled 61 = .ok (.iload 4, 2) := by decide +kernel
theorem dX8_settled_63 : decode cX8_settled 63 = .ok (.iadd, 1) := by decide +kernel
theorem dX8_settled_64 : decode cX8_settled 64 = .ok (.iaload, 1) := by decide +kernel
theorem dX8_settled_65 : decode cX8_settled 65 = .ok (.if_icmp .ne 23, 3) := by decide +kernel
theorem dX8_settled_68 : decode cX8_settled 68 = .ok (.aload_n 0, 1) := by decide +kernel
theorem dX8_settled_69 : decode cX8_settled 69 = .ok (.getfield 38, 3) := by decide +kernel
theorem dX8_settled_72 : decode cX8_settled 72 = .ok (.iload 4, 2) := by decide +kernel
theorem dX8_settled_74 : decode cX8_settled 74 = .ok (.iaload, 1) := by decide +kernel
theorem dX8_settled_75 : decode cX8_settled 75 = .ok (.aload_n 0, 1) := by decide +kernel
theorem dX8_settled_76 : decode cX8_settled 76 = .ok (.getfield 50, 3) := by decide +kernel
theorem dX8_settled_79 : decode cX8_settled 79 = .ok (.bipush 120, 2) := by decide +kernel
theorem dX8_settled_81 : decode cX8_settled 81 = .ok (.iload 4, 2) := by decide +kernel
theorem dX8_settled_83 : decode cX8_settled 83 = .ok (.iadd, 1) := by decide +kernel
theorem dX8_settled_84 : decode cX8_settled 84 = .ok (.iaload, 1) := by decide +kernel
theorem dX8_settled_85 : decode cX8_settled 85 = .ok (.if_icmp .eq 5, 3) := by decide +kernel
theorem dX8_settled_88 : decode cX8_settled 88 = .ok (.iconst 0, 1) := by decide +kernel
theorem dX8_settled_89 : decode cX8_settled 89 = .ok (.istore_n 3, 1) := by decide +kernel
theorem dX8_settled_90 : decode cX8_settled 90 = .ok (.iinc 4 1, 3) := by decide +kernel
theorem dX8_settled_93 : decode cX8_settled 93 = .ok (.goto (-52), 3) := by decide +kernel
theorem dX8_settled_96 : decode cX8_settled 96 = .ok (.iload_n 3, 1) := by decide +kernel
theorem dX8_settled_97 : decode cX8_settled 97 = .ok (.ifCond .eq 5, 3) := by decide +kernel
theorem dX8_settled_100 : decode cX8_settled 100 = .ok (.iload_n 2, 1) := by decide +kernel
theorem dX8_settled_101 : decode cX8_settled 101 = .ok (.istore_n 1, 1) := by decide +kernel
theorem dX8_settled_102 : decode cX8_settled 102 = .ok (.iinc 2 1, 3) := by decide +kernel
theorem dX8_settled_105 : decode cX8_settled 105 = .ok (.goto (-93), 3) := by decide +kernel
theorem dX8_settled_108 : decode cX8_settled 108 = .ok (.aload_n 0, 1) := by decide +kernel
theorem dX8_settled_109 : decode cX8_settled 109 = .ok (.aload_n 0, 1) := by decide +kernel
theorem dX8_settled_110 : decode cX8_settled 110 = .ok (.getfield 53, 3) := by decide +kernel
theorem dX8_settled_113 : decode cX8_settled 113 = .ok (.invokevirtual 202, 3) := by decide +kernel
theorem dX8_settled_116 : decode cX8_settled 116 = .ok (.iload_n 1, 1) := by decide +kernel
theorem dX8_settled_117 : decode cX8_settled 117 = .ok (.ireturn, 1) := by decide +kernel
theorem dX8_wins_0 : decode cX8_wins 0 = .ok (.aload_n 0, 1) := by decide +kernel
theorem dX8_wins_1 : decode cX8_wins 1 = .ok (.iload_n 1, 1) := by decide +kernel
theorem dX8_wins_2 : decode cX8_wins 2 = .ok (.invokevirtual 122, 3) := by decide +kernel
theorem dX8_wins_5 : decode cX8_wins 5 = .ok (.ifCond .ne 9, 3) := by decide +kernel
theorem dX8_wins_8 : decode cX8_wins 8 = .ok (.aload_n 0, 1) := by decide +kernel
theorem dX8_wins_9 : decode cX8_wins 9 = .ok (.iconst (-1), 1) := by decide +kernel
theorem dX8_wins_10 : decode cX8_wins 10 = .ok (.invokevirtual 72, 3) := by decide +kernel
theorem dX8_wins_13 : decode cX8_wins 13 = .ok (.ireturn, 1) := by decide +kernel
theorem dX8_wins_14 : decode cX8_wins 14 = .ok (.iconst 0, 1) := by decide +kernel
theorem dX8_wins_15 : decode cX8_wins 15 = .ok (.istore_n 2, 1) := by decide +kernel
theorem dX8_wins_16 : decode cX8_wins 16 = .ok (.iconst 0, 1) := by decide +kernel
theorem dX8_wins_17 : decode cX8_wins 17 = .ok (.istore_n 3, 1) := by decide +kernel
theorem dX8_wins_18 : decode cX8_wins 18 = .ok (.iload_n 3, 1) := by decide +kernel
theorem dX8_wins_19 : decode cX8_wins 19 = .ok (.bipush 12, 2) := by decide +kernel
theorem dX8_wins_21 : decode cX8_wins 21 = .ok (.if_icmp .ge 32, 3) := by decide +kernel
theorem dX8_wins_24 : decode cX8_wins 24 = .ok (.aload_n 0, 1) := by decide +kernel
theorem dX8_wins_25 : decode cX8_wins 25 = .ok (.iload_n 1, 1) := by decide +kernel
theorem dX8_wins_26 : decode cX8_wins 26 = .ok (.iload_n 3, 1) := by decide +kernel
theorem dX8_wins_27 : decode cX8_wins 27 = .ok (.invokevirtual 217, 3) := by decide +kernel
theorem dX8_wins_30 : decode cX8_wins 30 = .ok (.aload_n 0, 1) := by decide +kernel
theorem dX8_wins_31 : decode cX8_wins 31 = .ok (.getfield 23, 3) := by decide +kernel
theorem dX8_wins_34 : decode cX8_wins 34 = .ok (.bipush 12, 2) := by decide +kernel
theorem dX8_wins_36 : decode cX8_wins 36 = .ok (.iload_n 1, 1) := by decide +kernel
theorem dX8_wins_37 : decode cX8_wins 37 = .ok (.imul, 1) := by decide +kernel
theorem dX8_wins_38 : decode cX8_wins 38 = .ok (.iload_n 3, 1) := by decide +kernel
theorem dX8_wins_39 : decode cX8_wins 39 = .ok (.iadd, 1) := by decide +kernel
theorem dX8_wins_40 : decode cX8_wins 40 = .ok (.iaload, 1) := by decide +kernel
theorem dX8_wins_41 : decode cX8_wins 41 = .ok (.if_icmp .eq 6, 3) := by decide +kernel
theorem dX8_wins_44 : decode cX8_wins 44 = .ok (.iinc 2 1, 3) := by decide +kernel
theorem dX8_wins_47 : decode cX8_wins 47 = .ok (.iinc 3 1, 3) := by decide +kernel
theorem dX8_wins_50 : decode cX8_wins 50 = .ok (.goto (-32), 3) := by decide +kernel
theorem dX8_wins_53 : decode cX8_wins 53 = .ok (.iload_n 2, 1) := by decide +kernel
theorem dX8_wins_54 : decode cX8_wins 54 = .ok (.ireturn, 1) := by decide +kernel
theorem dX8_likeOf_0 : decode cX8_likeOf 0 = .ok (.iconst 0, 1) := by decide +kernel
theorem dX8_likeOf_1 : decode cX8_likeOf 1 = .ok (.istore_n 3, 1) := by decide +kernel
theorem dX8_likeOf_2 : decode cX8_likeOf 2 = .ok (.iconst 0, 1) := by decide +kernel
theorem dX8_likeOf_3 : decode cX8_likeOf 3 = .ok (.istore 4, 2) := by decide +kernel
theorem dX8_likeOf_5 : decode cX8_likeOf 5 = .ok (.iload 4, 2) := by decide +kernel
theorem dX8_likeOf_7 : decode cX8_likeOf 7 = .ok (.bipush 12, 2) := by decide +kernel
theorem dX8_likeOf_9 : decode cX8_likeOf 9 = .ok (.if_icmp .ge 54, 3) := by decide +kernel
theorem dX8_likeOf_12 : decode cX8_likeOf 12 = .ok (.aload_n 0, 1) := by decide +kernel
theorem dX8_likeOf_13 : decode cX8_likeOf 13 = .ok (.getfield 35, 3) := by decide +kernel
theorem dX8_likeOf_16 : decode cX8_likeOf 16 = .ok (.bipush 12, 2) := by decide +kernel
theorem dX8_likeOf_18 : decode cX8_likeOf 18 = .ok (.iload_n 1, 1) := by decide +kernel
theorem dX8_likeOf_19 : decode cX8_likeOf 19 = .ok (.imul, 1) := by decide +kernel
theorem dX8_likeOf_20 : decode cX8_likeOf 20 = .ok (.iload 4, 2) := by decide +kernel
theorem dX8_likeOf_22 : decode cX8_likeOf 22 = .ok (.iadd, 1) := by decide +kernel
theorem dX8_likeOf_23 : decode cX8_likeOf 23 = .ok (.iaload, 1) := by decide +kernel
theorem dX8_likeOf_24 : decode cX8_likeOf 24 = .ok (.ifCond .eq 33, 3) := by decide +kernel
theorem dX8_likeOf_27 : decode cX8_likeOf 27 = .ok (.aload_n 0, 1) := by decide +kernel
theorem dX8_likeOf_28 : decode cX8_likeOf 28 = .ok (.getfield 35, 3) := by decide +kernel
theorem dX8_likeOf_31 : decode cX8_likeOf 31 = .ok (.bipush 12, 2) := by decide +kernel
theorem dX8_likeOf_33 : decode cX8_likeOf 33 = .ok (.iload_n 1, 1) := by decide +kernel
theorem dX8_likeOf_34 : decode cX8_likeOf 34 = .ok (.imul, 1) := by decide +kernel
theorem dX8_likeOf_35 : decode cX8_likeOf 35 = .ok (.iload 4, 2) := by decide +kernel
theorem dX8_likeOf_37 : decode cX8_likeOf 37 = .ok (.iadd, 1) := by decide +kernel
theorem dX8_likeOf_38 : decode cX8_likeOf 38 = .ok (.iaload, 1) := by decide +kernel
theorem dX8_likeOf_39 : decode cX8_likeOf 39 = .ok (.aload_n 0, 1) := by decide +kernel
theorem dX8_likeOf_40 : decode cX8_likeOf 40 = .ok (.getfield 23, 3) := by decide +kernel
theorem dX8_likeOf_43 : decode cX8_likeOf 43 = .ok (.bipush 12, 2) := by decide +kernel
theorem dX8_likeOf_45 : decode cX8_likeOf 45 = .ok (.iload_n 2, 1) := by decide +kernel
theorem dX8_likeOf_46 : decode cX8_likeOf 46 = .ok (.imul, 1) := by decide +kernel
theorem dX8_likeOf_47 : decode cX8_likeOf 47 = .ok (.iload 4, 2) := by decide +kernel
theorem dX8_likeOf_49 : decode cX8_likeOf 49 = .ok (.iadd, 1) := by decide +kernel
theorem dX8_likeOf_50 : decode cX8_likeOf 50 = .ok (.iaload, 1) := by decide +kernel
theorem dX8_likeOf_51 : decode cX8_likeOf 51 = .ok (.if_icmp .ne 6, 3) := by decide +kernel
theorem dX8_likeOf_54 : decode cX8_likeOf 54 = .ok (.iinc 3 1, 3) := by decide +kernel
theorem dX8_likeOf_57 : decode cX8_likeOf 57 = .ok (.iinc 4 1, 3) := by decide +kernel
theorem dX8_likeOf_60 : decode cX8_likeOf 60 = .ok (.goto (-55), 3) := by decide +kernel
theorem dX8_likeOf_63 : decode cX8_likeOf 63 = .ok (.iload_n 3, 1) := by decide +kernel
theorem dX8_likeOf_64 : decode cX8_likeOf 64 = .ok (.ireturn, 1) := by decide +kernel
theorem dX8_like_0 : decode cX8_like 0 = .ok (.aload_n 0, 1) := by decide +kernel
theorem dX8_like_1 : decode cX8_like 1 = .ok (.iload_n 1, 1) := by decide +kernel
theorem dX8_like_2 : decode cX8_like 2 = .ok (.invokevirtual 93, 3) := by decide +kernel
theorem dX8_like_5 : decode cX8_like 5 = .ok (.ifCond .eq 20, 3) := by decide +kernel
theorem dX8_like_8 : decode cX8_like 8 = .ok (.aload_n 0, 1) := by decide +kernel
theorem dX8_like_9 : decode cX8_like 9 = .ok (.iload_n 2, 1) := by decide +kernel
theorem dX8_like_10 : decode cX8_like 10 = .ok (.invokevirtual 122, 3) := by decide +kernel
theorem dX8_like_13 : decode cX8_like 13 = .ok (.ifCond .eq 12, 3) := by decide +kernel
theorem dX8_like_16 : decode cX8_like 16 = .ok (.aload_n 0, 1) := by decide +kernel
theorem dX8_like_17 : decode cX8_like 17 = .ok (.iload_n 1, 1) := by decide +kernel
theorem dX8_like_18 : decode cX8_like 18 = .ok (.iload_n 2, 1) := by decide +kernel
theorem dX8_like_19 : decode cX8_like 19 = .ok (.invokevirtual 239, 3) := by decide +kernel
theorem dX8_like_22 : decode cX8_like 22 = .ok (.goto 8, 3) := by decide +kernel
theorem dX8_like_25 : decode cX8_like 25 = .ok (.aload_n 0, 1) := by decide +kernel
theorem dX8_like_26 : decode cX8_like 26 = .ok (.iconst (-1), 1) := by decide +kernel
theorem dX8_like_27 : decode cX8_like 27 = .ok (.invokevirtual 72, 3) := by decide +kernel
theorem dX8_like_30 : decode cX8_like 30 = .ok (.ireturn, 1) := by decide +kernel
theorem dX8_whoseOf_0 : decode cX8_whoseOf 0 = .ok (.iconst (-1), 1) := by decide +kernel
theorem dX8_whoseOf_1 : decode cX8_whoseOf 1 = .ok (.istore_n 2, 1) := by decide +kernel
theorem dX8_whoseOf_2 : decode cX8_whoseOf 2 = .ok (.iconst 0, 1) := by decide +kernel
theorem dX8_whoseOf_3 : decode cX8_whoseOf 3 = .ok (.istore_n 3, 1) := by decide +kernel
theorem dX8_whoseOf_4 : decode cX8_whoseOf 4 = .ok (.iload_n 3, 1) := by decide +kernel
theorem dX8_whoseOf_5 : decode cX8_whoseOf 5 = .ok (.aload_n 0, 1) := by decide +kernel
theorem dX8_whoseOf_6 : decode cX8_whoseOf 6 = .ok (.getfield 83, 3) := by decide +kernel
theorem dX8_whoseOf_9 : decode cX8_whoseOf 9 = .ok (.if_icmp .ge 35, 3) := by decide +kernel
theorem dX8_whoseOf_12 : decode cX8_whoseOf 12 = .ok (.aload_n 0, 1) := by decide +kernel
theorem dX8_whoseOf_13 : decode cX8_whoseOf 13 = .ok (.iload_n 1, 1) := by decide +kernel
theorem dX8_whoseOf_14 : decode cX8_whoseOf 14 = .ok (.iload_n 3, 1) := by decide +kernel
theorem dX8_whoseOf_15 : decode cX8_whoseOf 15 = .ok (.invokevirtual 239, 3) := by decide +kernel
theorem dX8_whoseOf_18 : decode cX8_whoseOf 18 = .ok (.iload_n 2, 1) := by decide +kernel
theorem dX8_whoseOf_19 : decode cX8_whoseOf 19 = .ok (.iconst (-1), 1) := by decide +kernel
theorem dX8_whoseOf_20 : decode cX8_whoseOf 20 = .ok (.if_icmp .ne 7, 3) := by decide +kernel
theorem dX8_whoseOf_23 : decode cX8_whoseOf 23 = .ok (.iconst 0, 1) := by decide +kernel
theorem dX8_whoseOf_24 : decode cX8_whoseOf 24 = .ok (.goto 9, 3) := by decide +kernel
theorem dX8_whoseOf_27 : decode cX8_whoseOf 27 = .ok (.aload_n 0, 1) := by decide +kernel
theorem dX8_whoseOf_28 : decode cX8_whoseOf 28 = .ok (.iload_n 1, 1) := by decide +kernel
theorem dX8_whoseOf_29 : decode cX8_whoseOf 29 = .ok (.iload_n 2, 1) := by decide +kernel
theorem dX8_whoseOf_30 : decode cX8_whoseOf 30 = .ok (.invokevirtual 239, 3) := by decide +kernel
theorem dX8_whoseOf_33 : decode cX8_whoseOf 33 = .ok (.if_icmp .le 5, 3) := by decide +kernel
theorem dX8_whoseOf_36 : decode cX8_whoseOf 36 = .ok (.iload_n 3, 1) := by decide +kernel
theorem dX8_whoseOf_37 : decode cX8_whoseOf 37 = .ok (.istore_n 2, 1) := by decide +kernel
theorem dX8_whoseOf_38 : decode cX8_whoseOf 38 = .ok (.iinc 3 1, 3) := by decide +kernel
theorem dX8_whoseOf_41 : decode cX8_whoseOf 41 = .ok (.goto (-37), 3) := by decide +kernel
theorem dX8_whoseOf_44 : decode cX8_whoseOf 44 = .ok (.iload_n 2, 1) := by decide +kernel
theorem dX8_whoseOf_45 : decode cX8_whoseOf 45 = .ok (.ireturn, 1) := by decide +kernel
theorem dX8_whose_0 : decode cX8_whose 0 = .ok (.aload_n 0, 1) := by decide +kernel
theorem dX8_whose_1 : decode cX8_whose 1 = .ok (.iload_n 1, 1) := by decide +kernel
theorem dX8_whose_2 : decode cX8_whose 2 = .ok (.invokevirtual 93, 3) := by decide +kernel
theorem dX8_whose_5 : decode cX8_whose 5 = .ok (.ifCond .eq 11, 3) := by decide +kernel
theorem dX8_whose_8 : decode cX8_whose 8 = .ok (.aload_n 0, 1) := by decide +kernel
theorem dX8_whose_9 : decode cX8_whose 9 = .ok (.iload_n 1, 1) := by decide +kernel
theorem dX8_whose_10 : decode cX8_whose 10 = .ok (.invokevirtual 242, 3) := by decide +kernel
theorem dX8_whose_13 : decode cX8_whose 13 = .ok (.goto 8, 3) := by decide +kernel
theorem dX8_whose_16 : decode cX8_whose 16 = .ok (.aload_n 0, 1) := by decide +kernel
theorem dX8_whose_17 : decode cX8_whose 17 = .ok (.iconst (-1), 1) := by decide +kernel
theorem dX8_whose_18 : decode cX8_whose 18 = .ok (.invokevirtual 132, 3) := by decide +kernel
theorem dX8_whose_21 : decode cX8_whose 21 = .ok (.ireturn, 1) := by decide +kernel
theorem dX8_told_0 : decode cX8_told 0 = .ok (.aload_n 0, 1) := by decide +kernel
theorem dX8_told_1 : decode cX8_told 1 = .ok (.getfield 16, 3) := by decide +kernel
theorem dX8_told_4 : decode cX8_told 4 = .ok (.sipush 160, 3) := by decide +kernel
theorem dX8_told_7 : decode cX8_told 7 = .ok (.iload_n 1, 1) := by decide +kernel
theorem dX8_told_8 : decode cX8_told 8 = .ok (.imul, 1) := by decide +kernel
theorem dX8_told_9 : decode cX8_told 9 = .ok (.iload_n 2, 1) := by decide +kernel
theorem dX8_told_10 : decode cX8_told 10 = .ok (.iadd, 1) := by decide +kernel
theorem dX8_told_11 : decode cX8_told 11 = .ok (.laload, 1) := by decide +kernel
theorem dX8_told_12 : decode cX8_told 12 = .ok (.l2i, 1) := by decide +kernel
theorem dX8_told_13 : decode cX8_told 13 = .ok (.ireturn, 1) := by decide +kernel
theorem dX8_noDay_0 : decode cX8_noDay 0 = .ok (.aload_n 0, 1) := by decide +kernel
theorem dX8_noDay_1 : decode cX8_noDay 1 = .ok (.iload_n 1, 1) := by decide +kernel
theorem dX8_noDay_2 : decode cX8_noDay 2 = .ok (.invokevirtual 90, 3) := by decide +kernel
theorem dX8_noDay_5 : decode cX8_noDay 5 = .ok (.istore_n 2, 1) := by decide +kernel
theorem dX8_noDay_6 : decode cX8_noDay 6 = .ok (.iload_n 2, 1) := by decide +kernel
theorem dX8_noDay_7 : decode cX8_noDay 7 = .ok (.ifCond .ge 7, 3) := by decide +kernel
theorem dX8_noDay_10 : decode cX8_noDay 10 = .ok (.iload_n 2, 1) := by decide +kernel
theorem dX8_noDay_11 : decode cX8_noDay 11 = .ok (.goto 20, 3) := by decide +kernel
theorem dX8_noDay_14 : decode cX8_noDay 14 = .ok (.aload_n 0, 1) := by decide +kernel
theorem dX8_noDay_15 : decode cX8_noDay 15 = .ok (.getfield 13, 3) := by decide +kernel
theorem dX8_noDay_18 : decode cX8_noDay 18 = .ok (.iload_n 1, 1) := by decide +kernel
theorem dX8_noDay_19 : decode cX8_noDay 19 = .ok (.iaload, 1) := by decide +kernel
theorem dX8_noDay_20 : decode cX8_noDay 20 = .ok (.bipush 12, 2) := by decide +kernel
theorem dX8_noDay_22 : decode cX8_noDay 22 = .ok (.if_icmp .ge 8, 3) := by decide +kernel
theorem dX8_noDay_25 : decode cX8_noDay 25 = .ok (.bipush (-5), 2) := by decide +kernel
theorem dX8_noDay_27 : decode cX8_noDay 27 = .ok (.goto 4, 3) := by decide +kernel
theorem dX8_noDay_30 : decode cX8_noDay 30 = .ok (.iconst 0, 1) := by decide +kernel
theorem dX8_noDay_31 : decode cX8_noDay 31 = .ok (.ireturn, 1) := by decide +kernel
theorem dX8_fits_0 : decode cX8_fits 0 = .ok (.aload_n 0, 1) := by decide +kernel
theorem dX8_fits_1 : decode cX8_fits 1 = .ok (.iload_n 1, 1) := by decide +kernel
theorem dX8_fits_2 : decode cX8_fits 2 = .ok (.invokevirtual 245, 3) := by decide +kernel
theorem dX8_fits_5 : decode cX8_fits 5 = .ok (.istore_n 2, 1) := by decide +kernel
theorem dX8_fits_6 : decode cX8_fits 6 = .ok (.iload_n 2, 1) := by decide +kernel
theorem dX8_fits_7 : decode cX8_fits 7 = .ok (.ifCond .ge 9, 3) := by decide +kernel
theorem dX8_fits_10 : decode cX8_fits 10 = .ok (.aload_n 0, 1) := by decide +kernel
theorem dX8_fits_11 : decode cX8_fits 11 = .ok (.iload_n 2, 1) := by decide +kernel
theorem dX8_fits_12 : decode cX8_fits 12 = .ok (.invokevirtual 72, 3) := by decide +kernel
theorem dX8_fits_15 : decode cX8_fits 15 = .ok (.ireturn, 1) := by decide +kernel
theorem dX8_fits_16 : decode cX8_fits 16 = .ok (.iconst 0, 1) := by decide +kernel
theorem dX8_fits_17 : decode cX8_fits 17 = .ok (.istore_n 3, 1) := by decide +kernel
theorem dX8_fits_18 : decode cX8_fits 18 = .ok (.iconst 0, 1) := by decide +kernel
theorem dX8_fits_19 : decode cX8_fits 19 = .ok (.istore 4, 2) := by decide +kernel
theorem dX8_fits_21 : decode cX8_fits 21 = .ok (.iload 4, 2) := by decide +kernel
theorem dX8_fits_23 : decode cX8_fits 23 = .ok (.aload_n 0, 1) := by decide +kernel
theorem dX8_fits_24 : decode cX8_fits 24 = .ok (.getfield 83, 3) := by decide +kernel
theorem dX8_fits_27 : decode cX8_fits 27 = .ok (.if_icmp .ge 72, 3) := by decide +kernel
theorem dX8_fits_30 : decode cX8_fits 30 = .ok (.iconst 1, 1) := by decide +kernel
theorem dX8_fits_31 : decode cX8_fits 31 = .ok (.istore 5, 2) := by decide +kernel
theorem dX8_fits_33 : decode cX8_fits 33 = .ok (.iconst 0, 1) := by decide +kernel
theorem dX8_fits_34 : decode cX8_fits 34 = .ok (.istore 6, 2) := by decide +kernel
theorem dX8_fits_36 : decode cX8_fits 36 = .ok (.iload 6, 2) := by decide +kernel
theorem dX8_fits_38 : decode cX8_fits 38 = .ok (.bipush 12, 2) := by decide +kernel
theorem dX8_fits_40 : decode cX8_fits 40 = .ok (.if_icmp .ge 41, 3) := by decide +kernel
theorem dX8_fits_43 : decode cX8_fits 43 = .ok (.aload_n 0, 1) := by decide +kernel
theorem dX8_fits_44 : decode cX8_fits 44 = .ok (.iload_n 1, 1) := by decide +kernel
theorem dX8_fits_45 : decode cX8_fits 45 = .ok (.iload 6, 2) := by decide +kernel
theorem dX8_fits_47 : decode cX8_fits 47 = .ok (.invokevirtual 248, 3) := by decide +kernel
theorem dX8_fits_50 : decode cX8_fits 50 = .ok (.iconst (-1), 1) := by decide +kernel
theorem dX8_fits_51 : decode cX8_fits 51 = .ok (.if_icmp .eq 24, 3) := by decide +kernel
theorem dX8_fits_54 : decode cX8_fits 54 = .ok (.aload_n 0, 1) := by decide +kernel
theorem dX8_fits_55 : decode cX8_fits 55 = .ok (.iload_n 1, 1) := by decide +kernel
theorem dX8_fits_56 : decode cX8_fits 56 = .ok (.iload 6, 2) := by decide +kernel
theorem dX8_fits_58 : decode cX8_fits 58 = .ok (.invokevirtual 248, 3) := by decide +kernel
theorem dX8_fits_61 : decode cX8_fits 61 = .ok (.aload_n 0, 1) := by decide +kernel
theorem dX8_fits_62 : decode cX8_fits 62 = .ok (.iload 4, 2) := by decide +kernel
theorem dX8_fits_64 : decode cX8_fits 64 = .ok (.iload 6, 2) := by decide +kernel
theorem dX8_fits_66 : decode cX8_fits 66 = .ok (.invokevirtual 217, 3) := by decide +kernel
theorem dX8_fits_69 : decode cX8_fits 69 = .ok (.if_icmp .eq 6, 3) := by decide +kernel
theorem dX8_fits_72 : decode cX8_fits 72 = .ok (.iconst 0, 1) := by decide +kernel
theorem dX8_fits_73 : decode cX8_fits 73 = .ok (.istore 5, 2) := by decide +kernel
theorem dX8_fits_75 : decode cX8_fits 75 = .ok (.iinc 6 1, 3) := by decide +kernel
theorem dX8_fits_78 : decode cX8_fits 78 = .ok (.goto (-42), 3) := by decide +kernel
theorem dX8_fits_81 : decode cX8_fits 81 = .ok (.iload 5, 2) := by decide +kernel
theorem dX8_fits_83 : decode cX8_fits 83 = .ok (.ifCond .eq 10, 3) := by decide +kernel
theorem dX8_fits_86 : decode cX8_fits 86 = .ok (.iload_n 3, 1) := by decide +kernel
theorem dX8_fits_87 : decode cX8_fits 87 = .ok (.iconst 1, 1) := by decide +kernel
theorem dX8_fits_88 : decode cX8_fits 88 = .ok (.iload 4, 2) := by decide +kernel
theorem dX8_fits_90 : decode cX8_fits 90 = .ok (.ishl, 1) := by decide +kernel
theorem dX8_fits_91 : decode cX8_fits 91 = .ok (.ior, 1) := by decide +kernel
theorem dX8_fits_92 : decode cX8_fits 92 = .ok (.istore_n 3, 1) := by decide +kernel
theorem dX8_fits_93 : decode cX8_fits 93 = .ok (.iinc 4 1, 3) := by decide +kernel
theorem dX8_fits_96 : decode cX8_fits 96 = .ok (.goto (-75), 3) := by decide +kernel
theorem dX8_fits_99 : decode cX8_fits 99 = .ok (.iload_n 3, 1) := by decide +kernel
theorem dX8_fits_100 : decode cX8_fits 100 = .ok (.ireturn, 1) := by decide +kernel
theorem dX8_watch_0 : decode cX8_watch 0 = .ok (.aload_n 0, 1) := by decide +kernel
theorem dX8_watch_1 : decode cX8_watch 1 = .ok (.getfield 83, 3) := by decide +kernel
theorem dX8_watch_4 : decode cX8_watch 4 = .ok (.ifCond .ne 10, 3) := by decide +kernel
theorem dX8_watch_7 : decode cX8_watch 7 = .ok (.aload_n 0, 1) := by decide +kernel
theorem dX8_watch_8 : decode cX8_watch 8 = .ok (.bipush (-5), 2) := by decide +kernel
theorem dX8_watch_10 : decode cX8_watch 10 = .ok (.invokevirtual 72, 3) := by decide +kernel
theorem dX8_watch_13 : decode cX8_watch 13 = .ok (.ireturn, 1) := by decide +kernel
theorem dX8_watch_14 : decode cX8_watch 14 = .ok (.iconst 0, 1) := by decide +kernel
theorem dX8_watch_15 : decode cX8_watch 15 = .ok (.istore_n 1, 1) := by decide +kernel
theorem dX8_watch_16 : decode cX8_watch 16 = .ok (.iconst 0, 1) := by decide +kernel
theorem dX8_watch_17 : decode cX8_watch 17 = .ok (.istore_n 2, 1) := by decide +kernel
theorem dX8_watch_18 : decode cX8_watch 18 = .ok (.iconst 0, 1) := by decide +kernel
theorem dX8_watch_19 : decode cX8_watch 19 = .ok (.istore_n 3, 1) := by decide +kernel
theorem dX8_watch_20 : decode cX8_watch 20 = .ok (.iload_n 3, 1) := by decide +kernel
theorem dX8_watch_21 : decode cX8_watch 21 = .ok (.bipush 12, 2) := by decide +kernel
theorem dX8_watch_23 : decode cX8_watch 23 = .ok (.if_icmp .ge 67, 3) := by decide +kernel
theorem dX8_watch_26 : decode cX8_watch 26 = .ok (.iconst 0, 1) := by decide +kernel
theorem dX8_watch_27 : decode cX8_watch 27 = .ok (.istore 4, 2) := by decide +kernel
theorem dX8_watch_29 : decode cX8_watch 29 = .ok (.iconst 0, 1) := by decide +kernel
theorem dX8_watch_30 : decode cX8_watch 30 = .ok (.istore 5, 2) := by decide +kernel
theorem dX8_watch_32 : decode cX8_watch 32 = .ok (.iload 5, 2) := by decide +kernel
theorem dX8_watch_34 : decode cX8_watch 34 = .ok (.aload_n 0, 1) := by decide +kernel
theorem dX8_watch_35 : decode cX8_watch 35 = .ok (.getfield 83, 3) := by decide +kernel
theorem dX8_watch_38 : decode cX8_watch 38 = .ok (.if_icmp .ge 23, 3) := by decide +kernel
theorem dX8_watch_41 : decode cX8_watch 41 = .ok (.iload 4, 2) := by decide +kernel
theorem dX8_watch_43 : decode cX8_watch 43 = .ok (.iconst 1, 1) := by decide +kernel
theorem dX8_watch_44 : decode cX8_watch 44 = .ok (.aload_n 0, 1) := by decide +kernel
theorem dX8_watch_45 : decode cX8_watch 45 = .ok (.iload 5, 2) := by decide +kernel
theorem dX8_watch_47 : decode cX8_watch 47 = .ok (.iload_n 3, 1) := by decide +kernel
theorem dX8_watch_48 : decode cX8_watch 48 = .ok (.invokevirtual 217, 3) := by decide +kernel
theorem dX8_watch_51 : decode cX8_watch 51 = .ok (.ishl, 1) := by decide +kernel
theorem dX8_watch_52 : decode cX8_watch 52 = .ok (.ior, 1) := by decide +kernel
theorem dX8_watch_53 : decode cX8_watch 53 = .ok (.istore 4, 2) := by decide +kernel
theorem dX8_watch_55 : decode cX8_watch 55 = .ok (.iinc 5 1, 3) := by decide +kernel
theorem dX8_watch_58 : decode cX8_watch 58 = .ok (.goto (-26), 3) := by decide +kernel
theorem dX8_watch_61 : decode cX8_watch 61 = .ok (.iload 4, 2) := by decide +kernel
theorem dX8_watch_63 : decode cX8_watch 63 = .ok (.iconst 1, 1) := by decide +kernel
theorem dX8_watch_64 : decode cX8_watch 64 = .ok (.ishr, 1) := by decide +kernel
theorem dX8_watch_65 : decode cX8_watch 65 = .ok (.invokestatic 251, 3) := by decide +kernel
theorem dX8_watch_68 : decode cX8_watch 68 = .ok (.istore 5, 2) := by decide +kernel
theorem dX8_watch_70 : decode cX8_watch 70 = .ok (.iload 5, 2) := by decide +kernel
theorem dX8_watch_72 : decode cX8_watch 72 = .ok (.iload_n 2, 1) := by decide +kernel
theorem dX8_watch_73 : decode cX8_watch 73 = .ok (.if_icmp .gt 6, 3) := by decide +kernel
theorem dX8_watch_76 : decode cX8_watch 76 = .ok (.goto 8, 3) := by decide +kernel
theorem dX8_watch_79 : decode cX8_watch 79 = .ok (.iload 5, 2) := by decide +kernel
theorem dX8_watch_81 : decode cX8_watch 81 = .ok (.istore_n 2, 1) := by decide +kernel
theorem dX8_watch_82 : decode cX8_watch 82 = .ok (.iload_n 3, 1) := by decide +kernel
theorem dX8_watch_83 : decode cX8_watch 83 = .ok (.istore_n 1, 1) := by decide +kernel
theorem dX8_watch_84 : decode cX8_watch 84 = .ok (.iinc 3 1, 3) := by decide +kernel
theorem dX8_watch_87 : decode cX8_watch 87 = .ok (.goto (-67), 3) := by decide +kernel
theorem dX8_watch_90 : decode cX8_watch 90 = .ok (.iload_n 1, 1) := by decide +kernel
theorem dX8_watch_91 : decode cX8_watch 91 = .ok (.ireturn, 1) := by decide +kernel
theorem dX8_doneOf_0 : decode cX8_doneOf 0 = .ok (.iconst 0, 1) := by decide +kernel
theorem dX8_doneOf_1 : decode cX8_doneOf 1 = .ok (.istore_n 2, 1) := by decide +kernel
theorem dX8_doneOf_2 : decode cX8_doneOf 2 = .ok (.iconst 0, 1) := by decide +kernel
theorem dX8_doneOf_3 : decode cX8_doneOf 3 = .ok (.istore_n 3, 1) := by decide +kernel
theorem dX8_doneOf_4 : decode cX8_doneOf 4 = .ok (.iload_n 3, 1) := by decide +kernel
theorem dX8_doneOf_5 : decode cX8_doneOf 5 = .ok (.aload_n 0, 1) := by decide +kernel
theorem dX8_doneOf_6 : decode cX8_doneOf 6 = .ok (.getfield 83, 3) := by decide +kernel
theorem dX8_doneOf_9 : decode cX8_doneOf 9 = .ok (.if_icmp .ge 66, 3) := by decide +kernel
theorem dX8_doneOf_12 : decode cX8_doneOf 12 = .ok (.iconst 0, 1) := by decide +kernel
theorem dX8_doneOf_13 : decode cX8_doneOf 13 = .ok (.istore 4, 2) := by decide +kernel
theorem dX8_doneOf_15 : decode cX8_doneOf 15 = .ok (.iload 4, 2) := by decide +kernel
theorem dX8_doneOf_17 : decode cX8_doneOf 17 = .ok (.bipush 12, 2) := by decide +kernel
theorem dX8_doneOf_19 : decode cX8_doneOf 19 = .ok (.if_icmp .ge 50, 3) := by decide +kernel
theorem dX8_doneOf_22 : decode cX8_doneOf 22 = .ok (.aload_n 0, 1) := by decide +kernel
theorem dX8_doneOf_23 : decode cX8_doneOf 23 = .ok (.iload_n 1, 1) := by decide +kernel
theorem dX8_doneOf_24 : decode cX8_doneOf 24 = .ok (.bipush 12, 2) := by decide +kernel
theorem dX8_doneOf_26 : decode cX8_doneOf 26 = .ok (.iload_n 3, 1) := by decide +kernel
theorem dX8_doneOf_27 : decode cX8_doneOf 27 = .ok (.imul, 1) := by decide +kernel
theorem dX8_doneOf_28 : decode cX8_doneOf 28 = .ok (.iload 4, 2) := by decide +kernel
theorem dX8_doneOf_30 : decode cX8_doneOf 30 = .ok (.iadd, 1) := by decide +kernel
theorem dX8_doneOf_31 : decode cX8_doneOf 31 = .ok (.invokevirtual 248, 3) := by decide +kernel
theorem dX8_doneOf_34 : decode cX8_doneOf 34 = .ok (.iconst (-1), 1) := by decide +kernel
theorem dX8_doneOf_35 : decode cX8_doneOf 35 = .ok (.if_icmp .eq 28, 3) := by decide +kernel
theorem dX8_doneOf_38 : decode cX8_doneOf 38 = .ok (.aload_n 0, 1) := by decide +kernel
theorem dX8_doneOf_39 : decode cX8_doneOf 39 = .ok (.iload_n 1, 1) := by decide +kernel
theorem dX8_doneOf_40 : decode cX8_doneOf 40 = .ok (.bipush 12, 2) := by decide +kernel
theorem dX8_doneOf_42 : decode cX8_doneOf 42 = .ok (.iload_n 3, 1) := by decide +kernel
theorem dX8_doneOf_43 : decode cX8_doneOf 43 = .ok (.imul, 1) := by decide +kernel
theorem dX8_doneOf_44 : decode cX8_doneOf 44 = .ok (.iload 4, 2) := by decide +kernel
theorem dX8_doneOf_46 : decode cX8_doneOf 46 = .ok (.iadd, 1) := by decide +kernel
theorem dX8_doneOf_47 : decode cX8_doneOf 47 = .ok (.invokevirtual 248, 3) := by decide +kernel
theorem dX8_doneOf_50 : decode cX8_doneOf 50 = .ok (.aload_n 0, 1) := by decide +kernel
theorem dX8_doneOf_51 : decode cX8_doneOf 51 = .ok (.iload_n 3, 1) := by decide +kernel
theorem dX8_doneOf_52 : decode cX8_doneOf 52 = .ok (.iload 4, 2) := by decide +kernel
theorem dX8_doneOf_54 : decode cX8_doneOf 54 = .ok (.invokevirtual 217, 3) := by decide +kernel
theorem dX8_doneOf_57 : decode cX8_doneOf 57 = .ok (.if_icmp .ne 6, 3) := by decide +kernel
theorem dX8_doneOf_60 : decode cX8_doneOf 60 = .ok (.iinc 2 1, 3) := by decide +kernel
theorem dX8_doneOf_63 : decode cX8_doneOf 63 = .ok (.iinc 4 1, 3) := by decide +kernel
theorem dX8_doneOf_66 : decode cX8_doneOf 66 = .ok (.goto (-51), 3) := by decide +kernel
theorem dX8_doneOf_69 : decode cX8_doneOf 69 = .ok (.iinc 3 1, 3) := by decide +kernel
theorem dX8_doneOf_72 : decode cX8_doneOf 72 = .ok (.goto (-68), 3) := by decide +kernel
theorem dX8_doneOf_75 : decode cX8_doneOf 75 = .ok (.iload_n 2, 1) := by decide +kernel
theorem dX8_doneOf_76 : decode cX8_doneOf 76 = .ok (.ireturn, 1) := by decide +kernel
theorem dX8_dressed_0 : decode cX8_dressed 0 = .ok (.aload_n 0, 1) := by decide +kernel
theorem dX8_dressed_1 : decode cX8_dressed 1 = .ok (.iload_n 1, 1) := by decide +kernel
theorem dX8_dressed_2 : decode cX8_dressed 2 = .ok (.invokevirtual 90, 3) := by decide +kernel
theorem dX8_dressed_5 : decode cX8_dressed 5 = .ok (.istore 4, 2) := by decide +kernel
theorem dX8_dressed_7 : decode cX8_dressed 7 = .ok (.iload 4, 2) := by decide +kernel
theorem dX8_dressed_9 : decode cX8_dressed 9 = .ok (.ifCond .ge 10, 3) := by decide +kernel
theorem dX8_dressed_12 : decode cX8_dressed 12 = .ok (.aload_n 0, 1) := by decide +kernel
theorem dX8_dressed_13 : decode cX8_dressed 13 = .ok (.iload 4, 2) := by decide +kernel
theorem dX8_dressed_15 : decode cX8_dressed 15 = .ok (.invokevirtual 72, 3) := by decide +kernel
theorem dX8_dressed_18 : decode cX8_dressed 18 = .ok (.ireturn, 1) := by decide +kernel
theorem dX8_dressed_19 : decode cX8_dressed 19 = .ok (.aload_n 0, 1) := by decide +kernel
theorem dX8_dressed_20 : decode cX8_dressed 20 = .ok (.getfield 13, 3) := by decide +kernel
theorem dX8_dressed_23 : decode cX8_dressed 23 = .ok (.iload_n 1, 1) := by decide +kernel
theorem dX8_dressed_24 : decode cX8_dressed 24 = .ok (.iaload, 1) := by decide +kernel
theorem dX8_dressed_25 : decode cX8_dressed 25 = .ok (.bipush 12, 2) := by decide +kernel
theorem dX8_dressed_27 : decode cX8_dressed 27 = .ok (.aload_n 0, 1) := by decide +kernel
theorem dX8_dressed_28 : decode cX8_dressed 28 = .ok (.getfield 83, 3) := by decide +kernel
theorem dX8_dressed_31 : decode cX8_dressed 31 = .ok (.imul, 1) := by decide +kernel
theorem dX8_dressed_32 : decode cX8_dressed 32 = .ok (.if_icmp .ge 10, 3) := by decide +kernel
theorem dX8_dressed_35 : decode cX8_dressed 35 = .ok (.aload_n 0, 1) := by decide +kernel
theorem dX8_dressed_36 : decode cX8_dressed 36 = .ok (.bipush (-5), 2) := by decide +kernel
theorem dX8_dressed_38 : decode cX8_dressed 38 = .ok (.invokevirtual 72, 3) := by decide +kernel
theorem dX8_dressed_41 : decode cX8_dressed 41 = .ok (.ireturn, 1) := by decide +kernel
theorem dX8_dressed_42 : decode cX8_dressed 42 = .ok (.iload_n 2, 1) := by decide +kernel
theorem dX8_dressed_43 : decode cX8_dressed 43 = .ok (.iconst 1, 1) := by decide +kernel
theorem dX8_dressed_44 : decode cX8_dressed 44 = .ok (.iconst 4, 1) := by decide +kernel
theorem dX8_dressed_45 : decode cX8_dressed 45 = .ok (.invokestatic 79, 3) := by decide +kernel
theorem dX8_dressed_48 : decode cX8_dressed 48 = .ok (.ifCond .eq 11, 3) := by decide +kernel
theorem dX8_dressed_51 : decode cX8_dressed 51 = .ok (.aload_n 0, 1) := by decide +kernel
theorem dX8_dressed_52 : decode cX8_dressed 52 = .ok (.getfield 76, 3) := by decide +kernel
theorem dX8_dressed_55 : decode cX8_dressed 55 = .ok (.iload_n 2, 1) := by decide +kernel
theorem dX8_dressed_56 : decode cX8_dressed 56 = .ok (.if_icmp .ge 10, 3) := by decide +kernel
theorem dX8_dressed_59 : decode cX8_dressed 59 = .ok (.aload_n 0, 1) := by decide +kernel
theorem dX8_dressed_60 : decode cX8_dressed 60 = .ok (.bipush (-6), 2) := by decide +kernel
theorem dX8_dressed_62 : decode cX8_dressed 62 = .ok (.invokevirtual 72, 3) := by decide +kernel
theorem dX8_dressed_65 : decode cX8_dressed 65 = .ok (.ireturn, 1) := by decide +kernel
theorem dX8_dressed_66 : decode cX8_dressed 66 = .ok (.iload_n 3, 1) := by decide +kernel
theorem dX8_dressed_67 : decode cX8_dressed 67 = .ok (.iconst (-1), 1) := by decide +kernel
theorem dX8_dressed_68 : decode cX8_dressed 68 = .ok (.iload_n 2, 1) := by decide +kernel
theorem dX8_dressed_69 : decode cX8_dressed 69 = .ok (.iconst 1, 1) := by decide +kernel
theorem dX8_dressed_70 : decode cX8_dressed 70 = .ok (.isub, 1) := by decide +kernel
theorem dX8_dressed_71 : decode cX8_dressed 71 = .ok (.invokestatic 79, 3) := by decide +kernel
theorem dX8_dressed_74 : decode cX8_dressed 74 = .ok (.ifCond .ne 10, 3) := by decide +kernel
theorem dX8_dressed_77 : decode cX8_dressed 77 = .ok (.aload_n 0, 1) := by decide +kernel
theorem dX8_dressed_78 : decode cX8_dressed 78 = .ok (.bipush (-5), 2) := by decide +kernel
theorem dX8_dressed_80 : decode cX8_dressed 80 = .ok (.invokevirtual 72, 3) := by decide +kernel
theorem dX8_dressed_83 : decode cX8_dressed 83 = .ok (.ireturn, 1) := by decide +kernel
theorem dX8_dressed_84 : decode cX8_dressed 84 = .ok (.iconst 1, 1) := by decide +kernel
theorem dX8_dressed_85 : decode cX8_dressed 85 = .ok (.istore 5, 2) := by decide +kernel
theorem dX8_dressed_87 : decode cX8_dressed 87 = .ok (.iconst 0, 1) := by decide +kernel
theorem dX8_dressed_88 : decode cX8_dressed 88 = .ok (.istore 6, 2) := by decide +kernel
theorem dX8_dressed_90 : decode cX8_dressed 90 = .ok (.iload 6, 2) := by decide +kernel
theorem dX8_dressed_92 : decode cX8_dressed 92 = .ok (.iload_n 2, 1) := by decide +kernel
theorem dX8_dressed_93 : decode cX8_dressed 93 = .ok (.if_icmp .ge 20, 3) := by decide +kernel
theorem dX8_dressed_96 : decode cX8_dressed 96 = .ok (.iload 5, 2) := by decide +kernel
theorem dX8_dressed_98 : decode cX8_dressed 98 = .ok (.aload_n 0, 1) := by decide +kernel
theorem dX8_dressed_99 : decode cX8_dressed 99 = .ok (.getfield 83, 3) := by decide +kernel
theorem dX8_dressed_102 : decode cX8_dressed 102 = .ok (.iconst 1, 1) := by decide +kernel
theorem dX8_dressed_103 : decode cX8_dressed 103 = .ok (.iadd, 1) := by decide +kernel
theorem dX8_dressed_104 : decode cX8_dressed 104 = .ok (.imul, 1) := by decide +kernel
theorem dX8_dressed_105 : decode cX8_dressed 105 = .ok (.istore 5, 2) := by decide +kernel
theorem dX8_dressed_107 : decode cX8_dressed 107 = .ok (.iinc 6 1, 3) := by decide +kernel
theorem dX8_dressed_110 : decode cX8_dressed 110 = .ok (.goto (-20), 3) := by decide +kernel
theorem dX8_dressed_113 : decode cX8_dressed 113 = .ok (.aload_n 0, 1) := by decide +kernel
theorem dX8_dressed_114 : decode cX8_dressed 114 = .ok (.aload_n 0, 1) := by decide +kernel
theorem dX8_dressed_115 : decode cX8_dressed 115 = .ok (.getfield 53, 3) := by decide +kernel
theorem dX8_dressed_118 : decode cX8_dressed 118 = .ok (.invokevirtual 194, 3) := by decide +kernel
theorem dX8_dressed_121 : decode cX8_dressed 121 = .ok (.iconst (-1), 1) := by decide +kernel
theorem dX8_dressed_122 : decode cX8_dressed 122 = .ok (.istore 6, 2) := by decide +kernel
theorem dX8_dressed_124 : decode cX8_dressed 124 = .ok (.iconst 0, 1) := by decide +kernel
theorem dX8_dressed_125 : decode cX8_dressed 125 = .ok (.istore 7, 2) := by decide +kernel
theorem dX8_dressed_127 : decode cX8_dressed 127 = .ok (.iload 7, 2) := by decide +kernel
theorem dX8_dressed_129 : decode cX8_dressed 129 = .ok (.iload 5, 2) := by decide +kernel
theorem dX8_dressed_131 : decode cX8_dressed 131 = .ok (.if_icmp .ge 110, 3) := by decide +kernel
theorem dX8_dressed_134 : decode cX8_dressed 134 = .ok (.iload 7, 2) := by decide +kernel
theorem dX8_dressed_136 : decode cX8_dressed 136 = .ok (.istore 8, 2) := by decide +kernel
theorem dX8_dressed_138 : decode cX8_dressed 138 = .ok (.iload_n 2, 1) := by decide +kernel
theorem dX8_dressed_139 : decode cX8_dressed 139 = .ok (.iconst 1, 1) := by decide +kernel
theorem dX8_dressed_140 : decode cX8_dressed 140 = .ok (.isub, 1) := by decide +kernel
theorem dX8_dressed_141 : decode cX8_dressed 141 = .ok (.istore 9, 2) := by decide +kernel
theorem dX8_dressed_143 : decode cX8_dressed 143 = .ok (.iload 9, 2) := by decide +kernel
theorem dX8_dressed_145 : decode cX8_dressed 145 = .ok (.ifCond .lt 38, 3) := by decide +kernel
theorem dX8_dressed_148 : decode cX8_dressed 148 = .ok (.aload_n 0, 1) := by decide +kernel
theorem dX8_dressed_149 : decode cX8_dressed 149 = .ok (.getfield 32, 3) := by decide +kernel
theorem dX8_dressed_152 : decode cX8_dressed 152 = .ok (.iload 9, 2) := by decide +kernel
theorem dX8_dressed_154 : decode cX8_dressed 154 = .ok (.iload 8, 2) := by decide +kernel
theorem dX8_dressed_156 : decode cX8_dressed 156 = .ok (.aload_n 0, 1) := by decide +kernel
theorem dX8_dressed_157 : decode cX8_dressed 157 = .ok (.getfield 83, 3) := by decide +kernel
theorem dX8_dressed_160 : decode cX8_dressed 160 = .ok (.iconst 1, 1) := by decide +kernel
theorem dX8_dressed_161 : decode cX8_dressed 161 = .ok (.iadd, 1) := by decide +kernel
theorem dX8_dressed_162 : decode cX8_dressed 162 = .ok (.irem, 1) := by decide +kernel
theorem dX8_dressed_163 : decode cX8_dressed 163 = .ok (.iconst 1, 1) := by decide +kernel
theorem dX8_dressed_164 : decode cX8_dressed 164 = .ok (.isub, 1) := by decide +kernel
theorem dX8_dressed_165 : decode cX8_dressed 165 = .ok (.iastore, 1) := by decide +kernel
theorem dX8_dressed_166 : decode cX8_dressed 166 = .ok (.iload 8, 2) := by decide +kernel
theorem dX8_dressed_168 : decode cX8_dressed 168 = .ok (.aload_n 0, 1) := by decide +kernel
theorem dX8_dressed_169 : decode cX8_dressed 169 = .ok (.getfield 83, 3) := by decide +kernel
theorem dX8_dressed_172 : decode cX8_dressed 172 = .ok (.iconst 1, 1) := by decide +kernel
theorem dX8_dressed_173 : decode cX8_dressed 173 = .ok (.iadd, 1) := by decide +kernel
theorem dX8_dressed_174 : decode cX8_dressed 174 = .ok (.idiv, 1) := by decide +kernel
theorem dX8_dressed_175 : decode cX8_dressed 175 = .ok (.istore 8, 2) := by decide +kernel
theorem dX8_dressed_177 : decode cX8_dressed 177 = .ok (.iinc 9 (-1), 3) := by decide +kernel
theorem dX8_dressed_180 : decode cX8_dressed 180 = .ok (.goto (-37), 3) := by decide +kernel
theorem dX8_dressed_183 : decode cX8_dressed 183 = .ok (.aload_n 0, 1) := by decide +kernel
theorem dX8_dressed_184 : decode cX8_dressed 184 = .ok (.iload_n 1, 1) := by decide +kernel
theorem dX8_dressed_185 : decode cX8_dressed 185 = .ok (.invokevirtual 256, 3) := by decide +kernel
theorem dX8_dressed_188 : decode cX8_dressed 188 = .ok (.istore 9, 2) := by decide +kernel
theorem dX8_dressed_190 : decode cX8_dressed 190 = .ok (.iload 9, 2) := by decide +kernel
theorem dX8_dressed_192 : decode cX8_dressed 192 = .ok (.iload 6, 2) := by decide +kernel
theorem dX8_dressed_194 : decode cX8_dressed 194 = .ok (.if_icmp .gt 6, 3) := by decide +kernel
theorem dX8_dressed_197 : decode cX8_dressed 197 = .ok (.goto 38, 3) := by decide +kernel
theorem dX8_dressed_200 : decode cX8_dressed 200 = .ok (.iload 9, 2) := by decide +kernel
theorem dX8_dressed_202 : decode cX8_dressed 202 = .ok (.istore 6, 2) := by decide +kernel
theorem dX8_dressed_204 : decode cX8_dressed 204 = .ok (.iconst 0, 1) := by decide +kernel
theorem dX8_dressed_205 : decode cX8_dressed 205 = .ok (.istore 10, 2) := by decide +kernel
theorem dX8_dressed_207 : decode cX8_dressed 207 = .ok (.iload 10, 2) := by decide +kernel
theorem dX8_dressed_209 : decode cX8_dressed 209 = .ok (.iload_n 2, 1) := by decide +kernel
theorem dX8_dressed_210 : decode cX8_dressed 210 = .ok (.if_icmp .ge 25, 3) := by decide +kernel
theorem dX8_dressed_213 : decode cX8_dressed 213 = .ok (.aload_n 0, 1) := by decide +kernel
theorem dX8_dressed_214 : decode cX8_dressed 214 = .ok (.getfield 59, 3) := by decide +kernel
theorem dX8_dressed_217 : decode cX8_dressed 217 = .ok (.iload 10, 2) := by decide +kernel
theorem dX8_dressed_219 : decode cX8_dressed 219 = .ok (.aload_n 0, 1) := by decide +kernel
theorem dX8_dressed_220 : decode cX8_dressed 220 = .ok (.getfield 32, 3) := by decide +kernel
theorem dX8_dressed_223 : decode cX8_dressed 223 = .ok (.iload 10, 2) := by decide +kernel
theorem dX8_dressed_225 : decode cX8_dressed 225 = .ok (.iaload, 1) := by decide +kernel
theorem dX8_dressed_226 : decode cX8_dressed 226 = .ok (.iconst 1, 1) := by decide +kernel
theorem dX8_dressed_227 : decode cX8_dressed 227 = .ok (.iadd, 1) := by decide +kernel
theorem dX8_dressed_228 : decode cX8_dressed 228 = .ok (.iastore, 1) := by decide +kernel
theorem dX8_dressed_229 : decode cX8_dressed 229 = .ok (.iinc 10 1, 3) := by decide +kernel
theorem dX8_dressed_232 : decode cX8_dressed 232 = .ok (.goto (-25), 3) := by decide +kernel
theorem dX8_dressed_235 : decode cX8_dressed 235 = .ok (.iinc 7 1, 3) := by decide +kernel
theorem dX8_dressed_238 : decode cX8_dressed 238 = .ok (.goto (-111), 3) := by decide +kernel
theorem dX8_dressed_241 : decode cX8_dressed 241 = .ok (.aload_n 0, 1) := by decide +kernel
theorem dX8_dressed_242 : decode cX8_dressed 242 = .ok (.aload_n 0, 1) := by decide +kernel
theorem dX8_dressed_243 : decode cX8_dressed 243 = .ok (.getfield 53, 3) := by decide +kernel
theorem dX8_dressed_246 : decode cX8_dressed 246 = .ok (.invokevirtual 202, 3) := by decide +kernel
theorem dX8_dressed_249 : decode cX8_dressed 249 = .ok (.iload_n 3, 1) := by decide +kernel
theorem dX8_dressed_250 : decode cX8_dressed 250 = .ok (.iconst (-1), 1) := by decide +kernel
theorem dX8_dressed_251 : decode cX8_dressed 251 = .ok (.if_icmp .ne 8, 3) := by decide +kernel
theorem dX8_dressed_254 : decode cX8_dressed 254 = .ok (.iload 6, 2) := by decide +kernel
theorem dX8_dressed_256 : decode cX8_dressed 256 = .ok (.goto 9, 3) := by decide +kernel
theorem dX8_dressed_259 : decode cX8_dressed 259 = .ok (.aload_n 0, 1) := by decide +kernel
theorem dX8_dressed_260 : decode cX8_dressed 260 = .ok (.getfield 59, 3) := by decide +kernel
theorem dX8_dressed_263 : decode cX8_dressed 263 = .ok (.iload_n 3, 1) := by decide +kernel
theorem dX8_dressed_264 : decode cX8_dressed 264 = .ok (.iaload, 1) := by decide +kernel
theorem dX8_dressed_265 : decode cX8_dressed 265 = .ok (.ireturn, 1) := by decide +kernel
theorem dX8_washed_0 : decode cX8_washed 0 = .ok (.aload_n 0, 1) := by decide +kernel
theorem dX8_washed_1 : decode cX8_washed 1 = .ok (.iload_n 1, 1) := by decide +kernel
theorem dX8_washed_2 : decode cX8_washed 2 = .ok (.invokevirtual 93, 3) := by decide +kernel
theorem dX8_washed_5 : decode cX8_washed 5 = .ok (.ifCond .ne 9, 3) := by decide +kernel
theorem dX8_washed_8 : decode cX8_washed 8 = .ok (.aload_n 0, 1) := by decide +kernel
theorem dX8_washed_9 : decode cX8_washed 9 = .ok (.iconst (-1), 1) := by decide +kernel
theorem dX8_washed_10 : decode cX8_washed 10 = .ok (.invokevirtual 132, 3) := by decide +kernel
theorem dX8_washed_13 : decode cX8_washed 13 = .ok (.ireturn, 1) := by decide +kernel
theorem dX8_washed_14 : decode cX8_washed 14 = .ok (.iload_n 2, 1) := by decide +kernel
theorem dX8_washed_15 : decode cX8_washed 15 = .ok (.invokestatic 125, 3) := by decide +kernel
theorem dX8_washed_18 : decode cX8_washed 18 = .ok (.ifCond .ne 10, 3) := by decide +kernel
theorem dX8_washed_21 : decode cX8_washed 21 = .ok (.aload_n 0, 1) := by decide +kernel
theorem dX8_washed_22 : decode cX8_washed 22 = .ok (.bipush (-6), 2) := by decide +kernel
theorem dX8_washed_24 : decode cX8_washed 24 = .ok (.invokevirtual 132, 3) := by decide +kernel
theorem dX8_washed_27 : decode cX8_washed 27 = .ok (.ireturn, 1) := by decide +kernel
theorem dX8_washed_28 : decode cX8_washed 28 = .ok (.aload_n 0, 1) := by decide +kernel
theorem dX8_washed_29 : decode cX8_washed 29 = .ok (.getfield 38, 3) := by decide +kernel
theorem dX8_washed_32 : decode cX8_washed 32 = .ok (.bipush 12, 2) := by decide +kernel
theorem dX8_washed_34 : decode cX8_washed 34 = .ok (.iload_n 1, 1) := by decide +kernel
theorem dX8_washed_35 : decode cX8_washed 35 = .ok (.imul, 1) := by decide +kernel
theorem dX8_washed_36 : decode cX8_washed 36 = .ok (.iload_n 2, 1) := by decide +kernel
theorem dX8_washed_37 : decode cX8_washed 37 = .ok (.iadd, 1) := by decide +kernel
theorem dX8_washed_38 : decode cX8_washed 38 = .ok (.iaload, 1) := by decide +kernel
theorem dX8_washed_39 : decode cX8_washed 39 = .ok (.istore_n 3, 1) := by decide +kernel
theorem dX8_washed_40 : decode cX8_washed 40 = .ok (.iconst 0, 1) := by decide +kernel
theorem dX8_washed_41 : decode cX8_washed 41 = .ok (.istore 4, 2) := by decide +kernel
theorem dX8_washed_43 : decode cX8_washed 43 = .ok (.iload 4, 2) := by decide +kernel
theorem dX8_washed_45 : decode cX8_washed 45 = .ok (.bipush 10, 2) := by decide +kernel
theorem dX8_washed_47 : decode cX8_washed 47 = .ok (.if_icmp .ge 28, 3) := by decide +kernel
theorem dX8_washed_50 : decode cX8_washed 50 = .ok (.iload_n 3, 1) := by decide +kernel
theorem dX8_washed_51 : decode cX8_washed 51 = .ok (.ifCond .gt 6, 3) := by decide +kernel
theorem dX8_washed_54 : decode cX8_washed 54 = .ok (.iload 4, 2) := by decide +kernel
theorem dX8_washed_56 : decode cX8_washed 56 = .ok (.ireturn, 1) := by decide +kernel
theorem dX8_washed_57 : decode cX8_washed 57 = .ok (.iload_n 3, 1) := by decide +kernel
theorem dX8_washed_58 : decode cX8_washed 58 = .ok (.aload_n 0, 1) := by decide +kernel
theorem dX8_washed_59 : decode cX8_washed 59 = .ok (.getfield 26, 3) := by decide +kernel
theorem dX8_washed_62 : decode cX8_washed 62 = .ok (.iload_n 1, 1) := by decide +kernel
theorem dX8_washed_63 : decode cX8_washed 63 = .ok (.iaload, 1) := by decide +kernel
theorem dX8_washed_64 : decode cX8_washed 64 = .ok (.invokestatic 227, 3) := by decide +kernel
theorem dX8_washed_67 : decode cX8_washed 67 = .ok (.isub, 1) := by decide +kernel
theorem dX8_washed_68 : decode cX8_washed 68 = .ok (.istore_n 3, 1) := by decide +kernel
theorem dX8_washed_69 : decode cX8_washed 69 = .ok (.iinc 4 1, 3) := by decide +kernel
theorem dX8_washed_72 : decode cX8_washed 72 = .ok (.goto (-29), 3) := by decide +kernel
theorem dX8_washed_75 : decode cX8_washed 75 = .ok (.iconst (-1), 1) := by decide +kernel
theorem dX8_washed_76 : decode cX8_washed 76 = .ok (.ireturn, 1) := by decide +kernel
theorem dX8_kept_0 : decode cX8_kept 0 = .ok (.aload_n 0, 1) := by decide +kernel
theorem dX8_kept_1 : decode cX8_kept 1 = .ok (.iload_n 1, 1) := by decide +kernel
theorem dX8_kept_2 : decode cX8_kept 2 = .ok (.invokevirtual 93, 3) := by decide +kernel
theorem dX8_kept_5 : decode cX8_kept 5 = .ok (.ifCond .ne 9, 3) := by decide +kernel
theorem dX8_kept_8 : decode cX8_kept 8 = .ok (.aload_n 0, 1) := by decide +kernel
theorem dX8_kept_9 : decode cX8_kept 9 = .ok (.iconst (-1), 1) := by decide +kernel
theorem dX8_kept_10 : decode cX8_kept 10 = .ok (.invokevirtual 72, 3) := by decide +kernel
theorem dX8_kept_13 : decode cX8_kept 13 = .ok (.ireturn, 1) := by decide +kernel
theorem dX8_kept_14 : decode cX8_kept 14 = .ok (.iload_n 2, 1) := by decide +kernel
theorem dX8_kept_15 : decode cX8_kept 15 = .ok (.invokestatic 113, 3) := by decide +kernel
theorem dX8_kept_18 : decode cX8_kept 18 = .ok (.ifCond .ne 10, 3) := by decide +kernel
theorem dX8_kept_21 : decode cX8_kept 21 = .ok (.aload_n 0, 1) := by decide +kernel
theorem dX8_kept_22 : decode cX8_kept 22 = .ok (.bipush (-6), 2) := by decide +kernel
theorem dX8_kept_24 : decode cX8_kept 24 = .ok (.invokevirtual 72, 3) := by decide +kernel
theorem dX8_kept_27 : decode cX8_kept 27 = .ok (.ireturn, 1) := by decide +kernel
theorem dX8_kept_28 : decode cX8_kept 28 = .ok (.iconst 0, 1) := by decide +kernel
theorem dX8_kept_29 : decode cX8_kept 29 = .ok (.istore_n 3, 1) := by decide +kernel
theorem dX8_kept_30 : decode cX8_kept 30 = .ok (.iconst 0, 1) := by decide +kernel
theorem dX8_kept_31 : decode cX8_kept 31 = .ok (.istore 4, 2) := by decide +kernel
theorem dX8_kept_33 : decode cX8_kept 33 = .ok (.iload 4, 2) := by decide +kernel
theorem dX8_kept_35 : decode cX8_kept 35 = .ok (.bipush 12, 2) := by decide +kernel
theorem dX8_kept_37 : decode cX8_kept 37 = .ok (.if_icmp .ge 38, 3) := by decide +kernel
theorem dX8_kept_40 : decode cX8_kept 40 = .ok (.aload_n 0, 1) := by decide +kernel
theorem dX8_kept_41 : decode cX8_kept 41 = .ok (.getfield 38, 3) := by decide +kernel
theorem dX8_kept_44 : decode cX8_kept 44 = .ok (.bipush 12, 2) := by decide +kernel
theorem dX8_kept_46 : decode cX8_kept 46 = .ok (.iload_n 1, 1) := by decide +kernel
theorem dX8_kept_47 : decode cX8_kept 47 = .ok (.imul, 1) := by decide +kernel
theorem dX8_kept_48 : decode cX8_kept 48 = .ok (.iload 4, 2) := by decide +kernel
theorem dX8_kept_50 : decode cX8_kept 50 = .ok (.iadd, 1) := by decide +kernel
theorem dX8_kept_51 : decode cX8_kept 51 = .ok (.iaload, 1) := by decide +kernel
theorem dX8_kept_52 : decode cX8_kept 52 = .ok (.iload_n 2, 1) := by decide +kernel
theorem dX8_kept_53 : decode cX8_kept 53 = .ok (.aload_n 0, 1) := by decide +kernel
theorem dX8_kept_54 : decode cX8_kept 54 = .ok (.getfield 26, 3) := by decide +kernel
theorem dX8_kept_57 : decode cX8_kept 57 = .ok (.iload_n 1, 1) := by decide +kernel
theorem dX8_kept_58 : decode cX8_kept 58 = .ok (.iaload, 1) := by decide +kernel
theorem dX8_kept_59 : decode cX8_kept 59 = .ok (.invokestatic 227, 3) := by decide +kernel
theorem dX8_kept_62 : decode cX8_kept 62 = .ok (.imul, 1) := by decide +kernel
theorem dX8_kept_63 : decode cX8_kept 63 = .ok (.if_icmp .le 6, 3) := by decide +kernel
theorem dX8_kept_66 : decode cX8_kept 66 = .ok (.iinc 3 1, 3) := by decide +kernel
theorem dX8_kept_69 : decode cX8_kept 69 = .ok (.iinc 4 1, 3) := by decide +kernel
theorem dX8_kept_72 : decode cX8_kept 72 = .ok (.goto (-39), 3) := by decide +kernel
theorem dX8_kept_75 : decode cX8_kept 75 = .ok (.iload_n 3, 1) := by decide +kernel
theorem dX8_kept_76 : decode cX8_kept 76 = .ok (.ireturn, 1) := by decide +kernel
theorem dX8_two_0 : decode cX8_two 0 = .ok (.aload_n 0, 1) := by decide +kernel
theorem dX8_two_1 : decode cX8_two 1 = .ok (.iload_n 1, 1) := by decide +kernel
theorem dX8_two_2 : decode cX8_two 2 = .ok (.invokevirtual 93, 3) := by decide +kernel
theorem dX8_two_5 : decode cX8_two 5 = .ok (.ifCond .eq 11, 3) := by decide +kernel
theorem dX8_two_8 : decode cX8_two 8 = .ok (.aload_n 0, 1) := by decide +kernel
theorem dX8_two_9 : decode cX8_two 9 = .ok (.iload_n 2, 1) := by decide +kernel
theorem dX8_two_10 : decode cX8_two 10 = .ok (.invokevirtual 93, 3) := by decide +kernel
theorem dX8_two_13 : decode cX8_two 13 = .ok (.ifCond .ne 9, 3) := by decide +kernel
theorem dX8_two_16 : decode cX8_two 16 = .ok (.aload_n 0, 1) := by decide +kernel
theorem dX8_two_17 : decode cX8_two 17 = .ok (.iconst (-1), 1) := by decide +kernel
theorem dX8_two_18 : decode cX8_two 18 = .ok (.invokevirtual 72, 3) := by decide +kernel
theorem dX8_two_21 : decode cX8_two 21 = .ok (.ireturn, 1) := by decide +kernel
theorem dX8_two_22 : decode cX8_two 22 = .ok (.iload_n 3, 1) := by decide +kernel
theorem dX8_two_23 : decode cX8_two 23 = .ok (.iconst 0, 1) := by decide +kernel
theorem dX8_two_24 : decode cX8_two 24 = .ok (.iconst 1, 1) := by decide +kernel
theorem dX8_two_25 : decode cX8_two 25 = .ok (.invokestatic 79, 3) := by decide +kernel
theorem dX8_two_28 : decode cX8_two 28 = .ok (.ifCond .ne 10, 3) := by decide +kernel
theorem dX8_two_31 : decode cX8_two 31 = .ok (.aload_n 0, 1) := by decide +kernel
theorem dX8_two_32 : decode cX8_two 32 = .ok (.bipush (-5), 2) := by decide +kernel
theorem dX8_two_34 : decode cX8_two 34 = .ok (.invokevirtual 72, 3) := by decide +kernel
theorem dX8_two_37 : decode cX8_two 37 = .ok (.ireturn, 1) := by decide +kernel
theorem dX8_two_38 : decode cX8_two 38 = .ok (.iload_n 1, 1) := by decide +kernel
theorem dX8_two_39 : decode cX8_two 39 = .ok (.iload_n 2, 1) := by decide +kernel
theorem dX8_two_40 : decode cX8_two 40 = .ok (.if_icmp .ne 10, 3) := by decide +kernel
theorem dX8_two_43 : decode cX8_two 43 = .ok (.aload_n 0, 1) := by decide +kernel
theorem dX8_two_44 : decode cX8_two 44 = .ok (.bipush (-6), 2) := by decide +kernel
theorem dX8_two_46 : decode cX8_two 46 = .ok (.invokevirtual 72, 3) := by decide +kernel
theorem dX8_two_49 : decode cX8_two 49 = .ok (.ireturn, 1) := by decide +kernel
theorem dX8_two_50 : decode cX8_two 50 = .ok (.iconst 0, 1) := by decide +kernel
theorem dX8_two_51 : decode cX8_two 51 = .ok (.istore 4, 2) := by decide +kernel
theorem dX8_two_53 : decode cX8_two 53 = .ok (.iconst 0, 1) := by decide +kernel
theorem dX8_two_54 : decode cX8_two 54 = .ok (.istore 5, 2) := by decide +kernel
theorem dX8_two_56 : decode cX8_two 56 = .ok (.iload 5, 2) := by decide +kernel
theorem dX8_two_58 : decode cX8_two 58 = .ok (.bipush 12, 2) := by decide +kernel
theorem dX8_two_60 : decode cX8_two 60 = .ok (.if_icmp .ge 81, 3) := by decide +kernel
theorem dX8_two_63 : decode cX8_two 63 = .ok (.aload_n 0, 1) := by decide +kernel
theorem dX8_two_64 : decode cX8_two 64 = .ok (.getfield 35, 3) := by decide +kernel
theorem dX8_two_67 : decode cX8_two 67 = .ok (.bipush 12, 2) := by decide +kernel
theorem dX8_two_69 : decode cX8_two 69 = .ok (.iload_n 1, 1) := by decide +kernel
theorem dX8_two_70 : decode cX8_two 70 = .ok (.imul, 1) := by decide +kernel
theorem dX8_two_71 : decode cX8_two 71 = .ok (.iload 5, 2) := by decide +kernel
theorem dX8_two_73 : decode cX8_two 73 = .ok (.iadd, 1) := by decide +kernel
theorem dX8_two_74 : decode cX8_two 74 = .ok (.iaload, 1) := by decide +kernel
theorem dX8_two_75 : decode cX8_two 75 = .ok (.istore 6, 2) := by decide +kernel
theorem dX8_two_77 : decode cX8_two 77 = .ok (.aload_n 0, 1) := by decide +kernel
theorem dX8_two_78 : decode cX8_two 78 = .ok (.getfield 35, 3) := by decide +kernel
theorem dX8_two_81 : decode cX8_two 81 = .ok (.bipush 12, 2) := by decide +kernel
theorem dX8_two_83 : decode cX8_two 83 = .ok (.iload_n 2, 1) := by decide +kernel
theorem dX8_two_84 : decode cX8_two 84 = .ok (.imul, 1) := by decide +kernel
theorem dX8_two_85 : decode cX8_two 85 = .ok (.iload 5, 2) := by decide +kernel
theorem dX8_two_87 : decode cX8_two 87 = .ok (.iadd, 1) := by decide +kernel
theorem dX8_two_88 : decode cX8_two 88 = .ok (.iaload, 1) := by decide +kernel
theorem dX8_two_89 : decode cX8_two 89 = .ok (.istore 7, 2) := by decide +kernel
theorem dX8_two_91 : decode cX8_two 91 = .ok (.iload_n 3, 1) := by decide +kernel
theorem dX8_two_92 : decode cX8_two 92 = .ok (.ifCond .ne 23, 3) := by decide +kernel
theorem dX8_two_95 : decode cX8_two 95 = .ok (.iload 6, 2) := by decide +kernel
theorem dX8_two_97 : decode cX8_two 97 = .ok (.ifCond .eq 38, 3) := by decide +kernel
theorem dX8_two_100 : decode cX8_two 100 = .ok (.iload 7, 2) := by decide +kernel
theorem dX8_two_102 : decode cX8_two 102 = .ok (.ifCond .eq 33, 3) := by decide +kernel
theorem dX8_two_105 : decode cX8_two 105 = .ok (.iload 6, 2) := by decide +kernel
theorem dX8_two_107 : decode cX8_two 107 = .ok (.iload 7, 2) := by decide +kernel
theorem dX8_two_109 : decode cX8_two 109 = .ok (.if_icmp .eq 26, 3) := by decide +kernel
theorem dX8_two_112 : decode cX8_two 112 = .ok (.goto 20, 3) := by decide +kernel
theorem dX8_two_115 : decode cX8_two 115 = .ok (.aload_n 0, 1) := by decide +kernel
theorem dX8_two_116 : decode cX8_two 116 = .ok (.iload_n 1, 1) := by decide +kernel
theorem dX8_two_117 : decode cX8_two 117 = .ok (.iload 5, 2) := by decide +kernel
theorem dX8_two_119 : decode cX8_two 119 = .ok (.invokevirtual 135, 3) := by decide +kernel
theorem dX8_two_122 : decode cX8_two 122 = .ok (.aload_n 0, 1) := by decide +kernel
theorem dX8_two_123 : decode cX8_two 123 = .ok (.iload_n 2, 1) := by decide +kernel
theorem dX8_two_124 : decode cX8_two 124 = .ok (.iload 5, 2) := by decide +kernel
theorem dX8_two_126 : decode cX8_two 126 = .ok (.invokevirtual 135, 3) := by decide +kernel
theorem dX8_two_129 : decode cX8_two 129 = .ok (.if_icmp .le 6, 3) := by decide +kernel
theorem dX8_two_132 : decode cX8_two 132 = .ok (.iinc 4 1, 3) := by decide +kernel
theorem dX8_two_135 : decode cX8_two 135 = .ok (.iinc 5 1, 3) := by decide +kernel
theorem dX8_two_138 : decode cX8_two 138 = .ok (.goto (-82), 3) := by decide +kernel
theorem dX8_two_141 : decode cX8_two 141 = .ok (.iload 4, 2) := by decide +kernel
theorem dX8_two_143 : decode cX8_two 143 = .ok (.ireturn, 1) := by decide +kernel
theorem dX8_alone_0 : decode cX8_alone 0 = .ok (.iload_n 1, 1) := by decide +kernel
theorem dX8_alone_1 : decode cX8_alone 1 = .ok (.invokestatic 125, 3) := by decide +kernel
theorem dX8_alone_4 : decode cX8_alone 4 = .ok (.ifCond .ne 10, 3) := by decide +kernel
theorem dX8_alone_7 : decode cX8_alone 7 = .ok (.aload_n 0, 1) := by decide +kernel
theorem dX8_alone_8 : decode cX8_alone 8 = .ok (.bipush (-6), 2) := by decide +kernel
theorem dX8_alone_10 : decode cX8_alone 10 = .ok (.invokevirtual 72, 3) := by decide +kernel
theorem dX8_alone_13 : decode cX8_alone 13 = .ok (.ireturn, 1) := by decide +kernel
theorem dX8_alone_14 : decode cX8_alone 14 = .ok (.iconst 0, 1) := by decide +kernel
theorem dX8_alone_15 : decode cX8_alone 15 = .ok (.istore_n 2, 1) := by decide +kernel
theorem dX8_alone_16 : decode cX8_alone 16 = .ok (.iconst 0, 1) := by decide +kernel
theorem dX8_alone_17 : decode cX8_alone 17 = .ok (.istore_n 3, 1) := by decide +kernel
theorem dX8_alone_18 : decode cX8_alone 18 = .ok (.iload_n 3, 1) := by decide +kernel
theorem dX8_alone_19 : decode cX8_alone 19 = .ok (.aload_n 0, 1) := by decide +kernel
theorem dX8_alone_20 : decode cX8_alone 20 = .ok (.getfield 76, 3) := by decide +kernel
theorem dX8_alone_23 : decode cX8_alone 23 = .ok (.if_icmp .ge 24, 3) := by decide +kernel
theorem dX8_alone_26 : decode cX8_alone 26 = .ok (.aload_n 0, 1) := by decide +kernel
theorem dX8_alone_27 : decode cX8_alone 27 = .ok (.iload_n 3, 1) := by decide +kernel
theorem dX8_alone_28 : decode cX8_alone 28 = .ok (.iload_n 1, 1) := by decide +kernel
theorem dX8_alone_29 : decode cX8_alone 29 = .ok (.invokevirtual 236, 3) := by decide +kernel
theorem dX8_alone_32 : decode cX8_alone 32 = .ok (.ifCond .eq 9, 3) := by decide +kernel
theorem dX8_alone_35 : decode cX8_alone 35 = .ok (.iload_n 2, 1) := by decide +kernel
theorem dX8_alone_36 : decode cX8_alone 36 = .ok (.iconst 1, 1) := by decide +kernel
theorem dX8_alone_37 : decode cX8_alone 37 = .ok (.iload_n 3, 1) := by decide +kernel
theorem dX8_alone_38 : decode cX8_alone 38 = .ok (.ishl, 1) := by decide +kernel
theorem dX8_alone_39 : decode cX8_alone 39 = .ok (.ior, 1) := by decide +kernel
theorem dX8_alone_40 : decode cX8_alone 40 = .ok (.istore_n 2, 1) := by decide +kernel
theorem dX8_alone_41 : decode cX8_alone 41 = .ok (.iinc 3 1, 3) := by decide +kernel
theorem dX8_alone_44 : decode cX8_alone 44 = .ok (.goto (-26), 3) := by decide +kernel
theorem dX8_alone_47 : decode cX8_alone 47 = .ok (.iload_n 2, 1) := by decide +kernel
theorem dX8_alone_48 : decode cX8_alone 48 = .ok (.ireturn, 1) := by decide +kernel
theorem dX8_home_0 : decode cX8_home 0 = .ok (.aload_n 0, 1) := by decide +kernel
theorem dX8_home_1 : decode cX8_home 1 = .ok (.iload_n 1, 1) := by decide +kernel
theorem dX8_home_2 : decode cX8_home 2 = .ok (.invokevirtual 93, 3) := by decide +kernel
theorem dX8_home_5 : decode cX8_home 5 = .ok (.ifCond .ne 9, 3) := by decide +kernel
theorem dX8_home_8 : decode cX8_home 8 = .ok (.aload_n 0, 1) := by decide +kernel
theorem dX8_home_9 : decode cX8_home 9 = .ok (.iconst (-1), 1) := by decide +kernel
theorem dX8_home_10 : decode cX8_home 10 = .ok (.invokevirtual 132, 3) := by decide +kernel
theorem dX8_home_13 : decode cX8_home 13 = .ok (.ireturn, 1) := by decide +kernel
theorem dX8_home_14 : decode cX8_home 14 = .ok (.aload_n 0, 1) := by decide +kernel
theorem dX8_home_15 : decode cX8_home 15 = .ok (.iload_n 1, 1) := by decide +kernel
theorem dX8_home_16 : decode cX8_home 16 = .ok (.invokevirtual 242, 3) := by decide +kernel
theorem dX8_home_19 : decode cX8_home 19 = .ok (.istore_n 2, 1) := by decide +kernel
theorem dX8_home_20 : decode cX8_home 20 = .ok (.iconst 0, 1) := by decide +kernel
theorem dX8_home_21 : decode cX8_home 21 = .ok (.istore_n 3, 1) := by decide +kernel
theorem dX8_home_22 : decode cX8_home 22 = .ok (.iload_n 3, 1) := by decide +kernel
theorem dX8_home_23 : decode cX8_home 23 = .ok (.bipush 12, 2) := by decide +kernel
theorem dX8_home_25 : decode cX8_home 25 = .ok (.if_icmp .ge 34, 3) := by decide +kernel
theorem dX8_home_28 : decode cX8_home 28 = .ok (.aload_n 0, 1) := by decide +kernel
theorem dX8_home_29 : decode cX8_home 29 = .ok (.iload_n 1, 1) := by decide +kernel
theorem dX8_home_30 : decode cX8_home 30 = .ok (.iload_n 3, 1) := by decide +kernel
theorem dX8_home_31 : decode cX8_home 31 = .ok (.invokevirtual 236, 3) := by decide +kernel
theorem dX8_home_34 : decode cX8_home 34 = .ok (.ifCond .eq 19, 3) := by decide +kernel
theorem dX8_home_37 : decode cX8_home 37 = .ok (.iload_n 2, 1) := by decide +kernel
theorem dX8_home_38 : decode cX8_home 38 = .ok (.iconst (-1), 1) := by decide +kernel
theorem dX8_home_39 : decode cX8_home 39 = .ok (.if_icmp .ne 7, 3) := by decide +kernel
theorem dX8_home_42 : decode cX8_home 42 = .ok (.iconst (-1), 1) := by decide +kernel
theorem dX8_home_43 : decode cX8_home 43 = .ok (.goto 9, 3) := by decide +kernel
theorem dX8_home_46 : decode cX8_home 46 = .ok (.bipush 100, 2) := by decide +kernel
theorem dX8_home_48 : decode cX8_home 48 = .ok (.iload_n 2, 1) := by decide +kernel
theorem dX8_home_49 : decode cX8_home 49 = .ok (.imul, 1) := by decide +kernel
theorem dX8_home_50 : decode cX8_home 50 = .ok (.iload_n 3, 1) := by decide +kernel
theorem dX8_home_51 : decode cX8_home 51 = .ok (.iadd, 1) := by decide +kernel
theorem dX8_home_52 : decode cX8_home 52 = .ok (.ireturn, 1) := by decide +kernel
theorem dX8_home_53 : decode cX8_home 53 = .ok (.iinc 3 1, 3) := by decide +kernel
theorem dX8_home_56 : decode cX8_home 56 = .ok (.goto (-34), 3) := by decide +kernel
theorem dX8_home_59 : decode cX8_home 59 = .ok (.iconst (-1), 1) := by decide +kernel
theorem dX8_home_60 : decode cX8_home 60 = .ok (.ireturn, 1) := by decide +kernel
theorem dX8_isHimself_0 : decode cX8_isHimself 0 = .ok (.iconst 0, 1) := by decide +kernel
theorem dX8_isHimself_1 : decode cX8_isHimself 1 = .ok (.istore_n 3, 1) := by decide +kernel
theorem dX8_isHimself_2 : decode cX8_isHimself 2 = .ok (.iload_n 3, 1) := by decide +kernel
theorem dX8_isHimself_3 : decode cX8_isHimself 3 = .ok (.bipush 12, 2) := by decide +kernel
theorem dX8_isHimself_5 : decode cX8_isHimself 5 = .ok (.if_icmp .ge 32, 3) := by decide +kernel
theorem dX8_isHimself_8 : decode cX8_isHimself 8 = .ok (.aload_n 0, 1) := by decide +kernel
theorem dX8_isHimself_9 : decode cX8_isHimself 9 = .ok (.iload_n 1, 1) := by decide +kernel
theorem dX8_isHimself_10 : decode cX8_isHimself 10 = .ok (.iload_n 3, 1) := by decide +kernel
theorem dX8_isHimself_11 : decode cX8_isHimself 11 = .ok (.iload_n 2, 1) := by decide +kernel
theorem dX8_isHimself_12 : decode cX8_isHimself 12 = .ok (.invokevirtual 208, 3) := by decide +kernel
theorem dX8_isHimself_15 : decode cX8_isHimself 15 = .ok (.aload_n 0, 1) := by decide +kernel
theorem dX8_isHimself_16 : decode cX8_isHimself 16 = .ok (.getfield 23, 3) := by decide +kernel
theorem dX8_isHimself_19 : decode cX8_isHimself 19 = .ok (.bipush 12, 2) := by decide +kernel
theorem dX8_isHimself_21 : decode cX8_isHimself 21 = .ok (.iload_n 1, 1) := by decide +kernel
theorem dX8_isHimself_22 : decode cX8_isHimself 22 = .ok (.imul, 1) := by decide +kernel
theorem dX8_isHimself_23 : decode cX8_isHimself 23 = .ok (.iload_n 3, 1) := by decide +kernel
theorem dX8_isHimself_24 : decode cX8_isHimself 24 = .ok (.iadd, 1) := by decide +kernel
theorem dX8_isHimself_25 : decode cX8_isHimself 25 = .ok (.iaload, 1) := by decide +kernel
theorem dX8_isHimself_26 : decode cX8_isHimself 26 = .ok (.if_icmp .eq 5, 3) := by decide +kernel
theorem dX8_isHimself_29 : decode cX8_isHimself 29 = .ok (.iconst 0, 1) := by decide +kernel
theorem dX8_isHimself_30 : decode cX8_isHimself 30 = .ok (.ireturn, 1) := by decide +kernel
theorem dX8_isHimself_31 : decode cX8_isHimself 31 = .ok (.iinc 3 1, 3) := by decide +kernel
theorem dX8_isHimself_34 : decode cX8_isHimself 34 = .ok (.goto (-32), 3) := by decide +kernel
theorem dX8_isHimself_37 : decode cX8_isHimself 37 = .ok (.iconst 1, 1) := by decide +kernel
theorem dX8_isHimself_38 : decode cX8_isHimself 38 = .ok (.ireturn, 1) := by decide +kernel
theorem dX8_cure_0 : decode cX8_cure 0 = .ok (.aload_n 0, 1) := by decide +kernel
theorem dX8_cure_1 : decode cX8_cure 1 = .ok (.iload_n 1, 1) := by decide +kernel
theorem dX8_cure_2 : decode cX8_cure 2 = .ok (.invokevirtual 122, 3) := by decide +kernel
theorem dX8_cure_5 : decode cX8_cure 5 = .ok (.ifCond .ne 9, 3) := by decide +kernel
theorem dX8_cure_8 : decode cX8_cure 8 = .ok (.aload_n 0, 1) := by decide +kernel
theorem dX8_cure_9 : decode cX8_cure 9 = .ok (.iconst (-1), 1) := by decide +kernel
theorem dX8_cure_10 : decode cX8_cure 10 = .ok (.invokevirtual 132, 3) := by decide +kernel
theorem dX8_cure_13 : decode cX8_cure 13 = .ok (.ireturn, 1) := by decide +kernel
theorem dX8_cure_14 : decode cX8_cure 14 = .ok (.iload_n 2, 1) := by decide +kernel
theorem dX8_cure_15 : decode cX8_cure 15 = .ok (.iconst 0, 1) := by decide +kernel
theorem dX8_cure_16 : decode cX8_cure 16 = .ok (.iconst 1, 1) := by decide +kernel
theorem dX8_cure_17 : decode cX8_cure 17 = .ok (.invokestatic 79, 3) := by decide +kernel
theorem dX8_cure_20 : decode cX8_cure 20 = .ok (.ifCond .ne 10, 3) := by decide +kernel
theorem dX8_cure_23 : decode cX8_cure 23 = .ok (.aload_n 0, 1) := by decide +kernel
theorem dX8_cure_24 : decode cX8_cure 24 = .ok (.bipush (-5), 2) := by decide +kernel
theorem dX8_cure_26 : decode cX8_cure 26 = .ok (.invokevirtual 132, 3) := by decide +kernel
theorem dX8_cure_29 : decode cX8_cure 29 = .ok (.ireturn, 1) := by decide +kernel
theorem dX8_cure_30 : decode cX8_cure 30 = .ok (.iload_n 2, 1) := by decide +kernel
theorem dX8_cure_31 : decode cX8_cure 31 = .ok (.ifCond .ne 59, 3) := by decide +kernel
theorem dX8_cure_34 : decode cX8_cure 34 = .ok (.aload_n 0, 1) := by decide +kernel
theorem dX8_cure_35 : decode cX8_cure 35 = .ok (.getfield 20, 3) := by decide +kernel
theorem dX8_cure_38 : decode cX8_cure 38 = .ok (.iload_n 1, 1) := by decide +kernel
theorem dX8_cure_39 : decode cX8_cure 39 = .ok (.iaload, 1) := by decide +kernel
theorem dX8_cure_40 : decode cX8_cure 40 = .ok (.istore_n 3, 1) := by decide +kernel
theorem dX8_cure_41 : decode cX8_cure 41 = .ok (.iconst (-1), 1) := by decide +kernel
theorem dX8_cure_42 : decode cX8_cure 42 = .ok (.istore 4, 2) := by decide +kernel
theorem dX8_cure_44 : decode cX8_cure 44 = .ok (.bipush 9, 2) := by decide +kernel
theorem dX8_cure_46 : decode cX8_cure 46 = .ok (.istore 5, 2) := by decide +kernel
theorem dX8_cure_48 : decode cX8_cure 48 = .ok (.iload 5, 2) := by decide +kernel
theorem dX8_cure_50 : decode cX8_cure 50 = .ok (.ifCond .lt 30, 3) := by decide +kernel
theorem dX8_cure_53 : decode cX8_cure 53 = .ok (.aload_n 0, 1) := by decide +kernel
theorem dX8_cure_54 : decode cX8_cure 54 = .ok (.getfield 20, 3) := by decide +kernel
theorem dX8_cure_57 : decode cX8_cure 57 = .ok (.iload_n 1, 1) := by decide +kernel
theorem dX8_cure_58 : decode cX8_cure 58 = .ok (.iload 5, 2) := by decide +kernel
theorem dX8_cure_60 : decode cX8_cure 60 = .ok (.iastore, 1) := by decide +kernel
theorem dX8_cure_61 : decode cX8_cure 61 = .ok (.aload_n 0, 1) := by decide +kernel
theorem dX8_cure_62 : decode cX8_cure 62 = .ok (.iload_n 1, 1) := by decide +kernel
theorem dX8_cure_63 : decode cX8_cure 63 = .ok (.iconst 0, 1) := by decide +kernel
theorem dX8_cure_64 : decode cX8_cure 64 = .ok (.invokevirtual 259, 3) := by decide +kernel
theorem dX8_cure_67 : decode cX8_cure 67 = .ok (.ifCond .eq 7, 3) := by decide +kernel
theorem dX8_cure_70 : decode cX8_cure 70 = .ok (.iload 5, 2) := by decide +kernel
theorem dX8_cure_72 : decode cX8_cure 72 = .ok (.istore 4, 2) := by decide +kernel
theorem dX8_cure_74 : decode cX8_cure 74 = .ok (.iinc 5 (-1), 3) := by decide +kernel
theorem dX8_cure_77 : decode cX8_cure 77 = .ok (.goto (-29), 3) := by decide +kernel
theorem dX8_cure_80 : decode cX8_cure 80 = .ok (.aload_n 0, 1) := by decide +kernel
theorem dX8_cure_81 : decode cX8_cure 81 = .ok (.getfield 20, 3) := by decide +kernel
theorem dX8_cure_84 : decode cX8_cure 84 = .ok (.iload_n 1, 1) := by decide +kernel
theorem dX8_cure_85 : decode cX8_cure 85 = .ok (.iload_n 3, 1) := by decide +kernel
theorem dX8_cure_86 : decode cX8_cure 86 = .ok (.iastore, 1) := by decide +kernel
theorem dX8_cure_87 : decode cX8_cure 87 = .ok (.iload 4, 2) := by decide +kernel
theorem dX8_cure_89 : decode cX8_cure 89 = .ok (.ireturn, 1) := by decide +kernel
theorem dX8_cure_90 : decode cX8_cure 90 = .ok (.iconst 0, 1) := by decide +kernel
theorem dX8_cure_91 : decode cX8_cure 91 = .ok (.istore_n 3, 1) := by decide +kernel
theorem dX8_cure_92 : decode cX8_cure 92 = .ok (.iconst 0, 1) := by decide +kernel
theorem dX8_cure_93 : decode cX8_cure 93 = .ok (.istore 4, 2) := by decide +kernel
theorem dX8_cure_95 : decode cX8_cure 95 = .ok (.iload 4, 2) := by decide +kernel
theorem dX8_cure_97 : decode cX8_cure 97 = .ok (.aload_n 0, 1) := by decide +kernel
theorem dX8_cure_98 : decode cX8_cure 98 = .ok (.getfield 76, 3) := by decide +kernel
theorem dX8_cure_101 : decode cX8_cure 101 = .ok (.if_icmp .ge 27, 3) := by decide +kernel
theorem dX8_cure_104 : decode cX8_cure 104 = .ok (.aload_n 0, 1) := by decide +kernel
theorem dX8_cure_105 : decode cX8_cure 105 = .ok (.getfield 32, 3) := by decide +kernel
theorem dX8_cure_108 : decode cX8_cure 108 = .ok (.iload 4, 2) := by decide +kernel
theorem dX8_cure_110 : decode cX8_cure 110 = .ok (.iaload, 1) := by decide +kernel
theorem dX8_cure_111 : decode cX8_cure 111 = .ok (.iload_n 1, 1) := by decide +kernel
theorem dX8_cure_112 : decode cX8_cure 112 = .ok (.if_icmp .ne 10, 3) := by decide +kernel
theorem dX8_cure_115 : decode cX8_cure 115 = .ok (.iload_n 3, 1) := by decide +kernel
theorem dX8_cure_116 : decode cX8_cure 116 = .ok (.iconst 1, 1) := by decide +kernel
theorem dX8_cure_117 : decode cX8_cure 117 = .ok (.iload 4, 2) := by decide +kernel
theorem dX8_cure_119 : decode cX8_cure 119 = .ok (.ishl, 1) := by decide +kernel
theorem dX8_cure_120 : decode cX8_cure 120 = .ok (.ior, 1) := by decide +kernel
theorem dX8_cure_121 : decode cX8_cure 121 = .ok (.istore_n 3, 1) := by decide +kernel
theorem dX8_cure_122 : decode cX8_cure 122 = .ok (.iinc 4 1, 3) := by decide +kernel
theorem dX8_cure_125 : decode cX8_cure 125 = .ok (.goto (-30), 3) := by decide +kernel
theorem dX8_cure_128 : decode cX8_cure 128 = .ok (.iload_n 3, 1) := by decide +kernel
theorem dX8_cure_129 : decode cX8_cure 129 = .ok (.istore 4, 2) := by decide +kernel
theorem dX8_cure_131 : decode cX8_cure 131 = .ok (.iconst 0, 1) := by decide +kernel
theorem dX8_cure_132 : decode cX8_cure 132 = .ok (.istore 5, 2) := by decide +kernel
theorem dX8_cure_134 : decode cX8_cure 134 = .ok (.iload 5, 2) := by decide +kernel
theorem dX8_cure_136 : decode cX8_cure 136 = .ok (.iconst 1, 1) := by decide +kernel
theorem dX8_cure_137 : decode cX8_cure 137 = .ok (.aload_n 0, 1) := by decide +kernel
theorem dX8_cure_138 : decode cX8_cure 138 = .ok (.getfield 76, 3) := by decide +kernel
theorem dX8_cure_141 : decode cX8_cure 141 = .ok (.ishl, 1) := by decide +kernel
theorem dX8_cure_142 : decode cX8_cure 142 = .ok (.if_icmp .ge 45, 3) := by decide +kernel
theorem dX8_cure_145 : decode cX8_cure 145 = .ok (.iload 5, 2) := by decide +kernel
theorem dX8_cure_147 : decode cX8_cure 147 = .ok (.iload_n 3, 1) := by decide +kernel
theorem dX8_cure_148 : decode cX8_cure 148 = .ok (.iconst (-1), 1) := by decide +kernel
theorem dX8_cure_149 : decode cX8_cure 149 = .ok (.ixor, 1) := by decide +kernel
theorem dX8_cure_150 : decode cX8_cure 150 = .ok (.iand, 1) := by decide +kernel
theorem dX8_cure_151 : decode cX8_cure 151 = .ok (.ifCond .ne 30, 3) := by decide +kernel
theorem dX8_cure_154 : decode cX8_cure 154 = .ok (.iload 5, 2) := by decide +kernel
theorem dX8_cure_156 : decode cX8_cure 156 = .ok (.invokestatic 251, 3) := by decide +kernel
theorem dX8_cure_159 : decode cX8_cure 159 = .ok (.iload 4, 2) := by decide +kernel
theorem dX8_cure_161 : decode cX8_cure 161 = .ok (.invokestatic 251, 3) := by decide +kernel
theorem dX8_cure_164 : decode cX8_cure 164 = .ok (.if_icmp .ge 17, 3) := by decide +kernel
theorem dX8_cure_167 : decode cX8_cure 167 = .ok (.aload_n 0, 1) := by decide +kernel
theorem dX8_cure_168 : decode cX8_cure 168 = .ok (.iload_n 1, 1) := by decide +kernel
theorem dX8_cure_169 : decode cX8_cure 169 = .ok (.iload 5, 2) := by decide +kernel
theorem dX8_cure_171 : decode cX8_cure 171 = .ok (.invokevirtual 259, 3) := by decide +kernel
theorem dX8_cure_174 : decode cX8_cure 174 = .ok (.ifCond .eq 7, 3) := by decide +kernel
theorem dX8_cure_177 : decode cX8_cure 177 = .ok (.iload 5, 2) := by decide +kernel
theorem dX8_cure_179 : decode cX8_cure 179 = .ok (.istore 4, 2) := by decide +kernel
theorem dX8_cure_181 : decode cX8_cure 181 = .ok (.iinc 5 1, 3) := by decide +kernel
theorem dX8_cure_184 : decode cX8_cure 184 = .ok (.goto (-50), 3) := by decide +kernel
theorem dX8_cure_187 : decode cX8_cure 187 = .ok (.iload 4, 2) := by decide +kernel
theorem dX8_cure_189 : decode cX8_cure 189 = .ok (.ireturn, 1) := by decide +kernel
theorem dX8_judge_0 : decode cX8_judge 0 = .ok (.aload_n 0, 1) := by decide +kernel
theorem dX8_judge_1 : decode cX8_judge 1 = .ok (.iload_n 2, 1) := by decide +kernel
theorem dX8_judge_2 : decode cX8_judge 2 = .ok (.invokevirtual 122, 3) := by decide +kernel
theorem dX8_judge_5 : decode cX8_judge 5 = .ok (.ifCond .ne 9, 3) := by decide +kernel
theorem dX8_judge_8 : decode cX8_judge 8 = .ok (.aload_n 0, 1) := by decide +kernel
theorem dX8_judge_9 : decode cX8_judge 9 = .ok (.iconst (-1), 1) := by decide +kernel
theorem dX8_judge_10 : decode cX8_judge 10 = .ok (.invokevirtual 132, 3) := by decide +kernel
theorem dX8_judge_13 : decode cX8_judge 13 = .ok (.ireturn, 1) := by decide +kernel
theorem dX8_judge_14 : decode cX8_judge 14 = .ok (.aload_n 0, 1) := by decide +kernel
theorem dX8_judge_15 : decode cX8_judge 15 = .ok (.iload_n 1, 1) := by decide +kernel
theorem dX8_judge_16 : decode cX8_judge 16 = .ok (.invokevirtual 245, 3) := by decide +kernel
theorem dX8_judge_19 : decode cX8_judge 19 = .ok (.istore_n 3, 1) := by decide +kernel
theorem dX8_judge_20 : decode cX8_judge 20 = .ok (.iload_n 3, 1) := by decide +kernel
theorem dX8_judge_21 : decode cX8_judge 21 = .ok (.ifCond .ge 9, 3) := by decide +kernel
theorem dX8_judge_24 : decode cX8_judge 24 = .ok (.aload_n 0, 1) := by decide +kernel
theorem dX8_judge_25 : decode cX8_judge 25 = .ok (.iload_n 3, 1) := by decide +kernel
theorem dX8_judge_26 : decode cX8_judge 26 = .ok (.invokevirtual 132, 3) := by decide +kernel
theorem dX8_judge_29 : decode cX8_judge 29 = .ok (.ireturn, 1) := by decide +kernel
theorem dX8_judge_30 : decode cX8_judge 30 = .ok (.iconst 0, 1) := by decide +kernel
theorem dX8_judge_31 : decode cX8_judge 31 = .ok (.istore 4, 2) := by decide +kernel
theorem dX8_judge_33 : decode cX8_judge 33 = .ok (.iload 4, 2) := by decide +kernel
theorem dX8_judge_35 : decode cX8_judge 35 = .ok (.bipush 12, 2) := by decide +kernel
theorem dX8_judge_37 : decode cX8_judge 37 = .ok (.if_icmp .ge 42, 3) := by decide +kernel
theorem dX8_judge_40 : decode cX8_judge 40 = .ok (.aload_n 0, 1) := by decide +kernel
theorem dX8_judge_41 : decode cX8_judge 41 = .ok (.iload_n 1, 1) := by decide +kernel
theorem dX8_judge_42 : decode cX8_judge 42 = .ok (.iload 4, 2) := by decide +kernel
theorem dX8_judge_44 : decode cX8_judge 44 = .ok (.invokevirtual 248, 3) := by decide +kernel
theorem dX8_judge_47 : decode cX8_judge 47 = .ok (.invokestatic 113, 3) := by decide +kernel
theorem dX8_judge_50 : decode cX8_judge 50 = .ok (.ifCond .eq 20, 3) := by decide +kernel
theorem dX8_judge_53 : decode cX8_judge 53 = .ok (.aload_n 0, 1) := by decide +kernel
theorem dX8_judge_54 : decode cX8_judge 54 = .ok (.iload_n 1, 1) := by decide +kernel
theorem dX8_judge_55 : decode cX8_judge 55 = .ok (.iload 4, 2) := by decide +kernel
theorem dX8_judge_57 : decode cX8_judge 57 = .ok (.invokevirtual 248, 3) := by decide +kernel
theorem dX8_judge_60 : decode cX8_judge 60 = .ok (.aload_n 0, 1) := by decide +kernel
theorem dX8_judge_61 : decode cX8_judge 61 = .ok (.iload_n 2, 1) := by decide +kernel
theorem dX8_judge_62 : decode cX8_judge 62 = .ok (.iload 4, 2) := by decide +kernel
theorem dX8_judge_64 : decode cX8_judge 64 = .ok (.invokevirtual 217, 3) := by decide +kernel
theorem dX8_judge_67 : decode cX8_judge 67 = .ok (.if_icmp .eq 6, 3) := by decide +kernel
theorem dX8_judge_70 : decode cX8_judge 70 = .ok (.iload 4, 2) := by decide +kernel
theorem dX8_judge_72 : decode cX8_judge 72 = .ok (.ireturn, 1) := by decide +kernel
theorem dX8_judge_73 : decode cX8_judge 73 = .ok (.iinc 4 1, 3) := by decide +kernel
theorem dX8_judge_76 : decode cX8_judge 76 = .ok (.goto (-43), 3) := by decide +kernel
theorem dX8_judge_79 : decode cX8_judge 79 = .ok (.iconst (-1), 1) := by decide +kernel
theorem dX8_judge_80 : decode cX8_judge 80 = .ok (.ireturn, 1) := by decide +kernel
theorem dX8_taught_0 : decode cX8_taught 0 = .ok (.aload_n 0, 1) := by decide +kernel
theorem dX8_taught_1 : decode cX8_taught 1 = .ok (.iload_n 2, 1) := by decide +kernel
theorem dX8_taught_2 : decode cX8_taught 2 = .ok (.invokevirtual 93, 3) := by decide +kernel
theorem dX8_taught_5 : decode cX8_taught 5 = .ok (.ifCond .ne 9, 3) := by decide +kernel
theorem dX8_taught_8 : decode cX8_taught 8 = .ok (.aload_n 0, 1) := by decide +kernel
theorem dX8_taught_9 : decode cX8_taught 9 = .ok (.iconst (-1), 1) := by decide +kernel
theorem dX8_taught_10 : decode cX8_taught 10 = .ok (.invokevirtual 132, 3) := by decide +kernel
theorem dX8_taught_13 : decode cX8_taught 13 = .ok (.ireturn, 1) := by decide +kernel
theorem dX8_taught_14 : decode cX8_taught 14 = .ok (.aload_n 0, 1) := by decide +kernel
theorem dX8_taught_15 : decode cX8_taught 15 = .ok (.iload_n 1, 1) := by decide +kernel
theorem dX8_taught_16 : decode cX8_taught 16 = .ok (.invokevirtual 245, 3) := by decide +kernel
theorem dX8_taught_19 : decode cX8_taught 19 = .ok (.istore_n 3, 1) := by decide +kernel
theorem dX8_taught_20 : decode cX8_taught 20 = .ok (.iload_n 3, 1) := by decide +kernel
theorem dX8_taught_21 : decode cX8_taught 21 = .ok (.ifCond .ge 9, 3) := by decide +kernel
theorem dX8_taught_24 : decode cX8_taught 24 = .ok (.aload_n 0, 1) := by decide +kernel
theorem dX8_taught_25 : decode cX8_taught 25 = .ok (.iload_n 3, 1) := by decide +kernel
theorem dX8_taught_26 : decode cX8_taught 26 = .ok (.invokevirtual 132, 3) := by decide +kernel
theorem dX8_taught_29 : decode cX8_taught 29 = .ok (.ireturn, 1) := by decide +kernel
theorem dX8_taught_30 : decode cX8_taught 30 = .ok (.iconst 0, 1) := by decide +kernel
theorem dX8_taught_31 : decode cX8_taught 31 = .ok (.istore 4, 2) := by decide +kernel
theorem dX8_taught_33 : decode cX8_taught 33 = .ok (.iload 4, 2) := by decide +kernel
theorem dX8_taught_35 : decode cX8_taught 35 = .ok (.bipush 12, 2) := by decide +kernel
theorem dX8_taught_37 : decode cX8_taught 37 = .ok (.if_icmp .ge 29, 3) := by decide +kernel
theorem dX8_taught_40 : decode cX8_taught 40 = .ok (.aload_n 0, 1) := by decide +kernel
theorem dX8_taught_41 : decode cX8_taught 41 = .ok (.iload_n 1, 1) := by decide +kernel
theorem dX8_taught_42 : decode cX8_taught 42 = .ok (.iload 4, 2) := by decide +kernel
theorem dX8_taught_44 : decode cX8_taught 44 = .ok (.invokevirtual 248, 3) := by decide +kernel
theorem dX8_taught_47 : decode cX8_taught 47 = .ok (.invokestatic 113, 3) := by decide +kernel
theorem dX8_taught_50 : decode cX8_taught 50 = .ok (.ifCond .ne 10, 3) := by decide +kernel
theorem dX8_taught_53 : decode cX8_taught 53 = .ok (.aload_n 0, 1) := by decide +kernel
theorem dX8_taught_54 : decode cX8_taught 54 = .ok (.bipush (-6), 2) := by decide +kernel
theorem dX8_taught_56 : decode cX8_taught 56 = .ok (.invokevirtual 132, 3) := by decide +kernel
theorem dX8_taught_59 : decode cX8_taught 59 = .ok (.ireturn, 1) := by decide +kernel
theorem dX8_taught_60 : decode cX8_taught 60 = .ok (.iinc 4 1, 3) := by decide +kernel
theorem dX8_taught_63 : decode cX8_taught 63 = .ok (.goto (-30), 3) := by decide +kernel
theorem dX8_taught_66 : decode cX8_taught 66 = .ok (.aload_n 0, 1) := by decide +kernel
theorem dX8_taught_67 : decode cX8_taught 67 = .ok (.aload_n 0, 1) := by decide +kernel
theorem dX8_taught_68 : decode cX8_taught 68 = .ok (.getfield 53, 3) := by decide +kernel
theorem dX8_taught_71 : decode cX8_taught 71 = .ok (.invokevirtual 194, 3) := by decide +kernel
theorem dX8_taught_74 : decode cX8_taught 74 = .ok (.iconst (-1), 1) := by decide +kernel
theorem dX8_taught_75 : decode cX8_taught 75 = .ok (.istore 4, 2) := by decide +kernel
theorem dX8_taught_77 : decode cX8_taught 77 = .ok (.iconst 0, 1) := by decide +kernel
theorem dX8_taught_78 : decode cX8_taught 78 = .ok (.istore 5, 2) := by decide +kernel
theorem dX8_taught_80 : decode cX8_taught 80 = .ok (.iload 5, 2) := by decide +kernel
theorem dX8_taught_82 : decode cX8_taught 82 = .ok (.bipush 61, 2) := by decide +kernel
theorem dX8_taught_84 : decode cX8_taught 84 = .ok (.if_icmp .ge 108, 3) := by decide +kernel
theorem dX8_taught_87 : decode cX8_taught 87 = .ok (.iload 4, 2) := by decide +kernel
theorem dX8_taught_89 : decode cX8_taught 89 = .ok (.iconst (-1), 1) := by decide +kernel
theorem dX8_taught_90 : decode cX8_taught 90 = .ok (.if_icmp .ne 102, 3) := by decide +kernel
theorem dX8_taught_93 : decode cX8_taught 93 = .ok (.iconst 1, 1) := by decide +kernel
theorem dX8_taught_94 : decode cX8_taught 94 = .ok (.istore 6, 2) := by decide +kernel
theorem dX8_taught_96 : decode cX8_taught 96 = .ok (.iconst 0, 1) := by decide +kernel
theorem dX8_taught_97 : decode cX8_taught 97 = .ok (.istore 7, 2) := by decide +kernel
theorem dX8_taught_99 : decode cX8_taught 99 = .ok (.iload 7, 2) := by decide +kernel
theorem dX8_taught_101 : decode cX8_taught 101 = .ok (.bipush 12, 2) := by decide +kernel
theorem dX8_taught_103 : decode cX8_taught 103 = .ok (.if_icmp .ge 44, 3) := by decide +kernel
theorem dX8_taught_106 : decode cX8_taught 106 = .ok (.aload_n 0, 1) := by decide +kernel
theorem dX8_taught_107 : decode cX8_taught 107 = .ok (.iload_n 1, 1) := by decide +kernel
theorem dX8_taught_108 : decode cX8_taught 108 = .ok (.iload 7, 2) := by decide +kernel
theorem dX8_taught_110 : decode cX8_taught 110 = .ok (.invokevirtual 248, 3) := by decide +kernel
theorem dX8_taught_113 : decode cX8_taught 113 = .ok (.ifCond .eq 28, 3) := by decide +kernel
theorem dX8_taught_116 : decode cX8_taught 116 = .ok (.aload_n 0, 1) := by decide +kernel
theorem dX8_taught_117 : decode cX8_taught 117 = .ok (.iload_n 1, 1) := by decide +kernel
theorem dX8_taught_118 : decode cX8_taught 118 = .ok (.iload 7, 2) := by decide +kernel
theorem dX8_taught_120 : decode cX8_taught 120 = .ok (.invokevirtual 248, 3) := by decide +kernel
theorem dX8_taught_123 : decode cX8_taught 123 = .ok (.aload_n 0, 1) := by decide +kernel
theorem dX8_taught_124 : decode cX8_taught 124 = .ok (.getfield 35, 3) := by decide +kernel
theorem dX8_taught_127 : decode cX8_taught 127 = .ok (.bipush 12, 2) := by decide +kernel
theorem dX8_taught_129 : decode cX8_taught 129 = .ok (.iload_n 2, 1) := by decide +kernel
theorem dX8_taught_130 : decode cX8_taught 130 = .ok (.imul, 1) := by decide +kernel
theorem dX8_taught_131 : decode cX8_taught 131 = .ok (.iload 7, 2) := by decide +kernel
theorem dX8_taught_133 : decode cX8_taught 133 = .ok (.iadd, 1) := by decide +kernel
theorem dX8_taught_134 : decode cX8_taught 134 = .ok (.iaload, 1) := by decide +kernel
theorem dX8_taught_135 : decode cX8_taught 135 = .ok (.if_icmp .eq 6, 3) := by decide +kernel
theorem dX8_taught_138 : decode cX8_taught 138 = .ok (.iconst 0, 1) := by decide +kernel
theorem dX8_taught_139 : decode cX8_taught 139 = .ok (.istore 6, 2) := by decide +kernel
theorem dX8_taught_141 : decode cX8_taught 141 = .ok (.iinc 7 1, 3) := by decide +kernel
theorem dX8_taught_144 : decode cX8_taught 144 = .ok (.goto (-45), 3) := by decide +kernel
theorem dX8_taught_147 : decode cX8_taught 147 = .ok (.iload 6, 2) := by decide +kernel
theorem dX8_taught_149 : decode cX8_taught 149 = .ok (.ifCond .eq 7, 3) := by decide +kernel
theorem dX8_taught_152 : decode cX8_taught 152 = .ok (.iload 5, 2) := by decide +kernel
theorem dX8_taught_154 : decode cX8_taught 154 = .ok (.istore 4, 2) := by decide +kernel
theorem dX8_taught_156 : decode cX8_taught 156 = .ok (.iconst 0, 1) := by decide +kernel
theorem dX8_taught_157 : decode cX8_taught 157 = .ok (.istore 7, 2) := by decide +kernel
theorem dX8_taught_159 : decode cX8_taught 159 = .ok (.iload 7, 2) := by decide +kernel
theorem dX8_taught_161 : decode cX8_taught 161 = .ok (.bipush 12, 2) := by decide +kernel
theorem dX8_taught_163 : decode cX8_taught 163 = .ok (.if_icmp .ge 23, 3) := by decide +kernel
theorem dX8_taught_166 : decode cX8_taught 166 = .ok (.aload_n 0, 1) := by decide +kernel
theorem dX8_taught_167 : decode cX8_taught 167 = .ok (.iload_n 2, 1) := by decide +kernel
theorem dX8_taught_168 : decode cX8_taught 168 = .ok (.iload 7, 2) := by decide +kernel
theorem dX8_taught_170 : decode cX8_taught 170 = .ok (.aload_n 0, 1) := by decide +kernel
theorem dX8_taught_171 : decode cX8_taught 171 = .ok (.iload_n 1, 1) := by decide +kernel
theorem dX8_taught_172 : decode cX8_taught 172 = .ok (.iload 7, 2) := by decide +kernel
theorem dX8_taught_174 : decode cX8_taught 174 = .ok (.invokevirtual 248, 3) := by decide +kernel
theorem dX8_taught_177 : decode cX8_taught 177 = .ok (.invokevirtual 220, 3) := by decide +kernel
theorem dX8_taught_180 : decode cX8_taught 180 = .ok (.iinc 7 1, 3) := by decide +kernel
theorem dX8_taught_183 : decode cX8_taught 183 = .ok (.goto (-24), 3) := by decide +kernel
theorem dX8_taught_186 : decode cX8_taught 186 = .ok (.iinc 5 1, 3) := by decide +kernel
theorem dX8_taught_189 : decode cX8_taught 189 = .ok (.goto (-109), 3) := by decide +kernel
theorem dX8_taught_192 : decode cX8_taught 192 = .ok (.aload_n 0, 1) := by decide +kernel
theorem dX8_taught_193 : decode cX8_taught 193 = .ok (.aload_n 0, 1) := by decide +kernel
theorem dX8_taught_194 : decode cX8_taught 194 = .ok (.getfield 53, 3) := by decide +kernel
theorem dX8_taught_197 : decode cX8_taught 197 = .ok (.invokevirtual 202, 3) := by decide +kernel
theorem dX8_taught_200 : decode cX8_taught 200 = .ok (.iload 4, 2) := by decide +kernel
theorem dX8_taught_202 : decode cX8_taught 202 = .ok (.ireturn, 1) := by decide +kernel
theorem dX8_wash_0 : decode cX8_wash 0 = .ok (.aload_n 0, 1) := by decide +kernel
theorem dX8_wash_1 : decode cX8_wash 1 = .ok (.iload_n 1, 1) := by decide +kernel
theorem dX8_wash_2 : decode cX8_wash 2 = .ok (.invokevirtual 93, 3) := by decide +kernel
theorem dX8_wash_5 : decode cX8_wash 5 = .ok (.ifCond .ne 9, 3) := by decide +kernel
theorem dX8_wash_8 : decode cX8_wash 8 = .ok (.aload_n 0, 1) := by decide +kernel
theorem dX8_wash_9 : decode cX8_wash 9 = .ok (.iconst (-1), 1) := by decide +kernel
theorem dX8_wash_10 : decode cX8_wash 10 = .ok (.invokevirtual 72, 3) := by decide +kernel
theorem dX8_wash_13 : decode cX8_wash 13 = .ok (.ireturn, 1) := by decide +kernel
theorem dX8_wash_14 : decode cX8_wash 14 = .ok (.aload_n 0, 1) := by decide +kernel
theorem dX8_wash_15 : decode cX8_wash 15 = .ok (.iload_n 1, 1) := by decide +kernel
theorem dX8_wash_16 : decode cX8_wash 16 = .ok (.invokevirtual 184, 3) := by decide +kernel
theorem dX8_wash_19 : decode cX8_wash 19 = .ok (.aload_n 0, 1) := by decide +kernel
theorem dX8_wash_20 : decode cX8_wash 20 = .ok (.iload_n 1, 1) := by decide +kernel
theorem dX8_wash_21 : decode cX8_wash 21 = .ok (.invokevirtual 103, 3) := by decide +kernel
theorem dX8_wash_24 : decode cX8_wash 24 = .ok (.ireturn, 1) := by decide +kernel
theorem dX8_days_0 : decode cX8_days 0 = .ok (.iload_n 1, 1) := by decide +kernel
theorem dX8_days_1 : decode cX8_days 1 = .ok (.iconst 1, 1) := by decide +kernel
theorem dX8_days_2 : decode cX8_days 2 = .ok (.bipush 60, 2) := by decide +kernel
theorem dX8_days_4 : decode cX8_days 4 = .ok (.invokestatic 79, 3) := by decide +kernel
theorem dX8_days_7 : decode cX8_days 7 = .ok (.ifCond .ne 10, 3) := by decide +kernel
theorem dX8_days_10 : decode cX8_days 10 = .ok (.aload_n 0, 1) := by decide +kernel
theorem dX8_days_11 : decode cX8_days 11 = .ok (.bipush (-6), 2) := by decide +kernel
theorem dX8_days_13 : decode cX8_days 13 = .ok (.invokevirtual 72, 3) := by decide +kernel
theorem dX8_days_16 : decode cX8_days 16 = .ok (.ireturn, 1) := by decide +kernel
theorem dX8_days_17 : decode cX8_days 17 = .ok (.iconst 0, 1) := by decide +kernel
theorem dX8_days_18 : decode cX8_days 18 = .ok (.istore_n 2, 1) := by decide +kernel
theorem dX8_days_19 : decode cX8_days 19 = .ok (.iconst 0, 1) := by decide +kernel
theorem dX8_days_20 : decode cX8_days 20 = .ok (.istore_n 3, 1) := by decide +kernel
theorem dX8_days_21 : decode cX8_days 21 = .ok (.iload_n 3, 1) := by decide +kernel
theorem dX8_days_22 : decode cX8_days 22 = .ok (.iload_n 1, 1) := by decide +kernel
theorem dX8_days_23 : decode cX8_days 23 = .ok (.if_icmp .ge 16, 3) := by decide +kernel
theorem dX8_days_26 : decode cX8_days 26 = .ok (.iload_n 2, 1) := by decide +kernel
theorem dX8_days_27 : decode cX8_days 27 = .ok (.aload_n 0, 1) := by decide +kernel
theorem dX8_days_28 : decode cX8_days 28 = .ok (.invokevirtual 192, 3) := by decide +kernel
theorem dX8_days_31 : decode cX8_days 31 = .ok (.iadd, 1) := by decide +kernel
theorem dX8_days_32 : decode cX8_days 32 = .ok (.istore_n 2, 1) := by decide +kernel
theorem dX8_days_33 : decode cX8_days 33 = .ok (.iinc 3 1, 3) := by decide +kernel
theorem dX8_days_36 : decode cX8_days 36 = .ok (.goto (-15), 3) := by decide +kernel
theorem dX8_days_39 : decode cX8_days 39 = .ok (.iload_n 2, 1) := by decide +kernel
theorem dX8_days_40 : decode cX8_days 40 = .ok (.ireturn, 1) := by decide +kernel
theorem dX8_draw_0 : decode cX8_draw 0 = .ok (.aload_n 0, 1) := by decide +kernel
theorem dX8_draw_1 : decode cX8_draw 1 = .ok (.aload_n 0, 1) := by decide +kernel
theorem dX8_draw_2 : decode cX8_draw 2 = .ok (.getfield 65, 3) := by decide +kernel
theorem dX8_draw_5 : decode cX8_draw 5 = .ok (.ldc_w 262, 3) := by decide +kernel
theorem dX8_draw_8 : decode cX8_draw 8 = .ok (.imul, 1) := by decide +kernel
theorem dX8_draw_9 : decode cX8_draw 9 = .ok (.sipush 12345, 3) := by decide +kernel
theorem dX8_draw_12 : decode cX8_draw 12 = .ok (.iadd, 1) := by decide +kernel
theorem dX8_draw_13 : decode cX8_draw 13 = .ok (.putfield 65, 3) := by decide +kernel
theorem dX8_draw_16 : decode cX8_draw 16 = .ok (.aload_n 0, 1) := by decide +kernel
theorem dX8_draw_17 : decode cX8_draw 17 = .ok (.getfield 65, 3) := by decide +kernel
theorem dX8_draw_20 : decode cX8_draw 20 = .ok (.bipush 16, 2) := by decide +kernel
theorem dX8_draw_22 : decode cX8_draw 22 = .ok (.iushr, 1) := by decide +kernel
theorem dX8_draw_23 : decode cX8_draw 23 = .ok (.iload_n 1, 1) := by decide +kernel
theorem dX8_draw_24 : decode cX8_draw 24 = .ok (.irem, 1) := by decide +kernel
theorem dX8_draw_25 : decode cX8_draw 25 = .ok (.ireturn, 1) := by decide +kernel
theorem dX8_years_0 : decode cX8_years 0 = .ok (.aload_n 0, 1) := by decide +kernel
theorem dX8_years_1 : decode cX8_years 1 = .ok (.getfield 76, 3) := by decide +kernel
theorem dX8_years_4 : decode cX8_years 4 = .ok (.ifCond .ne 10, 3) := by decide +kernel
theorem dX8_years_7 : decode cX8_years 7 = .ok (.aload_n 0, 1) := by decide +kernel
theorem dX8_years_8 : decode cX8_years 8 = .ok (.bipush (-5), 2) := by decide +kernel
theorem dX8_years_10 : decode cX8_years 10 = .ok (.invokevirtual 72, 3) := by decide +kernel
theorem dX8_years_13 : decode cX8_years 13 = .ok (.ireturn, 1) := by decide +kernel
theorem dX8_years_14 : decode cX8_years 14 = .ok (.iload_n 1, 1) := by decide +kernel
theorem dX8_years_15 : decode cX8_years 15 = .ok (.iconst 1, 1) := by decide +kernel
theorem dX8_years_16 : decode cX8_years 16 = .ok (.bipush 60, 2) := by decide +kernel
theorem dX8_years_18 : decode cX8_years 18 = .ok (.invokestatic 79, 3) := by decide +kernel
theorem dX8_years_21 : decode cX8_years 21 = .ok (.ifCond .ne 10, 3) := by decide +kernel
theorem dX8_years_24 : decode cX8_years 24 = .ok (.aload_n 0, 1) := by decide +kernel
theorem dX8_years_25 : decode cX8_years 25 = .ok (.bipush (-6), 2) := by decide +kernel
theorem dX8_years_27 : decode cX8_years 27 = .ok (.invokevirtual 72, 3) := by decide +kernel
theorem dX8_years_30 : decode cX8_years 30 = .ok (.ireturn, 1) := by decide +kernel
theorem dX8_years_31 : decode cX8_years 31 = .ok (.iconst 0, 1) := by decide +kernel
theorem dX8_years_32 : decode cX8_years 32 = .ok (.istore_n 2, 1) := by decide +kernel
theorem dX8_years_33 : decode cX8_years 33 = .ok (.iload_n 2, 1) := by decide +kernel
theorem dX8_years_34 : decode cX8_years 34 = .ok (.iload_n 1, 1) := by decide +kernel
theorem dX8_years_35 : decode cX8_years 35 = .ok (.if_icmp .ge 74, 3) := by decide +kernel
theorem dX8_years_38 : decode cX8_years 38 = .ok (.aload_n 0, 1) := by decide +kernel
theorem dX8_years_39 : decode cX8_years 39 = .ok (.aload_n 0, 1) := by decide +kernel
theorem dX8_years_40 : decode cX8_years 40 = .ok (.getfield 76, 3) := by decide +kernel
theorem dX8_years_43 : decode cX8_years 43 = .ok (.invokevirtual 263, 3) := by decide +kernel
theorem dX8_years_46 : decode cX8_years 46 = .ok (.istore_n 3, 1) := by decide +kernel
theorem dX8_years_47 : decode cX8_years 47 = .ok (.aload_n 0, 1) := by decide +kernel
theorem dX8_years_48 : decode cX8_years 48 = .ok (.iconst 4, 1) := by decide +kernel
theorem dX8_years_49 : decode cX8_years 49 = .ok (.invokevirtual 263, 3) := by decide +kernel
theorem dX8_years_52 : decode cX8_years 52 = .ok (.istore 4, 2) := by decide +kernel
theorem dX8_years_54 : decode cX8_years 54 = .ok (.iload 4, 2) := by decide +kernel
theorem dX8_years_56 : decode cX8_years 56 = .ok (.ifCond .ne 11, 3) := by decide +kernel
theorem dX8_years_59 : decode cX8_years 59 = .ok (.aload_n 0, 1) := by decide +kernel
theorem dX8_years_60 : decode cX8_years 60 = .ok (.iload_n 3, 1) := by decide +kernel
theorem dX8_years_61 : decode cX8_years 61 = .ok (.invokevirtual 184, 3) := by decide +kernel
theorem dX8_years_64 : decode cX8_years 64 = .ok (.goto 34, 3) := by decide +kernel
theorem dX8_years_67 : decode cX8_years 67 = .ok (.aload_n 0, 1) := by decide +kernel
theorem dX8_years_68 : decode cX8_years 68 = .ok (.getfield 32, 3) := by decide +kernel
theorem dX8_years_71 : decode cX8_years 71 = .ok (.iload_n 3, 1) := by decide +kernel
theorem dX8_years_72 : decode cX8_years 72 = .ok (.iload 4, 2) := by decide +kernel
theorem dX8_years_74 : decode cX8_years 74 = .ok (.iconst 1, 1) := by decide +kernel
theorem dX8_years_75 : decode cX8_years 75 = .ok (.if_icmp .eq 10, 3) := by decide +kernel
theorem dX8_years_78 : decode cX8_years 78 = .ok (.aload_n 0, 1) := by decide +kernel
theorem dX8_years_79 : decode cX8_years 79 = .ok (.getfield 83, 3) := by decide +kernel
theorem dX8_years_82 : decode cX8_years 82 = .ok (.ifCond .ne 7, 3) := by decide +kernel
theorem dX8_years_85 : decode cX8_years 85 = .ok (.iconst (-1), 1) := by decide +kernel
theorem dX8_years_86 : decode cX8_years 86 = .ok (.goto 11, 3) := by decide +kernel
theorem dX8_years_89 : decode cX8_years 89 = .ok (.aload_n 0, 1) := by decide +kernel
theorem dX8_years_90 : decode cX8_years 90 = .ok (.aload_n 0, 1) := by decide +kernel
theorem dX8_years_91 : decode cX8_years 91 = .ok (.getfield 83, 3) := by decide +kernel
theorem dX8_years_94 : decode cX8_years 94 = .ok (.invokevirtual 263, 3) := by decide +kernel
theorem dX8_years_97 : decode cX8_years 97 = .ok (.iastore, 1) := by decide +kernel
theorem dX8_years_98 : decode cX8_years 98 = .ok (.aload_n 0, 1) := by decide +kernel
theorem dX8_years_99 : decode cX8_years 99 = .ok (.invokevirtual 192, 3) := by decide +kernel
theorem dX8_years_102 : decode cX8_years 102 = .ok (.pop, 1) := by decide +kernel
theorem dX8_years_103 : decode cX8_years 103 = .ok (.iinc 2 1, 3) := by decide +kernel
theorem dX8_years_106 : decode cX8_years 106 = .ok (.goto (-73), 3) := by decide +kernel
theorem dX8_years_109 : decode cX8_years 109 = .ok (.aload_n 0, 1) := by decide +kernel
theorem dX8_years_110 : decode cX8_years 110 = .ok (.invokevirtual 266, 3) := by decide +kernel
theorem dX8_years_113 : decode cX8_years 113 = .ok (.ireturn, 1) := by decide +kernel
theorem dX8_allHabits_0 : decode cX8_allHabits 0 = .ok (.iconst 0, 1) := by decide +kernel
theorem dX8_allHabits_1 : decode cX8_allHabits 1 = .ok (.istore_n 1, 1) := by decide +kernel
theorem dX8_allHabits_2 : decode cX8_allHabits 2 = .ok (.iconst 0, 1) := by decide +kernel
theorem dX8_allHabits_3 : decode cX8_allHabits 3 = .ok (.istore_n 2, 1) := by decide +kernel
theorem dX8_allHabits_4 : decode cX8_allHabits 4 = .ok (.iload_n 2, 1) := by decide +kernel
theorem dX8_allHabits_5 : decode cX8_allHabits 5 = .ok (.aload_n 0, 1) := by decide +kernel
theorem dX8_allHabits_6 : decode cX8_allHabits 6 = .ok (.getfield 76, 3) := by decide +kernel
theorem dX8_allHabits_9 : decode cX8_allHabits 9 = .ok (.if_icmp .ge 17, 3) := by decide +kernel
theorem dX8_allHabits_12 : decode cX8_allHabits 12 = .ok (.iload_n 1, 1) := by decide +kernel
theorem dX8_allHabits_13 : decode cX8_allHabits 13 = .ok (.aload_n 0, 1) := by decide +kernel
theorem dX8_allHabits_14 : decode cX8_allHabits 14 = .ok (.iload_n 2, 1) := by decide +kernel
theorem dX8_allHabits_15 : decode cX8_allHabits 15 = .ok (.invokevirtual 103, 3) := by decide +kernel
theorem dX8_allHabits_18 : decode cX8_allHabits 18 = .ok (.iadd, 1) := by decide +kernel
theorem dX8_allHabits_19 : decode cX8_allHabits 19 = .ok (.istore_n 1, 1) := by decide +kernel
theorem dX8_allHabits_20 : decode cX8_allHabits 20 = .ok (.iinc 2 1, 3) := by decide +kernel
theorem dX8_allHabits_23 : decode cX8_allHabits 23 = .ok (.goto (-19), 3) := by decide +kernel
theorem dX8_allHabits_26 : decode cX8_allHabits 26 = .ok (.iload_n 1, 1) := by decide +kernel
theorem dX8_allHabits_27 : decode cX8_allHabits 27 = .ok (.ireturn, 1) := by decide +kernel
theorem dX8_seed_0 : decode cX8_seed 0 = .ok (.aload_n 0, 1) := by decide +kernel
theorem dX8_seed_1 : decode cX8_seed 1 = .ok (.getfield 65, 3) := by decide +kernel
theorem dX8_seed_4 : decode cX8_seed 4 = .ok (.istore_n 2, 1) := by decide +kernel
theorem dX8_seed_5 : decode cX8_seed 5 = .ok (.aload_n 0, 1) := by decide +kernel
theorem dX8_seed_6 : decode cX8_seed 6 = .ok (.iload_n 1, 1) := by decide +kernel
theorem dX8_seed_7 : decode cX8_seed 7 = .ok (.putfield 65, 3) := by decide +kernel
theorem dX8_seed_10 : decode cX8_seed 10 = .ok (.iload_n 2, 1) := by decide +kernel
theorem dX8_seed_11 : decode cX8_seed 11 = .ok (.ireturn, 1) := by decide +kernel
theorem dX8_ran_0 : decode cX8_ran 0 = .ok (.aload_n 0, 1) := by decide +kernel
theorem dX8_ran_1 : decode cX8_ran 1 = .ok (.getfield 269, 3) := by decide +kernel
theorem dX8_ran_4 : decode cX8_ran 4 = .ok (.bipush 20, 2) := by decide +kernel
theorem dX8_ran_6 : decode cX8_ran 6 = .ok (.if_icmp .ge 13, 3) := by decide +kernel
theorem dX8_ran_9 : decode cX8_ran 9 = .ok (.aload_n 0, 1) := by decide +kernel
theorem dX8_ran_10 : decode cX8_ran 10 = .ok (.getfield 44, 3) := by decide +kernel
theorem dX8_ran_13 : decode cX8_ran 13 = .ok (.aload_n 0, 1) := by decide +kernel
theorem dX8_ran_14 : decode cX8_ran 14 = .ok (.getfield 269, 3) := by decide +kernel
theorem dX8_ran_17 : decode cX8_ran 17 = .ok (.iload_n 1, 1) := by decide +kernel
theorem dX8_ran_18 : decode cX8_ran 18 = .ok (.iastore, 1) := by decide +kernel
theorem dX8_ran_19 : decode cX8_ran 19 = .ok (.aload_n 0, 1) := by decide +kernel
theorem dX8_ran_20 : decode cX8_ran 20 = .ok (.dup, 1) := by decide +kernel
theorem dX8_ran_21 : decode cX8_ran 21 = .ok (.getfield 269, 3) := by decide +kernel
theorem dX8_ran_24 : decode cX8_ran 24 = .ok (.iconst 1, 1) := by decide +kernel
theorem dX8_ran_25 : decode cX8_ran 25 = .ok (.iadd, 1) := by decide +kernel
theorem dX8_ran_26 : decode cX8_ran 26 = .ok (.putfield 269, 3) := by decide +kernel
theorem dX8_ran_29 : decode cX8_ran 29 = .ok (.return_, 1) := by decide +kernel
theorem dX8_sitsBy_0 : decode cX8_sitsBy 0 = .ok (.aload_n 0, 1) := by decide +kernel
theorem dX8_sitsBy_1 : decode cX8_sitsBy 1 = .ok (.getfield 26, 3) := by decide +kernel
theorem dX8_sitsBy_4 : decode cX8_sitsBy 4 = .ok (.iload_n 1, 1) := by decide +kernel
theorem dX8_sitsBy_5 : decode cX8_sitsBy 5 = .ok (.iaload, 1) := by decide +kernel
theorem dX8_sitsBy_6 : decode cX8_sitsBy 6 = .ok (.istore_n 3, 1) := by decide +kernel
theorem dX8_sitsBy_7 : decode cX8_sitsBy 7 = .ok (.iload_n 3, 1) := by decide +kernel
theorem dX8_sitsBy_8 : decode cX8_sitsBy 8 = .ok (.bipush 6, 2) := by decide +kernel
theorem dX8_sitsBy_10 : decode cX8_sitsBy 10 = .ok (.if_icmp .ne 9, 3) := by decide +kernel
theorem dX8_sitsBy_13 : decode cX8_sitsBy 13 = .ok (.aload_n 0, 1) := by decide +kernel
theorem dX8_sitsBy_14 : decode cX8_sitsBy 14 = .ok (.bipush 70, 2) := by decide +kernel
theorem dX8_sitsBy_16 : decode cX8_sitsBy 16 = .ok (.invokevirtual 272, 3) := by decide +kernel
theorem dX8_sitsBy_19 : decode cX8_sitsBy 19 = .ok (.iload_n 3, 1) := by decide +kernel
theorem dX8_sitsBy_20 : decode cX8_sitsBy 20 = .ok (.iconst 4, 1) := by decide +kernel
theorem dX8_sitsBy_21 : decode cX8_sitsBy 21 = .ok (.if_icmp .eq 9, 3) := by decide +kernel
theorem dX8_sitsBy_24 : decode cX8_sitsBy 24 = .ok (.iload_n 3, 1) := by decide +kernel
theorem dX8_sitsBy_25 : decode cX8_sitsBy 25 = .ok (.bipush 6, 2) := by decide +kernel
theorem dX8_sitsBy_27 : decode cX8_sitsBy 27 = .ok (.if_icmp .ne 9, 3) := by decide +kernel
theorem dX8_sitsBy_30 : decode cX8_sitsBy 30 = .ok (.aload_n 0, 1) := by decide +kernel
theorem dX8_sitsBy_31 : decode cX8_sitsBy 31 = .ok (.bipush 51, 2) := by decide +kernel
theorem dX8_sitsBy_33 : decode cX8_sitsBy 33 = .ok (.invokevirtual 272, 3) := by decide +kernel
theorem dX8_sitsBy_36 : decode cX8_sitsBy 36 = .ok (.iload_n 3, 1) := by decide +kernel
theorem dX8_sitsBy_37 : decode cX8_sitsBy 37 = .ok (.iconst 1, 1) := by decide +kernel
theorem dX8_sitsBy_38 : decode cX8_sitsBy 38 = .ok (.if_icmp .eq 8, 3) := by decide +kernel
theorem dX8_sitsBy_41 : decode cX8_sitsBy 41 = .ok (.iload_n 3, 1) := by decide +kernel
theorem dX8_sitsBy_42 : decode cX8_sitsBy 42 = .ok (.iconst 3, 1) := by decide +kernel
theorem dX8_sitsBy_43 : decode cX8_sitsBy 43 = .ok (.if_icmp .ne 9, 3) := by decide +kernel
theorem dX8_sitsBy_46 : decode cX8_sitsBy 46 = .ok (.aload_n 0, 1) := by decide +kernel
theorem dX8_sitsBy_47 : decode cX8_sitsBy 47 = .ok (.bipush 20, 2) := by decide +kernel
theorem dX8_sitsBy_49 : decode cX8_sitsBy 49 = .ok (.invokevirtual 272, 3) := by decide +kernel
theorem dX8_sitsBy_52 : decode cX8_sitsBy 52 = .ok (.aload_n 0, 1) := by decide +kernel
theorem dX8_sitsBy_53 : decode cX8_sitsBy 53 = .ok (.bipush 10, 2) := by decide +kernel
theorem dX8_sitsBy_55 : decode cX8_sitsBy 55 = .ok (.invokevirtual 272, 3) := by decide +kernel
theorem dX8_sitsBy_58 : decode cX8_sitsBy 58 = .ok (.iload_n 2, 1) := by decide +kernel
theorem dX8_sitsBy_59 : decode cX8_sitsBy 59 = .ok (.iload_n 1, 1) := by decide +kernel
theorem dX8_sitsBy_60 : decode cX8_sitsBy 60 = .ok (.iadd, 1) := by decide +kernel
theorem dX8_sitsBy_61 : decode cX8_sitsBy 61 = .ok (.istore 4, 2) := by decide +kernel
theorem dX8_sitsBy_63 : decode cX8_sitsBy 63 = .ok (.iload_n 3, 1) := by decide +kernel
theorem dX8_sitsBy_64 : decode cX8_sitsBy 64 = .ok (.iconst 1, 1) := by decide +kernel
theorem dX8_sitsBy_65 : decode cX8_sitsBy 65 = .ok (.if_icmp .eq 8, 3) := by decide +kernel
theorem dX8_sitsBy_68 : decode cX8_sitsBy 68 = .ok (.iload_n 3, 1) := by decide +kernel
theorem dX8_sitsBy_69 : decode cX8_sitsBy 69 = .ok (.iconst 3, 1) := by decide +kernel
theorem dX8_sitsBy_70 : decode cX8_sitsBy 70 = .ok (.if_icmp .ne 13, 3) := by decide +kernel
theorem dX8_sitsBy_73 : decode cX8_sitsBy 73 = .ok (.iload 4, 2) := by decide +kernel
theorem dX8_sitsBy_75 : decode cX8_sitsBy 75 = .ok (.aload_n 0, 1) := by decide +kernel
theorem dX8_sitsBy_76 : decode cX8_sitsBy 76 = .ok (.getfield 29, 3) := by decide +kernel
theorem dX8_sitsBy_79 : decode cX8_sitsBy 79 = .ok (.iload_n 1, 1) := by decide +kernel
theorem dX8_sitsBy_80 : decode cX8_sitsBy 80 = .ok (.iaload, 1) := by decide +kernel
theorem dX8_sitsBy_81 : decode cX8_sitsBy 81 = .ok (.iadd, 1) := by decide +kernel
theorem dX8_sitsBy_82 : decode cX8_sitsBy 82 = .ok (.ireturn, 1) := by decide +kernel
theorem dX8_sitsBy_83 : decode cX8_sitsBy 83 = .ok (.iload_n 3, 1) := by decide +kernel
theorem dX8_sitsBy_84 : decode cX8_sitsBy 84 = .ok (.iconst 4, 1) := by decide +kernel
theorem dX8_sitsBy_85 : decode cX8_sitsBy 85 = .ok (.if_icmp .ne 10, 3) := by decide +kernel
theorem dX8_sitsBy_88 : decode cX8_sitsBy 88 = .ok (.iload 4, 2) := by decide +kernel
theorem dX8_sitsBy_90 : decode cX8_sitsBy 90 = .ok (.iload_n 1, 1) := by decide +kernel
theorem dX8_sitsBy_91 : decode cX8_sitsBy 91 = .ok (.isub, 1) := by decide +kernel
theorem dX8_sitsBy_92 : decode cX8_sitsBy 92 = .ok (.goto 20, 3) := by decide +kernel
theorem dX8_sitsBy_95 : decode cX8_sitsBy 95 = .ok (.iload_n 3, 1) := by decide +kernel
theorem dX8_sitsBy_96 : decode cX8_sitsBy 96 = .ok (.bipush 6, 2) := by decide +kernel
theorem dX8_sitsBy_98 : decode cX8_sitsBy 98 = .ok (.if_icmp .ne 12, 3) := by decide +kernel
theorem dX8_sitsBy_101 : decode cX8_sitsBy 101 = .ok (.iload 4, 2) := by decide +kernel
theorem dX8_sitsBy_103 : decode cX8_sitsBy 103 = .ok (.iload_n 1, 1) := by decide +kernel
theorem dX8_sitsBy_104 : decode cX8_sitsBy 104 = .ok (.isub, 1) := by decide +kernel
theorem dX8_sitsBy_105 : decode cX8_sitsBy 105 = .ok (.iconst 2, 1) := by decide +kernel
theorem dX8_sitsBy_106 : decode cX8_sitsBy 106 = .ok (.imul, 1) := by decide +kernel
theorem dX8_sitsBy_107 : decode cX8_sitsBy 107 = .ok (.goto 5, 3) := by decide +kernel
theorem dX8_sitsBy_110 : decode cX8_sitsBy 110 = .ok (.iload 4, 2) := by decide +kernel
theorem dX8_sitsBy_112 : decode cX8_sitsBy 112 = .ok (.ireturn, 1) := by decide +kernel
theorem dX8_pullsBy_0 : decode cX8_pullsBy 0 = .ok (.aload_n 0, 1) := by decide +kernel
theorem dX8_pullsBy_1 : decode cX8_pullsBy 1 = .ok (.getfield 26, 3) := by decide +kernel
theorem dX8_pullsBy_4 : decode cX8_pullsBy 4 = .ok (.iload_n 1, 1) := by decide +kernel
theorem dX8_pullsBy_5 : decode cX8_pullsBy 5 = .ok (.iaload, 1) := by decide +kernel
theorem dX8_pullsBy_6 : decode cX8_pullsBy 6 = .ok (.istore_n 3, 1) := by decide +kernel
theorem dX8_pullsBy_7 : decode cX8_pullsBy 7 = .ok (.iload_n 2, 1) := by decide +kernel
theorem dX8_pullsBy_8 : decode cX8_pullsBy 8 = .ok (.istore 4, 2) := by decide +kernel
theorem dX8_pullsBy_10 : decode cX8_pullsBy 10 = .ok (.iload_n 3, 1) := by decide +kernel
theorem dX8_pullsBy_11 : decode cX8_pullsBy 11 = .ok (.bipush 6, 2) := by decide +kernel
theorem dX8_pullsBy_13 : decode cX8_pullsBy 13 = .ok (.if_icmp .ne 19, 3) := by decide +kernel
theorem dX8_pullsBy_16 : decode cX8_pullsBy 16 = .ok (.aload_n 0, 1) := by decide +kernel
theorem dX8_pullsBy_17 : decode cX8_pullsBy 17 = .ok (.bipush 71, 2) := by decide +kernel
theorem dX8_pullsBy_19 : decode cX8_pullsBy 19 = .ok (.invokevirtual 272, 3) := by decide +kernel
theorem dX8_pullsBy_22 : decode cX8_pullsBy 22 = .ok (.iload_n 2, 1) := by decide +kernel
theorem dX8_pullsBy_23 : decode cX8_pullsBy 23 = .ok (.aload_n 0, 1) := by decide +kernel
theorem dX8_pullsBy_24 : decode cX8_pullsBy 24 = .ok (.getfield 29, 3) := by decide +kernel
theorem dX8_pullsBy_27 : decode cX8_pullsBy 27 = .ok (.iload_n 1, 1) := by decide +kernel
theorem dX8_pullsBy_28 : decode cX8_pullsBy 28 = .ok (.iaload, 1) := by decide +kernel
theorem dX8_pullsBy_29 : decode cX8_pullsBy 29 = .ok (.isub, 1) := by decide +kernel
theorem dX8_pullsBy_30 : decode cX8_pullsBy 30 = .ok (.istore 4, 2) := by decide +kernel
theorem dX8_pullsBy_32 : decode cX8_pullsBy 32 = .ok (.iload_n 3, 1) := by decide +kernel
theorem dX8_pullsBy_33 : decode cX8_pullsBy 33 = .ok (.iconst 3, 1) := by decide +kernel
theorem dX8_pullsBy_34 : decode cX8_pullsBy 34 = .ok (.if_icmp .ne 14, 3) := by decide +kernel
theorem dX8_pullsBy_37 : decode cX8_pullsBy 37 = .ok (.aload_n 0, 1) := by decide +kernel
theorem dX8_pullsBy_38 : decode cX8_pullsBy 38 = .ok (.bipush 40, 2) := by decide +kernel
theorem dX8_pullsBy_40 : decode cX8_pullsBy 40 = .ok (.invokevirtual 272, 3) := by decide +kernel
theorem dX8_pullsBy_43 : decode cX8_pullsBy 43 = .ok (.iload_n 2, 1) := by decide +kernel
theorem dX8_pullsBy_44 : decode cX8_pullsBy 44 = .ok (.iconst 1, 1) := by decide +kernel
theorem dX8_pullsBy_45 : decode cX8_pullsBy 45 = .ok (.iadd, 1) := by decide +kernel
theorem dX8_pullsBy_46 : decode cX8_pullsBy 46 = .ok (.istore 4, 2) := by decide +kernel
theorem dX8_pullsBy_48 : decode cX8_pullsBy 48 = .ok (.iload_n 3, 1) := by decide +kernel
theorem dX8_pullsBy_49 : decode cX8_pullsBy 49 = .ok (.iconst 2, 1) := by decide +kernel
theorem dX8_pullsBy_50 : decode cX8_pullsBy 50 = .ok (.if_icmp .eq 8, 3) := by decide +kernel
theorem dX8_pullsBy_53 : decode cX8_pullsBy 53 = .ok (.iload_n 3, 1) := by decide +kernel
theorem dX8_pullsBy_54 : decode cX8_pullsBy 54 = .ok (.iconst 5, 1) := by decide +kernel
theorem dX8_pullsBy_55 : decode cX8_pullsBy 55 = .ok (.if_icmp .ne 9, 3) := by decide +kernel
theorem dX8_pullsBy_58 : decode cX8_pullsBy 58 = .ok (.aload_n 0, 1) := by decide +kernel
theorem dX8_pullsBy_59 : decode cX8_pullsBy 59 = .ok (.bipush 30, 2) := by decide +kernel
theorem dX8_pullsBy_61 : decode cX8_pullsBy 61 = .ok (.invokevirtual 272, 3) := by decide +kernel
theorem dX8_pullsBy_64 : decode cX8_pullsBy 64 = .ok (.aload_n 0, 1) := by decide +kernel
theorem dX8_pullsBy_65 : decode cX8_pullsBy 65 = .ok (.bipush 11, 2) := by decide +kernel
theorem dX8_pullsBy_67 : decode cX8_pullsBy 67 = .ok (.invokevirtual 272, 3) := by decide +kernel
theorem dX8_pullsBy_70 : decode cX8_pullsBy 70 = .ok (.aload_n 0, 1) := by decide +kernel
theorem dX8_pullsBy_71 : decode cX8_pullsBy 71 = .ok (.iload_n 1, 1) := by decide +kernel
theorem dX8_pullsBy_72 : decode cX8_pullsBy 72 = .ok (.iload 4, 2) := by decide +kernel
theorem dX8_pullsBy_74 : decode cX8_pullsBy 74 = .ok (.invokevirtual 275, 3) := by decide +kernel
theorem dX8_pullsBy_77 : decode cX8_pullsBy 77 = .ok (.iconst 2, 1) := by decide +kernel
theorem dX8_pullsBy_78 : decode cX8_pullsBy 78 = .ok (.imul, 1) := by decide +kernel
theorem dX8_pullsBy_79 : decode cX8_pullsBy 79 = .ok (.istore 5, 2) := by decide +kernel
theorem dX8_pullsBy_81 : decode cX8_pullsBy 81 = .ok (.iload_n 3, 1) := by decide +kernel
theorem dX8_pullsBy_82 : decode cX8_pullsBy 82 = .ok (.iconst 2, 1) := by decide +kernel
theorem dX8_pullsBy_83 : decode cX8_pullsBy 83 = .ok (.if_icmp .eq 8, 3) := by decide +kernel
theorem dX8_pullsBy_86 : decode cX8_pullsBy 86 = .ok (.iload_n 3, 1) := by decide +kernel
theorem dX8_pullsBy_87 : decode cX8_pullsBy 87 = .ok (.iconst 5, 1) := by decide +kernel
theorem dX8_pullsBy_88 : decode cX8_pullsBy 88 = .ok (.if_icmp .ne 10, 3) := by decide +kernel
theorem dX8_pullsBy_91 : decode cX8_pullsBy 91 = .ok (.iload 5, 2) := by decide +kernel
theorem dX8_pullsBy_93 : decode cX8_pullsBy 93 = .ok (.iconst 3, 1) := by decide +kernel
theorem dX8_pullsBy_94 : decode cX8_pullsBy 94 = .ok (.imul, 1) := by decide +kernel
theorem dX8_pullsBy_95 : decode cX8_pullsBy 95 = .ok (.goto 5, 3) := by decide +kernel
theorem dX8_pullsBy_98 : decode cX8_pullsBy 98 = .ok (.iload 5, 2) := by decide +kernel
theorem dX8_pullsBy_100 : decode cX8_pullsBy 100 = .ok (.ireturn, 1) := by decide +kernel
theorem dX8_fadesBy_0 : decode cX8_fadesBy 0 = .ok (.aload_n 0, 1) := by decide +kernel
theorem dX8_fadesBy_1 : decode cX8_fadesBy 1 = .ok (.getfield 26, 3) := by decide +kernel
theorem dX8_fadesBy_4 : decode cX8_fadesBy 4 = .ok (.iload_n 1, 1) := by decide +kernel
theorem dX8_fadesBy_5 : decode cX8_fadesBy 5 = .ok (.iaload, 1) := by decide +kernel
theorem dX8_fadesBy_6 : decode cX8_fadesBy 6 = .ok (.istore_n 3, 1) := by decide +kernel
theorem dX8_fadesBy_7 : decode cX8_fadesBy 7 = .ok (.iload_n 3, 1) := by decide +kernel
theorem dX8_fadesBy_8 : decode cX8_fadesBy 8 = .ok (.iconst 4, 1) := by decide +kernel
theorem dX8_fadesBy_9 : decode cX8_fadesBy 9 = .ok (.if_icmp .eq 9, 3) := by decide +kernel
theorem dX8_fadesBy_12 : decode cX8_fadesBy 12 = .ok (.iload_n 3, 1) := by decide +kernel
theorem dX8_fadesBy_13 : decode cX8_fadesBy 13 = .ok (.bipush 6, 2) := by decide +kernel
theorem dX8_fadesBy_15 : decode cX8_fadesBy 15 = .ok (.if_icmp .ne 9, 3) := by decide +kernel
theorem dX8_fadesBy_18 : decode cX8_fadesBy 18 = .ok (.aload_n 0, 1) := by decide +kernel
theorem dX8_fadesBy_19 : decode cX8_fadesBy 19 = .ok (.bipush 50, 2) := by decide +kernel
theorem dX8_fadesBy_21 : decode cX8_fadesBy 21 = .ok (.invokevirtual 272, 3) := by decide +kernel
theorem dX8_fadesBy_24 : decode cX8_fadesBy 24 = .ok (.iload_n 3, 1) := by decide +kernel
theorem dX8_fadesBy_25 : decode cX8_fadesBy 25 = .ok (.iconst 5, 1) := by decide +kernel
theorem dX8_fadesBy_26 : decode cX8_fadesBy 26 = .ok (.if_icmp .ne 9, 3) := by decide +kernel
theorem dX8_fadesBy_29 : decode cX8_fadesBy 29 = .ok (.aload_n 0, 1) := by decide +kernel
theorem dX8_fadesBy_30 : decode cX8_fadesBy 30 = .ok (.bipush 60, 2) := by decide +kernel
theorem dX8_fadesBy_32 : decode cX8_fadesBy 32 = .ok (.invokevirtual 272, 3) := by decide +kernel
theorem dX8_fadesBy_35 : decode cX8_fadesBy 35 = .ok (.aload_n 0, 1) := by decide +kernel
theorem dX8_fadesBy_36 : decode cX8_fadesBy 36 = .ok (.bipush 12, 2) := by decide +kernel
theorem dX8_fadesBy_38 : decode cX8_fadesBy 38 = .ok (.invokevirtual 272, 3) := by decide +kernel
theorem dX8_fadesBy_41 : decode cX8_fadesBy 41 = .ok (.aload_n 0, 1) := by decide +kernel
theorem dX8_fadesBy_42 : decode cX8_fadesBy 42 = .ok (.iload_n 1, 1) := by decide +kernel
theorem dX8_fadesBy_43 : decode cX8_fadesBy 43 = .ok (.iload_n 2, 1) := by decide +kernel
theorem dX8_fadesBy_44 : decode cX8_fadesBy 44 = .ok (.invokevirtual 278, 3) := by decide +kernel
theorem dX8_fadesBy_47 : decode cX8_fadesBy 47 = .ok (.istore 4, 2) := by decide +kernel
theorem dX8_fadesBy_49 : decode cX8_fadesBy 49 = .ok (.iload 4, 2) := by decide +kernel
theorem dX8_fadesBy_51 : decode cX8_fadesBy 51 = .ok (.aload_n 0, 1) := by decide +kernel
theorem dX8_fadesBy_52 : decode cX8_fadesBy 52 = .ok (.iload_n 1, 1) := by decide +kernel
theorem dX8_fadesBy_53 : decode cX8_fadesBy 53 = .ok (.iload_n 2, 1) := by decide +kernel
theorem dX8_fadesBy_54 : decode cX8_fadesBy 54 = .ok (.aload_n 0, 1) := by decide +kernel
theorem dX8_fadesBy_55 : decode cX8_fadesBy 55 = .ok (.getfield 29, 3) := by decide +kernel
theorem dX8_fadesBy_58 : decode cX8_fadesBy 58 = .ok (.iload_n 1, 1) := by decide +kernel
theorem dX8_fadesBy_59 : decode cX8_fadesBy 59 = .ok (.iaload, 1) := by decide +kernel
theorem dX8_fadesBy_60 : decode cX8_fadesBy 60 = .ok (.isub, 1) := by decide +kernel
theorem dX8_fadesBy_61 : decode cX8_fadesBy 61 = .ok (.invokevirtual 275, 3) := by decide +kernel
theorem dX8_fadesBy_64 : decode cX8_fadesBy 64 = .ok (.ixor, 1) := by decide +kernel
theorem dX8_fadesBy_65 : decode cX8_fadesBy 65 = .ok (.istore 5, 2) := by decide +kernel
theorem dX8_fadesBy_67 : decode cX8_fadesBy 67 = .ok (.iload_n 3, 1) := by decide +kernel
theorem dX8_fadesBy_68 : decode cX8_fadesBy 68 = .ok (.iconst 4, 1) := by decide +kernel
theorem dX8_fadesBy_69 : decode cX8_fadesBy 69 = .ok (.if_icmp .eq 9, 3) := by decide +kernel
theorem dX8_fadesBy_72 : decode cX8_fadesBy 72 = .ok (.iload_n 3, 1) := by decide +kernel
theorem dX8_fadesBy_73 : decode cX8_fadesBy 73 = .ok (.bipush 6, 2) := by decide +kernel
theorem dX8_fadesBy_75 : decode cX8_fadesBy 75 = .ok (.if_icmp .ne 9, 3) := by decide +kernel
theorem dX8_fadesBy_78 : decode cX8_fadesBy 78 = .ok (.iload 5, 2) := by decide +kernel
theorem dX8_fadesBy_80 : decode cX8_fadesBy 80 = .ok (.ineg, 1) := by decide +kernel
theorem dX8_fadesBy_81 : decode cX8_fadesBy 81 = .ok (.goto 17, 3) := by decide +kernel
theorem dX8_fadesBy_84 : decode cX8_fadesBy 84 = .ok (.iload_n 3, 1) := by decide +kernel
theorem dX8_fadesBy_85 : decode cX8_fadesBy 85 = .ok (.iconst 5, 1) := by decide +kernel
theorem dX8_fadesBy_86 : decode cX8_fadesBy 86 = .ok (.if_icmp .ne 10, 3) := by decide +kernel
theorem dX8_fadesBy_89 : decode cX8_fadesBy 89 = .ok (.iload 5, 2) := by decide +kernel
theorem dX8_fadesBy_91 : decode cX8_fadesBy 91 = .ok (.iconst 5, 1) := by decide +kernel
theorem dX8_fadesBy_92 : decode cX8_fadesBy 92 = .ok (.ixor, 1) := by decide +kernel
theorem dX8_fadesBy_93 : decode cX8_fadesBy 93 = .ok (.goto 5, 3) := by decide +kernel
theorem dX8_fadesBy_96 : decode cX8_fadesBy 96 = .ok (.iload 5, 2) := by decide +kernel
theorem dX8_fadesBy_98 : decode cX8_fadesBy 98 = .ok (.ireturn, 1) := by decide +kernel
theorem dX8_act_0 : decode cX8_act 0 = .ok (.aload_n 0, 1) := by decide +kernel
theorem dX8_act_1 : decode cX8_act 1 = .ok (.iconst 0, 1) := by decide +kernel
theorem dX8_act_2 : decode cX8_act 2 = .ok (.putfield 269, 3) := by decide +kernel
theorem dX8_act_5 : decode cX8_act 5 = .ok (.aload_n 0, 1) := by decide +kernel
theorem dX8_act_6 : decode cX8_act 6 = .ok (.iload_n 1, 1) := by decide +kernel
theorem dX8_act_7 : decode cX8_act 7 = .ok (.invokevirtual 93, 3) := by decide +kernel
theorem dX8_act_10 : decode cX8_act 10 = .ok (.ifCond .eq 12, 3) := by decide +kernel
theorem dX8_act_13 : decode cX8_act 13 = .ok (.iload_n 2, 1) := by decide +kernel
theorem dX8_act_14 : decode cX8_act 14 = .ok (.iconst 0, 1) := by decide +kernel
theorem dX8_act_15 : decode cX8_act 15 = .ok (.iconst 2, 1) := by decide +kernel
theorem dX8_act_16 : decode cX8_act 16 = .ok (.invokestatic 79, 3) := by decide +kernel
theorem dX8_act_19 : decode cX8_act 19 = .ok (.ifCond .ne 5, 3) := by decide +kernel
theorem dX8_act_22 : decode cX8_act 22 = .ok (.iconst 0, 1) := by decide +kernel
theorem dX8_act_23 : decode cX8_act 23 = .ok (.ireturn, 1) := by decide +kernel
theorem dX8_act_24 : decode cX8_act 24 = .ok (.iload_n 2, 1) := by decide +kernel
theorem dX8_act_25 : decode cX8_act 25 = .ok (.ifCond .ne 12, 3) := by decide +kernel
theorem dX8_act_28 : decode cX8_act 28 = .ok (.aload_n 0, 1) := by decide +kernel
theorem dX8_act_29 : decode cX8_act 29 = .ok (.iload_n 1, 1) := by decide +kernel
theorem dX8_act_30 : decode cX8_act 30 = .ok (.iload_n 3, 1) := by decide +kernel
theorem dX8_act_31 : decode cX8_act 31 = .ok (.invokevirtual 275, 3) := by decide +kernel
theorem dX8_act_34 : decode cX8_act 34 = .ok (.goto 23, 3) := by decide +kernel
theorem dX8_act_37 : decode cX8_act 37 = .ok (.iload_n 2, 1) := by decide +kernel
theorem dX8_act_38 : decode cX8_act 38 = .ok (.iconst 1, 1) := by decide +kernel
theorem dX8_act_39 : decode cX8_act 39 = .ok (.if_icmp .ne 12, 3) := by decide +kernel
theorem dX8_act_42 : decode cX8_act 42 = .ok (.aload_n 0, 1) := by decide +kernel
theorem dX8_act_43 : decode cX8_act 43 = .ok (.iload_n 1, 1) := by decide +kernel
theorem dX8_act_44 : decode cX8_act 44 = .ok (.iload_n 3, 1) := by decide +kernel
theorem dX8_act_45 : decode cX8_act 45 = .ok (.invokevirtual 278, 3) := by decide +kernel
theorem dX8_act_48 : decode cX8_act 48 = .ok (.goto 9, 3) := by decide +kernel
theorem dX8_act_51 : decode cX8_act 51 = .ok (.aload_n 0, 1) := by decide +kernel
theorem dX8_act_52 : decode cX8_act 52 = .ok (.iload_n 1, 1) := by decide +kernel
theorem dX8_act_53 : decode cX8_act 53 = .ok (.iload_n 3, 1) := by decide +kernel
theorem dX8_act_54 : decode cX8_act 54 = .ok (.invokevirtual 281, 3) := by decide +kernel
theorem dX8_act_57 : decode cX8_act 57 = .ok (.ireturn, 1) := by decide +kernel
theorem dX8_trace_0 : decode cX8_trace 0 = .ok (.iload_n 1, 1) := by decide +kernel
theorem dX8_trace_1 : decode cX8_trace 1 = .ok (.ifCond .lt 26, 3) := by decide +kernel
theorem dX8_trace_4 : decode cX8_trace 4 = .ok (.iload_n 1, 1) := by decide +kernel
theorem dX8_trace_5 : decode cX8_trace 5 = .ok (.aload_n 0, 1) := by decide +kernel
theorem dX8_trace_6 : decode cX8_trace 6 = .ok (.getfield 269, 3) := by decide +kernel
theorem dX8_trace_9 : decode cX8_trace 9 = .ok (.if_icmp .ge 18, 3) := by decide +kernel
theorem dX8_trace_12 : decode cX8_trace 12 = .ok (.iload_n 1, 1) := by decide +kernel
theorem dX8_trace_13 : decode cX8_trace 13 = .ok (.bipush 20, 2) := by decide +kernel
theorem dX8_trace_15 : decode cX8_trace 15 = .ok (.if_icmp .ge 12, 3) := by decide +kernel
theorem dX8_trace_18 : decode cX8_trace 18 = .ok (.aload_n 0, 1) := by decide +kernel
theorem dX8_trace_19 : decode cX8_trace 19 = .ok (.getfield 44, 3) := by decide +kernel
theorem dX8_trace_22 : decode cX8_trace 22 = .ok (.iload_n 1, 1) := by decide +kernel
theorem dX8_trace_23 : decode cX8_trace 23 = .ok (.iaload, 1) := by decide +kernel
theorem dX8_trace_24 : decode cX8_trace 24 = .ok (.goto 4, 3) := by decide +kernel
theorem dX8_trace_27 : decode cX8_trace 27 = .ok (.iconst (-1), 1) := by decide +kernel
theorem dX8_trace_28 : decode cX8_trace 28 = .ok (.ireturn, 1) := by decide +kernel
theorem dX8_keep_0 : decode cX8_keep 0 = .ok (.iconst 0, 1) := by decide +kernel
theorem dX8_keep_1 : decode cX8_keep 1 = .ok (.istore_n 2, 1) := by decide +kernel
theorem dX8_keep_2 : decode cX8_keep 2 = .ok (.iload_n 2, 1) := by decide +kernel
theorem dX8_keep_3 : decode cX8_keep 3 = .ok (.bipush 8, 2) := by decide +kernel
theorem dX8_keep_5 : decode cX8_keep 5 = .ok (.if_icmp .ge 42, 3) := by decide +kernel
theorem dX8_keep_8 : decode cX8_keep 8 = .ok (.aload_n 1, 1) := by decide +kernel
theorem dX8_keep_9 : decode cX8_keep 9 = .ok (.iload_n 2, 1) := by decide +kernel
theorem dX8_keep_10 : decode cX8_keep 10 = .ok (.aload_n 0, 1) := by decide +kernel
theorem dX8_keep_11 : decode cX8_keep 11 = .ok (.getfield 26, 3) := by decide +kernel
theorem dX8_keep_14 : decode cX8_keep 14 = .ok (.iload_n 2, 1) := by decide +kernel
theorem dX8_keep_15 : decode cX8_keep 15 = .ok (.iaload, 1) := by decide +kernel
theorem dX8_keep_16 : decode cX8_keep 16 = .ok (.iastore, 1) := by decide +kernel
theorem dX8_keep_17 : decode cX8_keep 17 = .ok (.aload_n 1, 1) := by decide +kernel
theorem dX8_keep_18 : decode cX8_keep 18 = .ok (.bipush 8, 2) := by decide +kernel
theorem dX8_keep_20 : decode cX8_keep 20 = .ok (.iload_n 2, 1) := by decide +kernel
theorem dX8_keep_21 : decode cX8_keep 21 = .ok (.iadd, 1) := by decide +kernel
theorem dX8_keep_22 : decode cX8_keep 22 = .ok (.aload_n 0, 1) := by decide +kernel
theorem dX8_keep_23 : decode cX8_keep 23 = .ok (.getfield 29, 3) := by decide +kernel
theorem dX8_keep_26 : decode cX8_keep 26 = .ok (.iload_n 2, 1) := by decide +kernel
theorem dX8_keep_27 : decode cX8_keep 27 = .ok (.iaload, 1) := by decide +kernel
theorem dX8_keep_28 : decode cX8_keep 28 = .ok (.iastore, 1) := by decide +kernel
theorem dX8_keep_29 : decode cX8_keep 29 = .ok (.aload_n 1, 1) := by decide +kernel
theorem dX8_keep_30 : decode cX8_keep 30 = .ok (.bipush 16, 2) := by decide +kernel
theorem dX8_keep_32 : decode cX8_keep 32 = .ok (.iload_n 2, 1) := by decide +kernel
theorem dX8_keep_33 : decode cX8_keep 33 = .ok (.iadd, 1) := by decide +kernel
theorem dX8_keep_34 : decode cX8_keep 34 = .ok (.aload_n 0, 1) := by decide +kernel
theorem dX8_keep_35 : decode cX8_keep 35 = .ok (.getfield 32, 3) := by decide +kernel
theorem dX8_keep_38 : decode cX8_keep 38 = .ok (.iload_n 2, 1) := by decide +kernel
theorem dX8_keep_39 : decode cX8_keep 39 = .ok (.iaload, 1) := by decide +kernel
theorem dX8_keep_40 : decode cX8_keep 40 = .ok (.iastore, 1) := by decide +kernel
theorem dX8_keep_41 : decode cX8_keep 41 = .ok (.iinc 2 1, 3) := by decide +kernel
theorem dX8_keep_44 : decode cX8_keep 44 = .ok (.goto (-42), 3) := by decide +kernel
theorem dX8_keep_47 : decode cX8_keep 47 = .ok (.iconst 0, 1) := by decide +kernel
theorem dX8_keep_48 : decode cX8_keep 48 = .ok (.istore_n 2, 1) := by decide +kernel
theorem dX8_keep_49 : decode cX8_keep 49 = .ok (.iload_n 2, 1) := by decide +kernel
theorem dX8_keep_50 : decode cX8_keep 50 = .ok (.bipush 96, 2) := by decide +kernel
theorem dX8_keep_52 : decode cX8_keep 52 = .ok (.if_icmp .ge 33, 3) := by decide +kernel
theorem dX8_keep_55 : decode cX8_keep 55 = .ok (.aload_n 1, 1) := by decide +kernel
theorem dX8_keep_56 : decode cX8_keep 56 = .ok (.bipush 24, 2) := by decide +kernel
theorem dX8_keep_58 : decode cX8_keep 58 = .ok (.iload_n 2, 1) := by decide +kernel
theorem dX8_keep_59 : decode cX8_keep 59 = .ok (.iadd, 1) := by decide +kernel
theorem dX8_keep_60 : decode cX8_keep 60 = .ok (.aload_n 0, 1) := by decide +kernel
theorem dX8_keep_61 : decode cX8_keep 61 = .ok (.getfield 35, 3) := by decide +kernel
theorem dX8_keep_64 : decode cX8_keep 64 = .ok (.iload_n 2, 1) := by decide +kernel
theorem dX8_keep_65 : decode cX8_keep 65 = .ok (.iaload, 1) := by decide +kernel
theorem dX8_keep_66 : decode cX8_keep 66 = .ok (.iastore, 1) := by decide +kernel
theorem dX8_keep_67 : decode cX8_keep 67 = .ok (.aload_n 1, 1) := by decide +kernel
theorem dX8_keep_68 : decode cX8_keep 68 = .ok (.bipush 120, 2) := by decide +kernel
theorem dX8_keep_70 : decode cX8_keep 70 = .ok (.iload_n 2, 1) := by decide +kernel
theorem dX8_keep_71 : decode cX8_keep 71 = .ok (.iadd, 1) := by decide +kernel
theorem dX8_keep_72 : decode cX8_keep 72 = .ok (.aload_n 0, 1) := by decide +kernel
theorem dX8_keep_73 : decode cX8_keep 73 = .ok (.getfield 38, 3) := by decide +kernel
theorem dX8_keep_76 : decode cX8_keep 76 = .ok (.iload_n 2, 1) := by decide +kernel
theorem dX8_keep_77 : decode cX8_keep 77 = .ok (.iaload, 1) := by decide +kernel
theorem dX8_keep_78 : decode cX8_keep 78 = .ok (.iastore, 1) := by decide +kernel
theorem dX8_keep_79 : decode cX8_keep 79 = .ok (.iinc 2 1, 3) := by decide +kernel
theorem dX8_keep_82 : decode cX8_keep 82 = .ok (.goto (-33), 3) := by decide +kernel
theorem dX8_keep_85 : decode cX8_keep 85 = .ok (.iconst 0, 1) := by decide +kernel
theorem dX8_keep_86 : decode cX8_keep 86 = .ok (.istore_n 2, 1) := by decide +kernel
theorem dX8_keep_87 : decode cX8_keep 87 = .ok (.iload_n 2, 1) := by decide +kernel
theorem dX8_keep_88 : decode cX8_keep 88 = .ok (.bipush 72, 2) := by decide +kernel
theorem dX8_keep_90 : decode cX8_keep 90 = .ok (.if_icmp .ge 22, 3) := by decide +kernel
theorem dX8_keep_93 : decode cX8_keep 93 = .ok (.aload_n 1, 1) := by decide +kernel
theorem dX8_keep_94 : decode cX8_keep 94 = .ok (.sipush 216, 3) := by decide +kernel
theorem dX8_keep_97 : decode cX8_keep 97 = .ok (.iload_n 2, 1) := by decide +kernel
theorem dX8_keep_98 : decode cX8_keep 98 = .ok (.iadd, 1) := by decide +kernel
theorem dX8_keep_99 : decode cX8_keep 99 = .ok (.aload_n 0, 1) := by decide +kernel
theorem dX8_keep_100 : decode cX8_keep 100 = .ok (.getfield 23, 3) := by decide +kernel
theorem dX8_keep_103 : decode cX8_keep 103 = .ok (.iload_n 2, 1) := by decide +kernel
theorem dX8_keep_104 : decode cX8_keep 104 = .ok (.iaload, 1) := by decide +kernel
theorem dX8_keep_105 : decode cX8_keep 105 = .ok (.iastore, 1) := by decide +kernel
theorem dX8_keep_106 : decode cX8_keep 106 = .ok (.iinc 2 1, 3) := by decide +kernel
theorem dX8_keep_109 : decode cX8_keep 109 = .ok (.goto (-22), 3) := by decide +kernel
theorem dX8_keep_112 : decode cX8_keep 112 = .ok (.iconst 0, 1) := by decide +kernel
theorem dX8_keep_113 : decode cX8_keep 113 = .ok (.istore_n 2, 1) := by decide +kernel
theorem dX8_keep_114 : decode cX8_keep 114 = .ok (.iload_n 2, 1) := by decide +kernel
theorem dX8_keep_115 : decode cX8_keep 115 = .ok (.bipush 6, 2) := by decide +kernel
theorem dX8_keep_117 : decode cX8_keep 117 = .ok (.if_icmp .ge 22, 3) := by decide +kernel
theorem dX8_keep_120 : decode cX8_keep 120 = .ok (.aload_n 1, 1) := by decide +kernel
theorem dX8_keep_121 : decode cX8_keep 121 = .ok (.sipush 288, 3) := by decide +kernel
theorem dX8_keep_124 : decode cX8_keep 124 = .ok (.iload_n 2, 1) := by decide +kernel
theorem dX8_keep_125 : decode cX8_keep 125 = .ok (.iadd, 1) := by decide +kernel
theorem dX8_keep_126 : decode cX8_keep 126 = .ok (.aload_n 0, 1) := by decide +kernel
theorem dX8_keep_127 : decode cX8_keep 127 = .ok (.getfield 20, 3) := by decide +kernel
theorem dX8_keep_130 : decode cX8_keep 130 = .ok (.iload_n 2, 1) := by decide +kernel
theorem dX8_keep_131 : decode cX8_keep 131 = .ok (.iaload, 1) := by decide +kernel
theorem dX8_keep_132 : decode cX8_keep 132 = .ok (.iastore, 1) := by decide +kernel
theorem dX8_keep_133 : decode cX8_keep 133 = .ok (.iinc 2 1, 3) := by decide +kernel
theorem dX8_keep_136 : decode cX8_keep 136 = .ok (.goto (-22), 3) := by decide +kernel
theorem dX8_keep_139 : decode cX8_keep 139 = .ok (.aload_n 1, 1) := by decide +kernel
theorem dX8_keep_140 : decode cX8_keep 140 = .ok (.sipush 294, 3) := by decide +kernel
theorem dX8_keep_143 : decode cX8_keep 143 = .ok (.aload_n 0, 1) := by decide +kernel
theorem dX8_keep_144 : decode cX8_keep 144 = .ok (.getfield 83, 3) := by decide +kernel
theorem dX8_keep_147 : decode cX8_keep 147 = .ok (.iastore, 1) := by decide +kernel
theorem dX8_keep_148 : decode cX8_keep 148 = .ok (.aload_n 1, 1) := by decide +kernel
theorem dX8_keep_149 : decode cX8_keep 149 = .ok (.sipush 295, 3) := by decide +kernel
theorem dX8_keep_152 : decode cX8_keep 152 = .ok (.aload_n 0, 1) := by decide +kernel
theorem dX8_keep_153 : decode cX8_keep 153 = .ok (.getfield 76, 3) := by decide +kernel
theorem dX8_keep_156 : decode cX8_keep 156 = .ok (.iastore, 1) := by decide +kernel
theorem dX8_keep_157 : decode cX8_keep 157 = .ok (.aload_n 1, 1) := by decide +kernel
theorem dX8_keep_158 : decode cX8_keep 158 = .ok (.sipush 296, 3) := by decide +kernel
theorem dX8_keep_161 : decode cX8_keep 161 = .ok (.aload_n 0, 1) := by decide +kernel
theorem dX8_keep_162 : decode cX8_keep 162 = .ok (.getfield 224, 3) := by decide +kernel
theorem dX8_keep_165 : decode cX8_keep 165 = .ok (.iastore, 1) := by decide +kernel
theorem dX8_keep_166 : decode cX8_keep 166 = .ok (.aload_n 1, 1) := by decide +kernel
theorem dX8_keep_167 : decode cX8_keep 167 = .ok (.sipush 297, 3) := by decide +kernel
theorem dX8_keep_170 : decode cX8_keep 170 = .ok (.aload_n 0, 1) := by decide +kernel
theorem dX8_keep_171 : decode cX8_keep 171 = .ok (.getfield 65, 3) := by decide +kernel
theorem dX8_keep_174 : decode cX8_keep 174 = .ok (.iastore, 1) := by decide +kernel
theorem dX8_keep_175 : decode cX8_keep 175 = .ok (.return_, 1) := by decide +kernel
theorem dX8_again_0 : decode cX8_again 0 = .ok (.iconst 0, 1) := by decide +kernel
theorem dX8_again_1 : decode cX8_again 1 = .ok (.istore_n 2, 1) := by decide +kernel
theorem dX8_again_2 : decode cX8_again 2 = .ok (.iload_n 2, 1) := by decide +kernel
theorem dX8_again_3 : decode cX8_again 3 = .ok (.bipush 8, 2) := by decide +kernel
theorem dX8_again_5 : decode cX8_again 5 = .ok (.if_icmp .ge 42, 3) := by decide +kernel
theorem dX8_again_8 : decode cX8_again 8 = .ok (.aload_n 0, 1) := by decide +kernel
theorem dX8_again_9 : decode cX8_again 9 = .ok (.getfield 26, 3) := by decide +kernel
theorem dX8_again_12 : decode cX8_again 12 = .ok (.iload_n 2, 1) := by decide +kernel
theorem dX8_again_13 : decode cX8_again 13 = .ok (.aload_n 1, 1) := by decide +kernel
theorem dX8_again_14 : decode cX8_again 14 = .ok (.iload_n 2, 1) := by decide +kernel
theorem dX8_again_15 : decode cX8_again 15 = .ok (.iaload, 1) := by decide +kernel
theorem dX8_again_16 : decode cX8_again 16 = .ok (.iastore, 1) := by decide +kernel
theorem dX8_again_17 : decode cX8_again 17 = .ok (.aload_n 0, 1) := by decide +kernel
theorem dX8_again_18 : decode cX8_again 18 = .ok (.getfield 29, 3) := by decide +kernel
theorem dX8_again_21 : decode cX8_again 21 = .ok (.iload_n 2, 1) := by decide +kernel
theorem dX8_again_22 : decode cX8_again 22 = .ok (.aload_n 1, 1) := by decide +kernel
theorem dX8_again_23 : decode cX8_again 23 = .ok (.bipush 8, 2) := by decide +kernel
theorem dX8_again_25 : decode cX8_again 25 = .ok (.iload_n 2, 1) := by decide +kernel
theorem dX8_again_26 : decode cX8_again 26 = .ok (.iadd, 1) := by decide +kernel
theorem dX8_again_27 : decode cX8_again 27 = .ok (.iaload, 1) := by decide +kernel
theorem dX8_again_28 : decode cX8_again 28 = .ok (.iastore, 1) := by decide +kernel
theorem dX8_again_29 : decode cX8_again 29 = .ok (.aload_n 0, 1) := by decide +kernel
theorem dX8_again_30 : decode cX8_again 30 = .ok (.getfield 32, 3) := by decide +kernel
theorem dX8_again_33 : decode cX8_again 33 = .ok (.iload_n 2, 1) := by decide +kernel
theorem dX8_again_34 : decode cX8_again 34 = .ok (.aload_n 1, 1) := by decide +kernel
theorem dX8_again_35 : decode cX8_again 35 = .ok (.bipush 16, 2) := by decide +kernel
theorem dX8_again_37 : decode cX8_again 37 = .ok (.iload_n 2, 1) := by decide +kernel
theorem dX8_again_38 : decode cX8_again 38 = .ok (.iadd, 1) := by decide +kernel
theorem dX8_again_39 : decode cX8_again 39 = .ok (.iaload, 1) := by decide +kernel
theorem dX8_again_40 : decode cX8_again 40 = .ok (.iastore, 1) := by decide +kernel
theorem dX8_again_41 : decode cX8_again 41 = .ok (.iinc 2 1, 3) := by decide +kernel
theorem dX8_again_44 : decode cX8_again 44 = .ok (.goto (-42), 3) := by decide +kernel
theorem dX8_again_47 : decode cX8_again 47 = .ok (.iconst 0, 1) := by decide +kernel
theorem dX8_again_48 : decode cX8_again 48 = .ok (.istore_n 2, 1) := by decide +kernel
theorem dX8_again_49 : decode cX8_again 49 = .ok (.iload_n 2, 1) := by decide +kernel
theorem dX8_again_50 : decode cX8_again 50 = .ok (.bipush 96, 2) := by decide +kernel
theorem dX8_again_52 : decode cX8_again 52 = .ok (.if_icmp .ge 33, 3) := by decide +kernel
theorem dX8_again_55 : decode cX8_again 55 = .ok (.aload_n 0, 1) := by decide +kernel
theorem dX8_again_56 : decode cX8_again 56 = .ok (.getfield 35, 3) := by decide +kernel
theorem dX8_again_59 : decode cX8_again 59 = .ok (.iload_n 2, 1) := by decide +kernel
theorem dX8_again_60 : decode cX8_again 60 = .ok (.aload_n 1, 1) := by decide +kernel
theorem dX8_again_61 : decode cX8_again 61 = .ok (.bipush 24, 2) := by decide +kernel
theorem dX8_again_63 : decode cX8_again 63 = .ok (.iload_n 2, 1) := by decide +kernel
theorem dX8_again_64 : decode cX8_again 64 = .ok (.iadd, 1) := by decide +kernel
theorem dX8_again_65 : decode cX8_again 65 = .ok (.iaload, 1) := by decide +kernel
theorem dX8_again_66 : decode cX8_again 66 = .ok (.iastore, 1) := by decide +kernel
theorem dX8_again_67 : decode cX8_again 67 = .ok (.aload_n 0, 1) := by decide +kernel
theorem dX8_again_68 : decode cX8_again 68 = .ok (.getfield 38, 3) := by decide +kernel
theorem dX8_again_71 : decode cX8_again 71 = .ok (.iload_n 2, 1) := by decide +kernel
theorem dX8_again_72 : decode cX8_again 72 = .ok (.aload_n 1, 1) := by decide +kernel
theorem dX8_again_73 : decode cX8_again 73 = .ok (.bipush 120, 2) := by decide +kernel
theorem dX8_again_75 : decode cX8_again 75 = .ok (.iload_n 2, 1) := by decide +kernel
theorem dX8_again_76 : decode cX8_again 76 = .ok (.iadd, 1) := by decide +kernel
theorem dX8_again_77 : decode cX8_again 77 = .ok (.iaload, 1) := by decide +kernel
theorem dX8_again_78 : decode cX8_again 78 = .ok (.iastore, 1) := by decide +kernel
theorem dX8_again_79 : decode cX8_again 79 = .ok (.iinc 2 1, 3) := by decide +kernel
theorem dX8_again_82 : decode cX8_again 82 = .ok (.goto (-33), 3) := by decide +kernel
theorem dX8_again_85 : decode cX8_again 85 = .ok (.iconst 0, 1) := by decide +kernel
theorem dX8_again_86 : decode cX8_again 86 = .ok (.istore_n 2, 1) := by decide +kernel
theorem dX8_again_87 : decode cX8_again 87 = .ok (.iload_n 2, 1) := by decide +kernel
theorem dX8_again_88 : decode cX8_again 88 = .ok (.bipush 72, 2) := by decide +kernel
theorem dX8_again_90 : decode cX8_again 90 = .ok (.if_icmp .ge 22, 3) := by decide +kernel
theorem dX8_again_93 : decode cX8_again 93 = .ok (.aload_n 0, 1) := by decide +kernel
theorem dX8_again_94 : decode cX8_again 94 = .ok (.getfield 23, 3) := by decide +kernel
theorem dX8_again_97 : decode cX8_again 97 = .ok (.iload_n 2, 1) := by decide +kernel
theorem dX8_again_98 : decode cX8_again 98 = .ok (.aload_n 1, 1) := by decide +kernel
theorem dX8_again_99 : decode cX8_again 99 = .ok (.sipush 216, 3) := by decide +kernel
theorem dX8_again_102 : decode cX8_again 102 = .ok (.iload_n 2, 1) := by decide +kernel
theorem dX8_again_103 : decode cX8_again 103 = .ok (.iadd, 1) := by decide +kernel
theorem dX8_again_104 : decode cX8_again 104 = .ok (.iaload, 1) := by decide +kernel
theorem dX8_again_105 : decode cX8_again 105 = .ok (.iastore, 1) := by decide +kernel
theorem dX8_again_106 : decode cX8_again 106 = .ok (.iinc 2 1, 3) := by decide +kernel
theorem dX8_again_109 : decode cX8_again 109 = .ok (.goto (-22), 3) := by decide +kernel
theorem dX8_again_112 : decode cX8_again 112 = .ok (.iconst 0, 1) := by decide +kernel
theorem dX8_again_113 : decode cX8_again 113 = .ok (.istore_n 2, 1) := by decide +kernel
theorem dX8_again_114 : decode cX8_again 114 = .ok (.iload_n 2, 1) := by decide +kernel
theorem dX8_again_115 : decode cX8_again 115 = .ok (.bipush 6, 2) := by decide +kernel
theorem dX8_again_117 : decode cX8_again 117 = .ok (.if_icmp .ge 22, 3) := by decide +kernel
theorem dX8_again_120 : decode cX8_again 120 = .ok (.aload_n 0, 1) := by decide +kernel
theorem dX8_again_121 : decode cX8_again 121 = .ok (.getfield 20, 3) := by decide +kernel
theorem dX8_again_124 : decode cX8_again 124 = .ok (.iload_n 2, 1) := by decide +kernel
theorem dX8_again_125 : decode cX8_again 125 = .ok (.aload_n 1, 1) := by decide +kernel
theorem dX8_again_126 : decode cX8_again 126 = .ok (.sipush 288, 3) := by decide +kernel
theorem dX8_again_129 : decode cX8_again 129 = .ok (.iload_n 2, 1) := by decide +kernel
theorem dX8_again_130 : decode cX8_again 130 = .ok (.iadd, 1) := by decide +kernel
theorem dX8_again_131 : decode cX8_again 131 = .ok (.iaload, 1) := by decide +kernel
theorem dX8_again_132 : decode cX8_again 132 = .ok (.iastore, 1) := by decide +kernel
theorem dX8_again_133 : decode cX8_again 133 = .ok (.iinc 2 1, 3) := by decide +kernel
theorem dX8_again_136 : decode cX8_again 136 = .ok (.goto (-22), 3) := by decide +kernel
theorem dX8_again_139 : decode cX8_again 139 = .ok (.aload_n 0, 1) := by decide +kernel
theorem dX8_again_140 : decode cX8_again 140 = .ok (.aload_n 1, 1) := by decide +kernel
theorem dX8_again_141 : decode cX8_again 141 = .ok (.sipush 294, 3) := by decide +kernel
theorem dX8_again_144 : decode cX8_again 144 = .ok (.iaload, 1) := by decide +kernel
theorem dX8_again_145 : decode cX8_again 145 = .ok (.putfield 83, 3) := by decide +kernel
theorem dX8_again_148 : decode cX8_again 148 = .ok (.aload_n 0, 1) := by decide +kernel
theorem dX8_again_149 : decode cX8_again 149 = .ok (.aload_n 1, 1) := by decide +kernel
theorem dX8_again_150 : decode cX8_again 150 = .ok (.sipush 295, 3) := by decide +kernel
theorem dX8_again_153 : decode cX8_again 153 = .ok (.iaload, 1) := by decide +kernel
theorem dX8_again_154 : decode cX8_again 154 = .ok (.putfield 76, 3) := by decide +kernel
theorem dX8_again_157 : decode cX8_again 157 = .ok (.aload_n 0, 1) := by decide +kernel
theorem dX8_again_158 : decode cX8_again 158 = .ok (.aload_n 1, 1) := by decide +kernel
theorem dX8_again_159 : decode cX8_again 159 = .ok (.sipush 296, 3) := by decide +kernel
theorem dX8_again_162 : decode cX8_again 162 = .ok (.iaload, 1) := by decide +kernel
theorem dX8_again_163 : decode cX8_again 163 = .ok (.putfield 224, 3) := by decide +kernel
theorem dX8_again_166 : decode cX8_again 166 = .ok (.aload_n 0, 1) := by decide +kernel
theorem dX8_again_167 : decode cX8_again 167 = .ok (.aload_n 1, 1) := by decide +kernel
theorem dX8_again_168 : decode cX8_again 168 = .ok (.sipush 297, 3) := by decide +kernel
theorem dX8_again_171 : decode cX8_again 171 = .ok (.iaload, 1) := by decide +kernel
theorem dX8_again_172 : decode cX8_again 172 = .ok (.putfield 65, 3) := by decide +kernel
theorem dX8_again_175 : decode cX8_again 175 = .ok (.return_, 1) := by decide +kernel
theorem dX8_image_0 : decode cX8_image 0 = .ok (.aload_n 0, 1) := by decide +kernel
theorem dX8_image_1 : decode cX8_image 1 = .ok (.iconst 1, 1) := by decide +kernel
theorem dX8_image_2 : decode cX8_image 2 = .ok (.putfield 284, 3) := by decide +kernel
theorem dX8_image_5 : decode cX8_image 5 = .ok (.aload_n 0, 1) := by decide +kernel
theorem dX8_image_6 : decode cX8_image 6 = .ok (.aload_n 0, 1) := by decide +kernel
theorem dX8_image_7 : decode cX8_image 7 = .ok (.getfield 47, 3) := by decide +kernel
theorem dX8_image_10 : decode cX8_image 10 = .ok (.invokevirtual 194, 3) := by decide +kernel
theorem dX8_image_13 : decode cX8_image 13 = .ok (.aload_n 0, 1) := by decide +kernel
theorem dX8_image_14 : decode cX8_image 14 = .ok (.getfield 76, 3) := by decide +kernel
theorem dX8_image_17 : decode cX8_image 17 = .ok (.ireturn, 1) := by decide +kernel
theorem dX8_restore_0 : decode cX8_restore 0 = .ok (.aload_n 0, 1) := by decide +kernel
theorem dX8_restore_1 : decode cX8_restore 1 = .ok (.getfield 284, 3) := by decide +kernel
theorem dX8_restore_4 : decode cX8_restore 4 = .ok (.ifCond .ne 10, 3) := by decide +kernel
theorem dX8_restore_7 : decode cX8_restore 7 = .ok (.aload_n 0, 1) := by decide +kernel
theorem dX8_restore_8 : decode cX8_restore 8 = .ok (.bipush (-6), 2) := by decide +kernel
theorem dX8_restore_10 : decode cX8_restore 10 = .ok (.invokevirtual 72, 3) := by decide +kernel
theorem dX8_restore_13 : decode cX8_restore 13 = .ok (.ireturn, 1) := by decide +kernel
theorem dX8_restore_14 : decode cX8_restore 14 = .ok (.aload_n 0, 1) := by decide +kernel
theorem dX8_restore_15 : decode cX8_restore 15 = .ok (.aload_n 0, 1) := by decide +kernel
theorem dX8_restore_16 : decode cX8_restore 16 = .ok (.getfield 47, 3) := by decide +kernel
theorem dX8_restore_19 : decode cX8_restore 19 = .ok (.invokevirtual 202, 3) := by decide +kernel
theorem dX8_restore_22 : decode cX8_restore 22 = .ok (.iconst 0, 1) := by decide +kernel
theorem dX8_restore_23 : decode cX8_restore 23 = .ok (.istore_n 1, 1) := by decide +kernel
theorem dX8_restore_24 : decode cX8_restore 24 = .ok (.iload_n 1, 1) := by decide +kernel
theorem dX8_restore_25 : decode cX8_restore 25 = .ok (.bipush 8, 2) := by decide +kernel
theorem dX8_restore_27 : decode cX8_restore 27 = .ok (.if_icmp .ge 37, 3) := by decide +kernel
theorem dX8_restore_30 : decode cX8_restore 30 = .ok (.aload_n 0, 1) := by decide +kernel
theorem dX8_restore_31 : decode cX8_restore 31 = .ok (.iload_n 1, 1) := by decide +kernel
theorem dX8_restore_32 : decode cX8_restore 32 = .ok (.invokevirtual 86, 3) := by decide +kernel
theorem dX8_restore_35 : decode cX8_restore 35 = .ok (.ifCond .ne 23, 3) := by decide +kernel
theorem dX8_restore_38 : decode cX8_restore 38 = .ok (.aload_n 0, 1) := by decide +kernel
theorem dX8_restore_39 : decode cX8_restore 39 = .ok (.getfield 7, 3) := by decide +kernel
theorem dX8_restore_42 : decode cX8_restore 42 = .ok (.iload_n 1, 1) := by decide +kernel
theorem dX8_restore_43 : decode cX8_restore 43 = .ok (.iaload, 1) := by decide +kernel
theorem dX8_restore_44 : decode cX8_restore 44 = .ok (.aload_n 0, 1) := by decide +kernel
theorem dX8_restore_45 : decode cX8_restore 45 = .ok (.getfield 76, 3) := by decide +kernel
theorem dX8_restore_48 : decode cX8_restore 48 = .ok (.if_icmp .lt 10, 3) := by decide +kernel
theorem dX8_restore_51 : decode cX8_restore 51 = .ok (.aload_n 0, 1) := by decide +kernel
theorem dX8_restore_52 : decode cX8_restore 52 = .ok (.getfield 7, 3) := by decide +kernel
theorem dX8_restore_55 : decode cX8_restore 55 = .ok (.iload_n 1, 1) := by decide +kernel
theorem dX8_restore_56 : decode cX8_restore 56 = .ok (.iconst (-1), 1) := by decide +kernel
theorem dX8_restore_57 : decode cX8_restore 57 = .ok (.iastore, 1) := by decide +kernel
theorem dX8_restore_58 : decode cX8_restore 58 = .ok (.iinc 1 1, 3) := by decide +kernel
theorem dX8_restore_61 : decode cX8_restore 61 = .ok (.goto (-37), 3) := by decide +kernel
theorem dX8_restore_64 : decode cX8_restore 64 = .ok (.aload_n 0, 1) := by decide +kernel
theorem dX8_restore_65 : decode cX8_restore 65 = .ok (.getfield 76, 3) := by decide +kernel
theorem dX8_restore_68 : decode cX8_restore 68 = .ok (.ireturn, 1) := by decide +kernel
theorem dX8_status_0 : decode cX8_status 0 = .ok (.iconst 0, 1) := by decide +kernel
theorem dX8_status_1 : decode cX8_status 1 = .ok (.istore_n 2, 1) := by decide +kernel
theorem dX8_status_2 : decode cX8_status 2 = .ok (.iload_n 1, 1) := by decide +kernel
theorem dX8_status_3 : decode cX8_status 3 = .ok (.tableswitch 102 0 6 #[41, 46, 51, 56, 87, 92, 97], 41) := by decide +kernel
theorem dX8_status_44 : decode cX8_status 44 = .ok (.aload_n 0, 1) := by decide +kernel
theorem dX8_status_45 : decode cX8_status 45 = .ok (.getfield 76, 3) := by decide +kernel
theorem dX8_status_48 : decode cX8_status 48 = .ok (.ireturn, 1) := by decide +kernel
theorem dX8_status_49 : decode cX8_status 49 = .ok (.aload_n 0, 1) := by decide +kernel
theorem dX8_status_50 : decode cX8_status 50 = .ok (.getfield 83, 3) := by decide +kernel
theorem dX8_status_53 : decode cX8_status 53 = .ok (.ireturn, 1) := by decide +kernel
theorem dX8_status_54 : decode cX8_status 54 = .ok (.aload_n 0, 1) := by decide +kernel
theorem dX8_status_55 : decode cX8_status 55 = .ok (.invokevirtual 266, 3) := by decide +kernel
theorem dX8_status_58 : decode cX8_status 58 = .ok (.ireturn, 1) := by decide +kernel
theorem dX8_status_59 : decode cX8_status 59 = .ok (.iconst 0, 1) := by decide +kernel
theorem dX8_status_60 : decode cX8_status 60 = .ok (.istore_n 3, 1) := by decide +kernel
theorem dX8_status_61 : decode cX8_status 61 = .ok (.iload_n 3, 1) := by decide +kernel
theorem dX8_status_62 : decode cX8_status 62 = .ok (.aload_n 0, 1) := by decide +kernel
theorem dX8_status_63 : decode cX8_status 63 = .ok (.getfield 76, 3) := by decide +kernel
theorem dX8_status_66 : decode cX8_status 66 = .ok (.if_icmp .ge 22, 3) := by decide +kernel
theorem dX8_status_69 : decode cX8_status 69 = .ok (.aload_n 0, 1) := by decide +kernel
theorem dX8_status_70 : decode cX8_status 70 = .ok (.getfield 32, 3) := by decide +kernel
theorem dX8_status_73 : decode cX8_status 73 = .ok (.iload_n 3, 1) := by decide +kernel
theorem dX8_status_74 : decode cX8_status 74 = .ok (.iaload, 1) := by decide +kernel
theorem dX8_status_75 : decode cX8_status 75 = .ok (.iconst (-1), 1) := by decide +kernel
theorem dX8_status_76 : decode cX8_status 76 = .ok (.if_icmp .eq 6, 3) := by decide +kernel
theorem dX8_status_79 : decode cX8_status 79 = .ok (.iinc 2 1, 3) := by decide +kernel
theorem dX8_status_82 : decode cX8_status 82 = .ok (.iinc 3 1, 3) := by decide +kernel
theorem dX8_status_85 : decode cX8_status 85 = .ok (.goto (-24), 3) := by decide +kernel
theorem dX8_status_88 : decode cX8_status 88 = .ok (.iload_n 2, 1) := by decide +kernel
theorem dX8_status_89 : decode cX8_status 89 = .ok (.ireturn, 1) := by decide +kernel
theorem dX8_status_90 : decode cX8_status 90 = .ok (.aload_n 0, 1) := by decide +kernel
theorem dX8_status_91 : decode cX8_status 91 = .ok (.getfield 224, 3) := by decide +kernel
theorem dX8_status_94 : decode cX8_status 94 = .ok (.ireturn, 1) := by decide +kernel
theorem dX8_status_95 : decode cX8_status 95 = .ok (.aload_n 0, 1) := by decide +kernel
theorem dX8_status_96 : decode cX8_status 96 = .ok (.getfield 65, 3) := by decide +kernel
theorem dX8_status_99 : decode cX8_status 99 = .ok (.ireturn, 1) := by decide +kernel
theorem dX8_status_100 : decode cX8_status 100 = .ok (.aload_n 0, 1) := by decide +kernel
theorem dX8_status_101 : decode cX8_status 101 = .ok (.getfield 269, 3) := by decide +kernel
theorem dX8_status_104 : decode cX8_status 104 = .ok (.ireturn, 1) := by decide +kernel
theorem dX8_status_105 : decode cX8_status 105 = .ok (.iload_n 1, 1) := by decide +kernel
theorem dX8_status_106 : decode cX8_status 106 = .ok (.bipush 11, 2) := by decide +kernel
theorem dX8_status_108 : decode cX8_status 108 = .ok (.bipush 17, 2) := by decide +kernel
theorem dX8_status_110 : decode cX8_status 110 = .ok (.invokestatic 79, 3) := by decide +kernel
theorem dX8_status_113 : decode cX8_status 113 = .ok (.ifCond .eq 15, 3) := by decide +kernel
theorem dX8_status_116 : decode cX8_status 116 = .ok (.aload_n 0, 1) := by decide +kernel
theorem dX8_status_117 : decode cX8_status 117 = .ok (.getfield 41, 3) := by decide +kernel
theorem dX8_status_120 : decode cX8_status 120 = .ok (.iload_n 1, 1) := by decide +kernel
theorem dX8_status_121 : decode cX8_status 121 = .ok (.bipush 10, 2) := by decide +kernel
theorem dX8_status_123 : decode cX8_status 123 = .ok (.isub, 1) := by decide +kernel
theorem dX8_status_124 : decode cX8_status 124 = .ok (.iaload, 1) := by decide +kernel
theorem dX8_status_125 : decode cX8_status 125 = .ok (.goto 4, 3) := by decide +kernel
theorem dX8_status_128 : decode cX8_status 128 = .ok (.iconst (-1), 1) := by decide +kernel
theorem dX8_status_129 : decode cX8_status 129 = .ok (.ireturn, 1) := by decide +kernel
