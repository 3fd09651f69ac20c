theorem dX8_thrown_0 : decode cX8_thrown 0 = .ok (.aload_n 0, 1) := by decide +kernel
theorem dX8_thrown_1 : decode cX8_thrown 1 = .ok (.getfield 3, 3) := by decide +kernel
theorem dX8_thrown_4 : decode cX8_thrown 4 = .ok (.ireturn, 1) := by decide +kernel
theorem dX8_init_0 : decode cX8_init 0 = .ok (.aload_n 0, 1) := by decide +kernel
theorem dX8_init_1 : decode cX8_init 1 = .ok (.invokespecial 7, 3) := by decide +kernel
theorem dX8_init_4 : decode cX8_init 4 = .ok (.aload_n 0, 1) := by decide +kernel
theorem dX8_init_5 : decode cX8_init 5 = .ok (.iconst 0, 1) := by decide +kernel
theorem dX8_init_6 : decode cX8_init 6 = .ok (.putfield 3, 3) := by decide +kernel
theorem dX8_init_9 : decode cX8_init 9 = .ok (.aload_n 0, 1) := by decide +kernel
theorem dX8_init_10 : decode cX8_init 10 = .ok (.sipush 399, 3) := by decide +kernel
theorem dX8_init_13 : decode cX8_init 13 = .ok (.newarray .int, 2) := by decide +kernel
theorem dX8_init_15 : decode cX8_init 15 = .ok (.putfield 13, 3) := by decide +kernel
theorem dX8_init_18 : decode cX8_init 18 = .ok (.aload_n 0, 1) := by decide +kernel
theorem dX8_init_19 : decode cX8_init 19 = .ok (.sipush 399, 3) := by decide +kernel
theorem dX8_init_22 : decode cX8_init 22 = .ok (.newarray .int, 2) := by decide +kernel
theorem dX8_init_24 : decode cX8_init 24 = .ok (.putfield 17, 3) := by decide +kernel
theorem dX8_init_27 : decode cX8_init 27 = .ok (.aload_n 0, 1) := by decide +kernel
theorem dX8_init_28 : decode cX8_init 28 = .ok (.sipush 399, 3) := by decide +kernel
theorem dX8_init_31 : decode cX8_init 31 = .ok (.newarray .int, 2) := by decide +kernel
theorem dX8_init_33 : decode cX8_init 33 = .ok (.putfield 20, 3) := by decide +kernel
theorem dX8_init_36 : decode cX8_init 36 = .ok (.aload_n 0, 1) := by decide +kernel
theorem dX8_init_37 : decode cX8_init 37 = .ok (.sipush 399, 3) := by decide +kernel
theorem dX8_init_40 : decode cX8_init 40 = .ok (.newarray .int, 2) := by decide +kernel
theorem dX8_init_42 : decode cX8_init 42 = .ok (.putfield 23, 3) := by decide +kernel
theorem dX8_init_45 : decode cX8_init 45 = .ok (.aload_n 0, 1) := by decide +kernel
theorem dX8_init_46 : decode cX8_init 46 = .ok (.sipush 2394, 3) := by decide +kernel
theorem dX8_init_49 : decode cX8_init 49 = .ok (.newarray .int, 2) := by decide +kernel
theorem dX8_init_51 : decode cX8_init 51 = .ok (.putfield 26, 3) := by decide +kernel
theorem dX8_init_54 : decode cX8_init 54 = .ok (.aload_n 0, 1) := by decide +kernel
theorem dX8_init_55 : decode cX8_init 55 = .ok (.iconst 0, 1) := by decide +kernel
theorem dX8_init_56 : decode cX8_init 56 = .ok (.putfield 29, 3) := by decide +kernel
theorem dX8_init_59 : decode cX8_init 59 = .ok (.aload_n 0, 1) := by decide +kernel
theorem dX8_init_60 : decode cX8_init 60 = .ok (.iconst 0, 1) := by decide +kernel
theorem dX8_init_61 : decode cX8_init 61 = .ok (.putfield 32, 3) := by decide +kernel
theorem dX8_init_64 : decode cX8_init 64 = .ok (.aload_n 0, 1) := by decide +kernel
theorem dX8_init_65 : decode cX8_init 65 = .ok (.iconst 0, 1) := by decide +kernel
theorem dX8_init_66 : decode cX8_init 66 = .ok (.putfield 36, 3) := by decide +kernel
theorem dX8_init_69 : decode cX8_init 69 = .ok (.aload_n 0, 1) := by decide +kernel
theorem dX8_init_70 : decode cX8_init 70 = .ok (.iconst 0, 1) := by decide +kernel
theorem dX8_init_71 : decode cX8_init 71 = .ok (.putfield 39, 3) := by decide +kernel
theorem dX8_init_74 : decode cX8_init 74 = .ok (.aload_n 0, 1) := by decide +kernel
theorem dX8_init_75 : decode cX8_init 75 = .ok (.iconst (-1), 1) := by decide +kernel
theorem dX8_init_76 : decode cX8_init 76 = .ok (.putfield 42, 3) := by decide +kernel
theorem dX8_init_79 : decode cX8_init 79 = .ok (.aload_n 0, 1) := by decide +kernel
theorem dX8_init_80 : decode cX8_init 80 = .ok (.iconst (-1), 1) := by decide +kernel
theorem dX8_init_81 : decode cX8_init 81 = .ok (.putfield 45, 3) := by decide +kernel
theorem dX8_init_84 : decode cX8_init 84 = .ok (.aload_n 0, 1) := by decide +kernel
theorem dX8_init_85 : decode cX8_init 85 = .ok (.iconst 0, 1) := by decide +kernel
theorem dX8_init_86 : decode cX8_init 86 = .ok (.putfield 48, 3) := by decide +kernel
theorem dX8_init_89 : decode cX8_init 89 = .ok (.aload_n 0, 1) := by decide +kernel
theorem dX8_init_90 : decode cX8_init 90 = .ok (.iconst 5, 1) := by decide +kernel
theorem dX8_init_91 : decode cX8_init 91 = .ok (.newarray .int, 2) := by decide +kernel
theorem dX8_init_93 : decode cX8_init 93 = .ok (.putfield 51, 3) := by decide +kernel
theorem dX8_init_96 : decode cX8_init 96 = .ok (.aload_n 0, 1) := by decide +kernel
theorem dX8_init_97 : decode cX8_init 97 = .ok (.iconst 5, 1) := by decide +kernel
theorem dX8_init_98 : decode cX8_init 98 = .ok (.newarray .int, 2) := by decide +kernel
theorem dX8_init_100 : decode cX8_init 100 = .ok (.putfield 54, 3) := by decide +kernel
theorem dX8_init_103 : decode cX8_init 103 = .ok (.aload_n 0, 1) := by decide +kernel
theorem dX8_init_104 : decode cX8_init 104 = .ok (.iconst 5, 1) := by decide +kernel
theorem dX8_init_105 : decode cX8_init 105 = .ok (.newarray .int, 2) := by decide +kernel
theorem dX8_init_107 : decode cX8_init 107 = .ok (.putfield 57, 3) := by decide +kernel
theorem dX8_init_110 : decode cX8_init 110 = .ok (.aload_n 0, 1) := by decide +kernel
theorem dX8_init_111 : decode cX8_init 111 = .ok (.iconst 0, 1) := by decide +kernel
theorem dX8_init_112 : decode cX8_init 112 = .ok (.putfield 60, 3) := by decide +kernel
theorem dX8_init_115 : decode cX8_init 115 = .ok (.aload_n 0, 1) := by decide +kernel
theorem dX8_init_116 : decode cX8_init 116 = .ok (.iconst 0, 1) := by decide +kernel
theorem dX8_init_117 : decode cX8_init 117 = .ok (.putfield 63, 3) := by decide +kernel
theorem dX8_init_120 : decode cX8_init 120 = .ok (.aload_n 0, 1) := by decide +kernel
theorem dX8_init_121 : decode cX8_init 121 = .ok (.iconst 0, 1) := by decide +kernel
theorem dX8_init_122 : decode cX8_init 122 = .ok (.putfield 66, 3) := by decide +kernel
theorem dX8_init_125 : decode cX8_init 125 = .ok (.aload_n 0, 1) := by decide +kernel
theorem dX8_init_126 : decode cX8_init 126 = .ok (.iconst 0, 1) := by decide +kernel
theorem dX8_init_127 : decode cX8_init 127 = .ok (.putfield 69, 3) := by decide +kernel
theorem dX8_init_130 : decode cX8_init 130 = .ok (.aload_n 0, 1) := by decide +kernel
theorem dX8_init_131 : decode cX8_init 131 = .ok (.iconst 0, 1) := by decide +kernel
theorem dX8_init_132 : decode cX8_init 132 = .ok (.putfield 72, 3) := by decide +kernel
theorem dX8_init_135 : decode cX8_init 135 = .ok (.aload_n 0, 1) := by decide +kernel
theorem dX8_init_136 : decode cX8_init 136 = .ok (.bipush 60, 2) := by decide +kernel
theorem dX8_init_138 : decode cX8_init 138 = .ok (.newarray .int, 2) := by decide +kernel
theorem dX8_init_140 : decode cX8_init 140 = .ok (.putfield 75, 3) := by decide +kernel
theorem dX8_init_143 : decode cX8_init 143 = .ok (.aload_n 0, 1) := by decide +kernel
theorem dX8_init_144 : decode cX8_init 144 = .ok (.bipush 60, 2) := by decide +kernel
theorem dX8_init_146 : decode cX8_init 146 = .ok (.newarray .int, 2) := by decide +kernel
theorem dX8_init_148 : decode cX8_init 148 = .ok (.putfield 78, 3) := by decide +kernel
theorem dX8_init_151 : decode cX8_init 151 = .ok (.aload_n 0, 1) := by decide +kernel
theorem dX8_init_152 : decode cX8_init 152 = .ok (.iconst 2, 1) := by decide +kernel
theorem dX8_init_153 : decode cX8_init 153 = .ok (.newarray .int, 2) := by decide +kernel
theorem dX8_init_155 : decode cX8_init 155 = .ok (.putfield 81, 3) := by decide +kernel
theorem dX8_init_158 : decode cX8_init 158 = .ok (.aload_n 0, 1) := by decide +kernel
theorem dX8_init_159 : decode cX8_init 159 = .ok (.iconst 0, 1) := by decide +kernel
theorem dX8_init_160 : decode cX8_init 160 = .ok (.putfield 84, 3) := by decide +kernel
theorem dX8_init_163 : decode cX8_init 163 = .ok (.aload_n 0, 1) := by decide +kernel
theorem dX8_init_164 : decode cX8_init 164 = .ok (.iconst 0, 1) := by decide +kernel
theorem dX8_init_165 : decode cX8_init 165 = .ok (.putfield 87, 3) := by decide +kernel
theorem dX8_init_168 : decode cX8_init 168 = .ok (.aload_n 0, 1) := by decide +kernel
theorem dX8_init_169 : decode cX8_init 169 = .ok (.iconst 0, 1) := by decide +kernel
theorem dX8_init_170 : decode cX8_init 170 = .ok (.putfield 90, 3) := by decide +kernel
theorem dX8_init_173 : decode cX8_init 173 = .ok (.iconst 0, 1) := by decide +kernel
theorem dX8_init_174 : decode cX8_init 174 = .ok (.istore_n 1, 1) := by decide +kernel
theorem dX8_init_175 : decode cX8_init 175 = .ok (.iload_n 1, 1) := by decide +kernel
theorem dX8_init_176 : decode cX8_init 176 = .ok (.bipush 60, 2) := by decide +kernel
theorem dX8_init_178 : decode cX8_init 178 = .ok (.if_icmp .ge 19, 3) := by decide +kernel
theorem dX8_init_181 : decode cX8_init 181 = .ok (.aload_n 0, 1) := by decide +kernel
theorem dX8_init_182 : decode cX8_init 182 = .ok (.getfield 13, 3) := by decide +kernel
theorem dX8_init_185 : decode cX8_init 185 = .ok (.bipush 79, 2) := by decide +kernel
theorem dX8_init_187 : decode cX8_init 187 = .ok (.iload_n 1, 1) := by decide +kernel
theorem dX8_init_188 : decode cX8_init 188 = .ok (.iadd, 1) := by decide +kernel
theorem dX8_init_189 : decode cX8_init 189 = .ok (.iconst (-1), 1) := by decide +kernel
theorem dX8_init_190 : decode cX8_init 190 = .ok (.iastore, 1) := by decide +kernel
theorem dX8_init_191 : decode cX8_init 191 = .ok (.iinc 1 1, 3) := by decide +kernel
theorem dX8_init_194 : decode cX8_init 194 = .ok (.goto (-19), 3) := by decide +kernel
theorem dX8_init_197 : decode cX8_init 197 = .ok (.return_, 1) := by decide +kernel
theorem dX8_in_0 : decode cX8_in 0 = .ok (.iload_n 0, 1) := by decide +kernel
theorem dX8_in_1 : decode cX8_in 1 = .ok (.iload_n 1, 1) := by decide +kernel
theorem dX8_in_2 : decode cX8_in 2 = .ok (.if_icmp .lt 12, 3) := by decide +kernel
theorem dX8_in_5 : decode cX8_in 5 = .ok (.iload_n 0, 1) := by decide +kernel
theorem dX8_in_6 : decode cX8_in 6 = .ok (.iload_n 2, 1) := by decide +kernel
theorem dX8_in_7 : decode cX8_in 7 = .ok (.if_icmp .gt 7, 3) := by decide +kernel
theorem dX8_in_10 : decode cX8_in 10 = .ok (.iconst 1, 1) := by decide +kernel
theorem dX8_in_11 : decode cX8_in 11 = .ok (.goto 4, 3) := by decide +kernel
theorem dX8_in_14 : decode cX8_in 14 = .ok (.iconst 0, 1) := by decide +kernel
theorem dX8_in_15 : decode cX8_in 15 = .ok (.ireturn, 1) := by decide +kernel
theorem dX8_fails_0 : decode cX8_fails 0 = .ok (.aload_n 0, 1) := by decide +kernel
theorem dX8_fails_1 : decode cX8_fails 1 = .ok (.iload_n 1, 1) := by decide +kernel
theorem dX8_fails_2 : decode cX8_fails 2 = .ok (.putfield 3, 3) := by decide +kernel
theorem dX8_fails_5 : decode cX8_fails 5 = .ok (.iconst 0, 1) := by decide +kernel
theorem dX8_fails_6 : decode cX8_fails 6 = .ok (.ireturn, 1) := by decide +kernel
theorem dX8_copies_0 : decode cX8_copies 0 = .ok (.iconst 0, 1) := by decide +kernel
theorem dX8_copies_1 : decode cX8_copies 1 = .ok (.istore 4, 2) := by decide +kernel
theorem dX8_copies_3 : decode cX8_copies 3 = .ok (.iload 4, 2) := by decide +kernel
theorem dX8_copies_5 : decode cX8_copies 5 = .ok (.sipush 399, 3) := by decide +kernel
theorem dX8_copies_8 : decode cX8_copies 8 = .ok (.if_icmp .ge 21, 3) := by decide +kernel
theorem dX8_copies_11 : decode cX8_copies 11 = .ok (.aload_n 2, 1) := by decide +kernel
theorem dX8_copies_12 : decode cX8_copies 12 = .ok (.iload_n 3, 1) := by decide +kernel
theorem dX8_copies_13 : decode cX8_copies 13 = .ok (.iload 4, 2) := by decide +kernel
theorem dX8_copies_15 : decode cX8_copies 15 = .ok (.iadd, 1) := by decide +kernel
theorem dX8_copies_16 : decode cX8_copies 16 = .ok (.aload_n 0, 1) := by decide +kernel
theorem dX8_copies_17 : decode cX8_copies 17 = .ok (.iload_n 1, 1) := by decide +kernel
theorem dX8_copies_18 : decode cX8_copies 18 = .ok (.iload 4, 2) := by decide +kernel
theorem dX8_copies_20 : decode cX8_copies 20 = .ok (.iadd, 1) := by decide +kernel
theorem dX8_copies_21 : decode cX8_copies 21 = .ok (.iaload, 1) := by decide +kernel
theorem dX8_copies_22 : decode cX8_copies 22 = .ok (.iastore, 1) := by decide +kernel
theorem dX8_copies_23 : decode cX8_copies 23 = .ok (.iinc 4 1, 3) := by decide +kernel
theorem dX8_copies_26 : decode cX8_copies 26 = .ok (.goto (-23), 3) := by decide +kernel
theorem dX8_copies_29 : decode cX8_copies 29 = .ok (.return_, 1) := by decide +kernel
theorem dX8_begins_0 : decode cX8_begins 0 = .ok (.aload_n 0, 1) := by decide +kernel
theorem dX8_begins_1 : decode cX8_begins 1 = .ok (.iconst 0, 1) := by decide +kernel
theorem dX8_begins_2 : decode cX8_begins 2 = .ok (.putfield 3, 3) := by decide +kernel
theorem dX8_begins_5 : decode cX8_begins 5 = .ok (.aload_n 0, 1) := by decide +kernel
theorem dX8_begins_6 : decode cX8_begins 6 = .ok (.getfield 13, 3) := by decide +kernel
theorem dX8_begins_9 : decode cX8_begins 9 = .ok (.iconst 0, 1) := by decide +kernel
theorem dX8_begins_10 : decode cX8_begins 10 = .ok (.aload_n 0, 1) := by decide +kernel
theorem dX8_begins_11 : decode cX8_begins 11 = .ok (.getfield 17, 3) := by decide +kernel
theorem dX8_begins_14 : decode cX8_begins 14 = .ok (.iconst 0, 1) := by decide +kernel
theorem dX8_begins_15 : decode cX8_begins 15 = .ok (.invokestatic 93, 3) := by decide +kernel
theorem dX8_begins_18 : decode cX8_begins 18 = .ok (.return_, 1) := by decide +kernel
theorem dX8_ends_0 : decode cX8_ends 0 = .ok (.aload_n 0, 1) := by decide +kernel
theorem dX8_ends_1 : decode cX8_ends 1 = .ok (.getfield 3, 3) := by decide +kernel
theorem dX8_ends_4 : decode cX8_ends 4 = .ok (.ifCond .eq 5, 3) := by decide +kernel
theorem dX8_ends_7 : decode cX8_ends 7 = .ok (.iload_n 1, 1) := by decide +kernel
theorem dX8_ends_8 : decode cX8_ends 8 = .ok (.ireturn, 1) := by decide +kernel
theorem dX8_ends_9 : decode cX8_ends 9 = .ok (.aload_n 0, 1) := by decide +kernel
theorem dX8_ends_10 : decode cX8_ends 10 = .ok (.getfield 29, 3) := by decide +kernel
theorem dX8_ends_13 : decode cX8_ends 13 = .ok (.bipush 6, 2) := by decide +kernel
theorem dX8_ends_15 : decode cX8_ends 15 = .ok (.if_icmp .ne 50, 3) := by decide +kernel
theorem dX8_ends_18 : decode cX8_ends 18 = .ok (.iconst 1, 1) := by decide +kernel
theorem dX8_ends_19 : decode cX8_ends 19 = .ok (.istore_n 2, 1) := by decide +kernel
theorem dX8_ends_20 : decode cX8_ends 20 = .ok (.iload_n 2, 1) := by decide +kernel
theorem dX8_ends_21 : decode cX8_ends 21 = .ok (.bipush 6, 2) := by decide +kernel
theorem dX8_ends_23 : decode cX8_ends 23 = .ok (.if_icmp .ge 32, 3) := by decide +kernel
theorem dX8_ends_26 : decode cX8_ends 26 = .ok (.aload_n 0, 1) := by decide +kernel
theorem dX8_ends_27 : decode cX8_ends 27 = .ok (.getfield 26, 3) := by decide +kernel
theorem dX8_ends_30 : decode cX8_ends 30 = .ok (.sipush 399, 3) := by decide +kernel
theorem dX8_ends_33 : decode cX8_ends 33 = .ok (.iload_n 2, 1) := by decide +kernel
theorem dX8_ends_34 : decode cX8_ends 34 = .ok (.imul, 1) := by decide +kernel
theorem dX8_ends_35 : decode cX8_ends 35 = .ok (.aload_n 0, 1) := by decide +kernel
theorem dX8_ends_36 : decode cX8_ends 36 = .ok (.getfield 26, 3) := by decide +kernel
theorem dX8_ends_39 : decode cX8_ends 39 = .ok (.sipush 399, 3) := by decide +kernel
theorem dX8_ends_42 : decode cX8_ends 42 = .ok (.iload_n 2, 1) := by decide +kernel
theorem dX8_ends_43 : decode cX8_ends 43 = .ok (.iconst 1, 1) := by decide +kernel
theorem dX8_ends_44 : decode cX8_ends 44 = .ok (.isub, 1) := by decide +kernel
theorem dX8_ends_45 : decode cX8_ends 45 = .ok (.imul, 1) := by decide +kernel
theorem dX8_ends_46 : decode cX8_ends 46 = .ok (.invokestatic 93, 3) := by decide +kernel
theorem dX8_ends_49 : decode cX8_ends 49 = .ok (.iinc 2 1, 3) := by decide +kernel
theorem dX8_ends_52 : decode cX8_ends 52 = .ok (.goto (-32), 3) := by decide +kernel
theorem dX8_ends_55 : decode cX8_ends 55 = .ok (.aload_n 0, 1) := by decide +kernel
theorem dX8_ends_56 : decode cX8_ends 56 = .ok (.dup, 1) := by decide +kernel
theorem dX8_ends_57 : decode cX8_ends 57 = .ok (.getfield 29, 3) := by decide +kernel
theorem dX8_ends_60 : decode cX8_ends 60 = .ok (.iconst 1, 1) := by decide +kernel
theorem dX8_ends_61 : decode cX8_ends 61 = .ok (.isub, 1) := by decide +kernel
theorem dX8_ends_62 : decode cX8_ends 62 = .ok (.putfield 29, 3) := by decide +kernel
theorem dX8_ends_65 : decode cX8_ends 65 = .ok (.aload_n 0, 1) := by decide +kernel
theorem dX8_ends_66 : decode cX8_ends 66 = .ok (.getfield 17, 3) := by decide +kernel
theorem dX8_ends_69 : decode cX8_ends 69 = .ok (.iconst 0, 1) := by decide +kernel
theorem dX8_ends_70 : decode cX8_ends 70 = .ok (.aload_n 0, 1) := by decide +kernel
theorem dX8_ends_71 : decode cX8_ends 71 = .ok (.getfield 26, 3) := by decide +kernel
theorem dX8_ends_74 : decode cX8_ends 74 = .ok (.sipush 399, 3) := by decide +kernel
theorem dX8_ends_77 : decode cX8_ends 77 = .ok (.aload_n 0, 1) := by decide +kernel
theorem dX8_ends_78 : decode cX8_ends 78 = .ok (.getfield 29, 3) := by decide +kernel
theorem dX8_ends_81 : decode cX8_ends 81 = .ok (.imul, 1) := by decide +kernel
theorem dX8_ends_82 : decode cX8_ends 82 = .ok (.invokestatic 93, 3) := by decide +kernel
theorem dX8_ends_85 : decode cX8_ends 85 = .ok (.aload_n 0, 1) := by decide +kernel
theorem dX8_ends_86 : decode cX8_ends 86 = .ok (.dup, 1) := by decide +kernel
theorem dX8_ends_87 : decode cX8_ends 87 = .ok (.getfield 29, 3) := by decide +kernel
theorem dX8_ends_90 : decode cX8_ends 90 = .ok (.iconst 1, 1) := by decide +kernel
theorem dX8_ends_91 : decode cX8_ends 91 = .ok (.iadd, 1) := by decide +kernel
theorem dX8_ends_92 : decode cX8_ends 92 = .ok (.putfield 29, 3) := by decide +kernel
theorem dX8_ends_95 : decode cX8_ends 95 = .ok (.iload_n 1, 1) := by decide +kernel
theorem dX8_ends_96 : decode cX8_ends 96 = .ok (.ireturn, 1) := by decide +kernel
theorem dX8_level_0 : decode cX8_level 0 = .ok (.iload_n 0, 1) := by decide +kernel
theorem dX8_level_1 : decode cX8_level 1 = .ok (.bipush 20, 2) := by decide +kernel
theorem dX8_level_3 : decode cX8_level 3 = .ok (.idiv, 1) := by decide +kernel
theorem dX8_level_4 : decode cX8_level 4 = .ok (.ireturn, 1) := by decide +kernel
theorem dX8_side_0 : decode cX8_side 0 = .ok (.iload_n 0, 1) := by decide +kernel
theorem dX8_side_1 : decode cX8_side 1 = .ok (.bipush 10, 2) := by decide +kernel
theorem dX8_side_3 : decode cX8_side 3 = .ok (.idiv, 1) := by decide +kernel
theorem dX8_side_4 : decode cX8_side 4 = .ok (.iconst 2, 1) := by decide +kernel
theorem dX8_side_5 : decode cX8_side 5 = .ok (.irem, 1) := by decide +kernel
theorem dX8_side_6 : decode cX8_side 6 = .ok (.ireturn, 1) := by decide +kernel
theorem dX8_column_0 : decode cX8_column 0 = .ok (.iload_n 0, 1) := by decide +kernel
theorem dX8_column_1 : decode cX8_column 1 = .ok (.iconst 2, 1) := by decide +kernel
theorem dX8_column_2 : decode cX8_column 2 = .ok (.idiv, 1) := by decide +kernel
theorem dX8_column_3 : decode cX8_column 3 = .ok (.iconst 5, 1) := by decide +kernel
theorem dX8_column_4 : decode cX8_column 4 = .ok (.irem, 1) := by decide +kernel
theorem dX8_column_5 : decode cX8_column 5 = .ok (.ireturn, 1) := by decide +kernel
theorem dX8_depth_0 : decode cX8_depth 0 = .ok (.iload_n 0, 1) := by decide +kernel
theorem dX8_depth_1 : decode cX8_depth 1 = .ok (.iconst 2, 1) := by decide +kernel
theorem dX8_depth_2 : decode cX8_depth 2 = .ok (.irem, 1) := by decide +kernel
theorem dX8_depth_3 : decode cX8_depth 3 = .ok (.ireturn, 1) := by decide +kernel
theorem dX8_isWide_0 : decode cX8_isWide 0 = .ok (.iload_n 0, 1) := by decide +kernel
theorem dX8_isWide_1 : decode cX8_isWide 1 = .ok (.invokestatic 97, 3) := by decide +kernel
theorem dX8_isWide_4 : decode cX8_isWide 4 = .ok (.iconst 2, 1) := by decide +kernel
theorem dX8_isWide_5 : decode cX8_isWide 5 = .ok (.irem, 1) := by decide +kernel
theorem dX8_isWide_6 : decode cX8_isWide 6 = .ok (.ifCond .ne 7, 3) := by decide +kernel
theorem dX8_isWide_9 : decode cX8_isWide 9 = .ok (.iconst 1, 1) := by decide +kernel
theorem dX8_isWide_10 : decode cX8_isWide 10 = .ok (.goto 4, 3) := by decide +kernel
theorem dX8_isWide_13 : decode cX8_isWide 13 = .ok (.iconst 0, 1) := by decide +kernel
theorem dX8_isWide_14 : decode cX8_isWide 14 = .ok (.ireturn, 1) := by decide +kernel
theorem dX8_isEmpty_0 : decode cX8_isEmpty 0 = .ok (.aload_n 0, 1) := by decide +kernel
theorem dX8_isEmpty_1 : decode cX8_isEmpty 1 = .ok (.getfield 13, 3) := by decide +kernel
theorem dX8_isEmpty_4 : decode cX8_isEmpty 4 = .ok (.bipush 79, 2) := by decide +kernel
theorem dX8_isEmpty_6 : decode cX8_isEmpty 6 = .ok (.iload_n 1, 1) := by decide +kernel
theorem dX8_isEmpty_7 : decode cX8_isEmpty 7 = .ok (.iadd, 1) := by decide +kernel
theorem dX8_isEmpty_8 : decode cX8_isEmpty 8 = .ok (.iaload, 1) := by decide +kernel
theorem dX8_isEmpty_9 : decode cX8_isEmpty 9 = .ok (.ifCond .ge 7, 3) := by decide +kernel
theorem dX8_isEmpty_12 : decode cX8_isEmpty 12 = .ok (.iconst 1, 1) := by decide +kernel
theorem dX8_isEmpty_13 : decode cX8_isEmpty 13 = .ok (.goto 4, 3) := by decide +kernel
theorem dX8_isEmpty_16 : decode cX8_isEmpty 16 = .ok (.iconst 0, 1) := by decide +kernel
theorem dX8_isEmpty_17 : decode cX8_isEmpty 17 = .ok (.ireturn, 1) := by decide +kernel
theorem dX8_isReached_0 : decode cX8_isReached 0 = .ok (.iload_n 1, 1) := by decide +kernel
theorem dX8_isReached_1 : decode cX8_isReached 1 = .ok (.invokestatic 101, 3) := by decide +kernel
theorem dX8_isReached_4 : decode cX8_isReached 4 = .ok (.ifCond .eq 13, 3) := by decide +kernel
theorem dX8_isReached_7 : decode cX8_isReached 7 = .ok (.aload_n 0, 1) := by decide +kernel
theorem dX8_isReached_8 : decode cX8_isReached 8 = .ok (.iload_n 1, 1) := by decide +kernel
theorem dX8_isReached_9 : decode cX8_isReached 9 = .ok (.iconst 1, 1) := by decide +kernel
theorem dX8_isReached_10 : decode cX8_isReached 10 = .ok (.isub, 1) := by decide +kernel
theorem dX8_isReached_11 : decode cX8_isReached 11 = .ok (.invokevirtual 104, 3) := by decide +kernel
theorem dX8_isReached_14 : decode cX8_isReached 14 = .ok (.ifCond .eq 7, 3) := by decide +kernel
theorem dX8_isReached_17 : decode cX8_isReached 17 = .ok (.iconst 1, 1) := by decide +kernel
theorem dX8_isReached_18 : decode cX8_isReached 18 = .ok (.goto 4, 3) := by decide +kernel
theorem dX8_isReached_21 : decode cX8_isReached 21 = .ok (.iconst 0, 1) := by decide +kernel
theorem dX8_isReached_22 : decode cX8_isReached 22 = .ok (.ireturn, 1) := by decide +kernel
theorem dX8_of_0 : decode cX8_of 0 = .ok (.aload_n 0, 1) := by decide +kernel
theorem dX8_of_1 : decode cX8_of 1 = .ok (.getfield 13, 3) := by decide +kernel
theorem dX8_of_4 : decode cX8_of 4 = .ok (.sipush 139, 3) := by decide +kernel
theorem dX8_of_7 : decode cX8_of 7 = .ok (.iconst 4, 1) := by decide +kernel
theorem dX8_of_8 : decode cX8_of 8 = .ok (.iload_n 1, 1) := by decide +kernel
theorem dX8_of_9 : decode cX8_of 9 = .ok (.imul, 1) := by decide +kernel
theorem dX8_of_10 : decode cX8_of 10 = .ok (.iadd, 1) := by decide +kernel
theorem dX8_of_11 : decode cX8_of 11 = .ok (.iload_n 2, 1) := by decide +kernel
theorem dX8_of_12 : decode cX8_of 12 = .ok (.iadd, 1) := by decide +kernel
theorem dX8_of_13 : decode cX8_of 13 = .ok (.iaload, 1) := by decide +kernel
theorem dX8_of_14 : decode cX8_of 14 = .ok (.ireturn, 1) := by decide +kernel
theorem dX8_pickup_0 : decode cX8_pickup 0 = .ok (.aload_n 0, 1) := by decide +kernel
theorem dX8_pickup_1 : decode cX8_pickup 1 = .ok (.iload_n 1, 1) := by decide +kernel
theorem dX8_pickup_2 : decode cX8_pickup 2 = .ok (.iconst 1, 1) := by decide +kernel
theorem dX8_pickup_3 : decode cX8_pickup 3 = .ok (.invokevirtual 108, 3) := by decide +kernel
theorem dX8_pickup_6 : decode cX8_pickup 6 = .ok (.ireturn, 1) := by decide +kernel
theorem dX8_bayOf_0 : decode cX8_bayOf 0 = .ok (.aload_n 0, 1) := by decide +kernel
theorem dX8_bayOf_1 : decode cX8_bayOf 1 = .ok (.iload_n 1, 1) := by decide +kernel
theorem dX8_bayOf_2 : decode cX8_bayOf 2 = .ok (.iconst 2, 1) := by decide +kernel
theorem dX8_bayOf_3 : decode cX8_bayOf 3 = .ok (.invokevirtual 108, 3) := by decide +kernel
theorem dX8_bayOf_6 : decode cX8_bayOf 6 = .ok (.ireturn, 1) := by decide +kernel
theorem dX8_isCar_0 : decode cX8_isCar 0 = .ok (.iload_n 1, 1) := by decide +kernel
theorem dX8_isCar_1 : decode cX8_isCar 1 = .ok (.iconst 0, 1) := by decide +kernel
theorem dX8_isCar_2 : decode cX8_isCar 2 = .ok (.aload_n 0, 1) := by decide +kernel
theorem dX8_isCar_3 : decode cX8_isCar 3 = .ok (.getfield 13, 3) := by decide +kernel
theorem dX8_isCar_6 : decode cX8_isCar 6 = .ok (.iconst 1, 1) := by decide +kernel
theorem dX8_isCar_7 : decode cX8_isCar 7 = .ok (.iaload, 1) := by decide +kernel
theorem dX8_isCar_8 : decode cX8_isCar 8 = .ok (.iconst 1, 1) := by decide +kernel
theorem dX8_isCar_9 : decode cX8_isCar 9 = .ok (.isub, 1) := by decide +kernel
theorem dX8_isCar_10 : decode cX8_isCar 10 = .ok (.invokestatic 112, 3) := by decide +kernel
theorem dX8_isCar_13 : decode cX8_isCar 13 = .ok (.ifCond .eq 15, 3) := by decide +kernel
theorem dX8_isCar_16 : decode cX8_isCar 16 = .ok (.aload_n 0, 1) := by decide +kernel
theorem dX8_isCar_17 : decode cX8_isCar 17 = .ok (.iload_n 1, 1) := by decide +kernel
theorem dX8_isCar_18 : decode cX8_isCar 18 = .ok (.invokevirtual 116, 3) := by decide +kernel
theorem dX8_isCar_21 : decode cX8_isCar 21 = .ok (.ifCond .lt 7, 3) := by decide +kernel
theorem dX8_isCar_24 : decode cX8_isCar 24 = .ok (.iconst 1, 1) := by decide +kernel
theorem dX8_isCar_25 : decode cX8_isCar 25 = .ok (.goto 4, 3) := by decide +kernel
theorem dX8_isCar_28 : decode cX8_isCar 28 = .ok (.iconst 0, 1) := by decide +kernel
theorem dX8_isCar_29 : decode cX8_isCar 29 = .ok (.ireturn, 1) := by decide +kernel
theorem dX8_isBay_0 : decode cX8_isBay 0 = .ok (.iload_n 0, 1) := by decide +kernel
theorem dX8_isBay_1 : decode cX8_isBay 1 = .ok (.iconst 0, 1) := by decide +kernel
theorem dX8_isBay_2 : decode cX8_isBay 2 = .ok (.bipush 59, 2) := by decide +kernel
theorem dX8_isBay_4 : decode cX8_isBay 4 = .ok (.invokestatic 112, 3) := by decide +kernel
theorem dX8_isBay_7 : decode cX8_isBay 7 = .ok (.ireturn, 1) := by decide +kernel
theorem dX8_blocking_0 : decode cX8_blocking 0 = .ok (.aload_n 0, 1) := by decide +kernel
theorem dX8_blocking_1 : decode cX8_blocking 1 = .ok (.iload_n 1, 1) := by decide +kernel
theorem dX8_blocking_2 : decode cX8_blocking 2 = .ok (.invokevirtual 116, 3) := by decide +kernel
theorem dX8_blocking_5 : decode cX8_blocking 5 = .ok (.invokestatic 101, 3) := by decide +kernel
theorem dX8_blocking_8 : decode cX8_blocking 8 = .ok (.iconst 1, 1) := by decide +kernel
theorem dX8_blocking_9 : decode cX8_blocking 9 = .ok (.if_icmp .ne 21, 3) := by decide +kernel
theorem dX8_blocking_12 : decode cX8_blocking 12 = .ok (.aload_n 0, 1) := by decide +kernel
theorem dX8_blocking_13 : decode cX8_blocking 13 = .ok (.getfield 13, 3) := by decide +kernel
theorem dX8_blocking_16 : decode cX8_blocking 16 = .ok (.bipush 79, 2) := by decide +kernel
theorem dX8_blocking_18 : decode cX8_blocking 18 = .ok (.aload_n 0, 1) := by decide +kernel
theorem dX8_blocking_19 : decode cX8_blocking 19 = .ok (.iload_n 1, 1) := by decide +kernel
theorem dX8_blocking_20 : decode cX8_blocking 20 = .ok (.invokevirtual 116, 3) := by decide +kernel
theorem dX8_blocking_23 : decode cX8_blocking 23 = .ok (.iadd, 1) := by decide +kernel
theorem dX8_blocking_24 : decode cX8_blocking 24 = .ok (.iconst 1, 1) := by decide +kernel
theorem dX8_blocking_25 : decode cX8_blocking 25 = .ok (.isub, 1) := by decide +kernel
theorem dX8_blocking_26 : decode cX8_blocking 26 = .ok (.iaload, 1) := by decide +kernel
theorem dX8_blocking_27 : decode cX8_blocking 27 = .ok (.goto 4, 3) := by decide +kernel
theorem dX8_blocking_30 : decode cX8_blocking 30 = .ok (.iconst (-1), 1) := by decide +kernel
theorem dX8_blocking_31 : decode cX8_blocking 31 = .ok (.ireturn, 1) := by decide +kernel
theorem dX8_isBad_0 : decode cX8_isBad 0 = .ok (.iload_n 1, 1) := by decide +kernel
theorem dX8_isBad_1 : decode cX8_isBad 1 = .ok (.invokestatic 101, 3) := by decide +kernel
theorem dX8_isBad_4 : decode cX8_isBad 4 = .ok (.ifCond .ne 36, 3) := by decide +kernel
theorem dX8_isBad_7 : decode cX8_isBad 7 = .ok (.aload_n 0, 1) := by decide +kernel
theorem dX8_isBad_8 : decode cX8_isBad 8 = .ok (.iload_n 1, 1) := by decide +kernel
theorem dX8_isBad_9 : decode cX8_isBad 9 = .ok (.iconst 1, 1) := by decide +kernel
theorem dX8_isBad_10 : decode cX8_isBad 10 = .ok (.iadd, 1) := by decide +kernel
theorem dX8_isBad_11 : decode cX8_isBad 11 = .ok (.invokevirtual 104, 3) := by decide +kernel
theorem dX8_isBad_14 : decode cX8_isBad 14 = .ok (.ifCond .ne 26, 3) := by decide +kernel
theorem dX8_isBad_17 : decode cX8_isBad 17 = .ok (.aload_n 0, 1) := by decide +kernel
theorem dX8_isBad_18 : decode cX8_isBad 18 = .ok (.aload_n 0, 1) := by decide +kernel
theorem dX8_isBad_19 : decode cX8_isBad 19 = .ok (.getfield 13, 3) := by decide +kernel
theorem dX8_isBad_22 : decode cX8_isBad 22 = .ok (.bipush 79, 2) := by decide +kernel
theorem dX8_isBad_24 : decode cX8_isBad 24 = .ok (.iload_n 1, 1) := by decide +kernel
theorem dX8_isBad_25 : decode cX8_isBad 25 = .ok (.iadd, 1) := by decide +kernel
theorem dX8_isBad_26 : decode cX8_isBad 26 = .ok (.iconst 1, 1) := by decide +kernel
theorem dX8_isBad_27 : decode cX8_isBad 27 = .ok (.iadd, 1) := by decide +kernel
theorem dX8_isBad_28 : decode cX8_isBad 28 = .ok (.iaload, 1) := by decide +kernel
theorem dX8_isBad_29 : decode cX8_isBad 29 = .ok (.invokevirtual 119, 3) := by decide +kernel
theorem dX8_isBad_32 : decode cX8_isBad 32 = .ok (.iload_n 2, 1) := by decide +kernel
theorem dX8_isBad_33 : decode cX8_isBad 33 = .ok (.if_icmp .ge 7, 3) := by decide +kernel
theorem dX8_isBad_36 : decode cX8_isBad 36 = .ok (.iconst 1, 1) := by decide +kernel
theorem dX8_isBad_37 : decode cX8_isBad 37 = .ok (.goto 4, 3) := by decide +kernel
theorem dX8_isBad_40 : decode cX8_isBad 40 = .ok (.iconst 0, 1) := by decide +kernel
theorem dX8_isBad_41 : decode cX8_isBad 41 = .ok (.ireturn, 1) := by decide +kernel
theorem dX8_effort_0 : decode cX8_effort 0 = .ok (.iload_n 0, 1) := by decide +kernel
theorem dX8_effort_1 : decode cX8_effort 1 = .ok (.ifCond .ge 20, 3) := by decide +kernel
theorem dX8_effort_4 : decode cX8_effort 4 = .ok (.iconst 3, 1) := by decide +kernel
theorem dX8_effort_5 : decode cX8_effort 5 = .ok (.iload_n 1, 1) := by decide +kernel
theorem dX8_effort_6 : decode cX8_effort 6 = .ok (.invokestatic 122, 3) := by decide +kernel
theorem dX8_effort_9 : decode cX8_effort 9 = .ok (.imul, 1) := by decide +kernel
theorem dX8_effort_10 : decode cX8_effort 10 = .ok (.iload_n 1, 1) := by decide +kernel
theorem dX8_effort_11 : decode cX8_effort 11 = .ok (.invokestatic 97, 3) := by decide +kernel
theorem dX8_effort_14 : decode cX8_effort 14 = .ok (.iadd, 1) := by decide +kernel
theorem dX8_effort_15 : decode cX8_effort 15 = .ok (.iload_n 1, 1) := by decide +kernel
theorem dX8_effort_16 : decode cX8_effort 16 = .ok (.invokestatic 101, 3) := by decide +kernel
theorem dX8_effort_19 : decode cX8_effort 19 = .ok (.iadd, 1) := by decide +kernel
theorem dX8_effort_20 : decode cX8_effort 20 = .ok (.ireturn, 1) := by decide +kernel
theorem dX8_effort_21 : decode cX8_effort 21 = .ok (.iload_n 0, 1) := by decide +kernel
theorem dX8_effort_22 : decode cX8_effort 22 = .ok (.invokestatic 122, 3) := by decide +kernel
theorem dX8_effort_25 : decode cX8_effort 25 = .ok (.iload_n 1, 1) := by decide +kernel
theorem dX8_effort_26 : decode cX8_effort 26 = .ok (.invokestatic 122, 3) := by decide +kernel
theorem dX8_effort_29 : decode cX8_effort 29 = .ok (.if_icmp .ne 21, 3) := by decide +kernel
theorem dX8_effort_32 : decode cX8_effort 32 = .ok (.iload_n 0, 1) := by decide +kernel
theorem dX8_effort_33 : decode cX8_effort 33 = .ok (.invokestatic 97, 3) := by decide +kernel
theorem dX8_effort_36 : decode cX8_effort 36 = .ok (.iload_n 1, 1) := by decide +kernel
theorem dX8_effort_37 : decode cX8_effort 37 = .ok (.invokestatic 97, 3) := by decide +kernel
theorem dX8_effort_40 : decode cX8_effort 40 = .ok (.isub, 1) := by decide +kernel
theorem dX8_effort_41 : decode cX8_effort 41 = .ok (.invokestatic 125, 3) := by decide +kernel
theorem dX8_effort_44 : decode cX8_effort 44 = .ok (.iload_n 1, 1) := by decide +kernel
theorem dX8_effort_45 : decode cX8_effort 45 = .ok (.invokestatic 101, 3) := by decide +kernel
theorem dX8_effort_48 : decode cX8_effort 48 = .ok (.iadd, 1) := by decide +kernel
theorem dX8_effort_49 : decode cX8_effort 49 = .ok (.ireturn, 1) := by decide +kernel
theorem dX8_effort_50 : decode cX8_effort 50 = .ok (.bipush 20, 2) := by decide +kernel
theorem dX8_effort_52 : decode cX8_effort 52 = .ok (.iconst 3, 1) := by decide +kernel
theorem dX8_effort_53 : decode cX8_effort 53 = .ok (.iload_n 0, 1) := by decide +kernel
theorem dX8_effort_54 : decode cX8_effort 54 = .ok (.invokestatic 122, 3) := by decide +kernel
theorem dX8_effort_57 : decode cX8_effort 57 = .ok (.iload_n 1, 1) := by decide +kernel
theorem dX8_effort_58 : decode cX8_effort 58 = .ok (.invokestatic 122, 3) := by decide +kernel
theorem dX8_effort_61 : decode cX8_effort 61 = .ok (.isub, 1) := by decide +kernel
theorem dX8_effort_62 : decode cX8_effort 62 = .ok (.invokestatic 125, 3) := by decide +kernel
theorem dX8_effort_65 : decode cX8_effort 65 = .ok (.imul, 1) := by decide +kernel
theorem dX8_effort_66 : decode cX8_effort 66 = .ok (.iadd, 1) := by decide +kernel
theorem dX8_effort_67 : decode cX8_effort 67 = .ok (.iload_n 0, 1) := by decide +kernel
theorem dX8_effort_68 : decode cX8_effort 68 = .ok (.invokestatic 97, 3) := by decide +kernel
theorem dX8_effort_71 : decode cX8_effort 71 = .ok (.iadd, 1) := by decide +kernel
theorem dX8_effort_72 : decode cX8_effort 72 = .ok (.iload_n 1, 1) := by decide +kernel
theorem dX8_effort_73 : decode cX8_effort 73 = .ok (.invokestatic 97, 3) := by decide +kernel
theorem dX8_effort_76 : decode cX8_effort 76 = .ok (.iadd, 1) := by decide +kernel
theorem dX8_effort_77 : decode cX8_effort 77 = .ok (.iload_n 1, 1) := by decide +kernel
theorem dX8_effort_78 : decode cX8_effort 78 = .ok (.invokestatic 101, 3) := by decide +kernel
theorem dX8_effort_81 : decode cX8_effort 81 = .ok (.iadd, 1) := by decide +kernel
theorem dX8_effort_82 : decode cX8_effort 82 = .ok (.ireturn, 1) := by decide +kernel
theorem dX8_chosen_0 : decode cX8_chosen 0 = .ok (.iconst (-1), 1) := by decide +kernel
theorem dX8_chosen_1 : decode cX8_chosen 1 = .ok (.istore 4, 2) := by decide +kernel
theorem dX8_chosen_3 : decode cX8_chosen 3 = .ok (.iconst 0, 1) := by decide +kernel
theorem dX8_chosen_4 : decode cX8_chosen 4 = .ok (.istore 5, 2) := by decide +kernel
theorem dX8_chosen_6 : decode cX8_chosen 6 = .ok (.iconst 0, 1) := by decide +kernel
theorem dX8_chosen_7 : decode cX8_chosen 7 = .ok (.istore 6, 2) := by decide +kernel
theorem dX8_chosen_9 : decode cX8_chosen 9 = .ok (.iload 6, 2) := by decide +kernel
theorem dX8_chosen_11 : decode cX8_chosen 11 = .ok (.bipush 60, 2) := by decide +kernel
theorem dX8_chosen_13 : decode cX8_chosen 13 = .ok (.if_icmp .ge 106, 3) := by decide +kernel
theorem dX8_chosen_16 : decode cX8_chosen 16 = .ok (.aload_n 0, 1) := by decide +kernel
theorem dX8_chosen_17 : decode cX8_chosen 17 = .ok (.getfield 13, 3) := by decide +kernel
theorem dX8_chosen_20 : decode cX8_chosen 20 = .ok (.bipush 19, 2) := by decide +kernel
theorem dX8_chosen_22 : decode cX8_chosen 22 = .ok (.iload 6, 2) := by decide +kernel
theorem dX8_chosen_24 : decode cX8_chosen 24 = .ok (.iadd, 1) := by decide +kernel
theorem dX8_chosen_25 : decode cX8_chosen 25 = .ok (.iaload, 1) := by decide +kernel
theorem dX8_chosen_26 : decode cX8_chosen 26 = .ok (.iconst 1, 1) := by decide +kernel
theorem dX8_chosen_27 : decode cX8_chosen 27 = .ok (.if_icmp .eq 86, 3) := by decide +kernel
theorem dX8_chosen_30 : decode cX8_chosen 30 = .ok (.aload_n 0, 1) := by decide +kernel
theorem dX8_chosen_31 : decode cX8_chosen 31 = .ok (.iload 6, 2) := by decide +kernel
theorem dX8_chosen_33 : decode cX8_chosen 33 = .ok (.invokevirtual 104, 3) := by decide +kernel
theorem dX8_chosen_36 : decode cX8_chosen 36 = .ok (.ifCond .eq 77, 3) := by decide +kernel
theorem dX8_chosen_39 : decode cX8_chosen 39 = .ok (.iload_n 1, 1) := by decide +kernel
theorem dX8_chosen_40 : decode cX8_chosen 40 = .ok (.iconst 1, 1) := by decide +kernel
theorem dX8_chosen_41 : decode cX8_chosen 41 = .ok (.if_icmp .ne 11, 3) := by decide +kernel
theorem dX8_chosen_44 : decode cX8_chosen 44 = .ok (.iload 6, 2) := by decide +kernel
theorem dX8_chosen_46 : decode cX8_chosen 46 = .ok (.invokestatic 130, 3) := by decide +kernel
theorem dX8_chosen_49 : decode cX8_chosen 49 = .ok (.ifCond .eq 64, 3) := by decide +kernel
theorem dX8_chosen_52 : decode cX8_chosen 52 = .ok (.aload_n 0, 1) := by decide +kernel
theorem dX8_chosen_53 : decode cX8_chosen 53 = .ok (.iload 6, 2) := by decide +kernel
theorem dX8_chosen_55 : decode cX8_chosen 55 = .ok (.invokevirtual 133, 3) := by decide +kernel
theorem dX8_chosen_58 : decode cX8_chosen 58 = .ok (.ifCond .ne 6, 3) := by decide +kernel
theorem dX8_chosen_61 : decode cX8_chosen 61 = .ok (.goto 52, 3) := by decide +kernel
theorem dX8_chosen_64 : decode cX8_chosen 64 = .ok (.iload_n 3, 1) := by decide +kernel
theorem dX8_chosen_65 : decode cX8_chosen 65 = .ok (.iload 6, 2) := by decide +kernel
theorem dX8_chosen_67 : decode cX8_chosen 67 = .ok (.invokestatic 136, 3) := by decide +kernel
theorem dX8_chosen_70 : decode cX8_chosen 70 = .ok (.aload_n 0, 1) := by decide +kernel
theorem dX8_chosen_71 : decode cX8_chosen 71 = .ok (.iload 6, 2) := by decide +kernel
theorem dX8_chosen_73 : decode cX8_chosen 73 = .ok (.iload_n 2, 1) := by decide +kernel
theorem dX8_chosen_74 : decode cX8_chosen 74 = .ok (.invokevirtual 139, 3) := by decide +kernel
theorem dX8_chosen_77 : decode cX8_chosen 77 = .ok (.ifCond .eq 9, 3) := by decide +kernel
theorem dX8_chosen_80 : decode cX8_chosen 80 = .ok (.sipush 1000, 3) := by decide +kernel
theorem dX8_chosen_83 : decode cX8_chosen 83 = .ok (.goto 4, 3) := by decide +kernel
theorem dX8_chosen_86 : decode cX8_chosen 86 = .ok (.iconst 0, 1) := by decide +kernel
theorem dX8_chosen_87 : decode cX8_chosen 87 = .ok (.iadd, 1) := by decide +kernel
theorem dX8_chosen_88 : decode cX8_chosen 88 = .ok (.istore 7, 2) := by decide +kernel
theorem dX8_chosen_90 : decode cX8_chosen 90 = .ok (.iload 4, 2) := by decide +kernel
theorem dX8_chosen_92 : decode cX8_chosen 92 = .ok (.ifCond .lt 13, 3) := by decide +kernel
theorem dX8_chosen_95 : decode cX8_chosen 95 = .ok (.iload 7, 2) := by decide +kernel
theorem dX8_chosen_97 : decode cX8_chosen 97 = .ok (.iload 5, 2) := by decide +kernel
theorem dX8_chosen_99 : decode cX8_chosen 99 = .ok (.if_icmp .lt 6, 3) := by decide +kernel
theorem dX8_chosen_102 : decode cX8_chosen 102 = .ok (.goto 11, 3) := by decide +kernel
theorem dX8_chosen_105 : decode cX8_chosen 105 = .ok (.iload 6, 2) := by decide +kernel
theorem dX8_chosen_107 : decode cX8_chosen 107 = .ok (.istore 4, 2) := by decide +kernel
theorem dX8_chosen_109 : decode cX8_chosen 109 = .ok (.iload 7, 2) := by decide +kernel
theorem dX8_chosen_111 : decode cX8_chosen 111 = .ok (.istore 5, 2) := by decide +kernel
theorem dX8_chosen_113 : decode cX8_chosen 113 = .ok (.iinc 6 1, 3) := by decide +kernel
theorem dX8_chosen_116 : decode cX8_chosen 116 = .ok (.goto (-107), 3) := by decide +kernel
theorem dX8_chosen_119 : decode cX8_chosen 119 = .ok (.iload 4, 2) := by decide +kernel
theorem dX8_chosen_121 : decode cX8_chosen 121 = .ok (.ireturn, 1) := by decide +kernel
theorem dX8_at_0 : decode cX8_at 0 = .ok (.aload_n 0, 1) := by decide +kernel
theorem dX8_at_1 : decode cX8_at 1 = .ok (.getfield 13, 3) := by decide +kernel
theorem dX8_at_4 : decode cX8_at 4 = .ok (.bipush 7, 2) := by decide +kernel
theorem dX8_at_6 : decode cX8_at 6 = .ok (.iconst 3, 1) := by decide +kernel
theorem dX8_at_7 : decode cX8_at 7 = .ok (.iload_n 1, 1) := by decide +kernel
theorem dX8_at_8 : decode cX8_at 8 = .ok (.imul, 1) := by decide +kernel
theorem dX8_at_9 : decode cX8_at 9 = .ok (.iadd, 1) := by decide +kernel
theorem dX8_at_10 : decode cX8_at 10 = .ok (.iaload, 1) := by decide +kernel
theorem dX8_at_11 : decode cX8_at 11 = .ok (.ireturn, 1) := by decide +kernel
theorem dX8_ready_0 : decode cX8_ready 0 = .ok (.aload_n 0, 1) := by decide +kernel
theorem dX8_ready_1 : decode cX8_ready 1 = .ok (.getfield 13, 3) := by decide +kernel
theorem dX8_ready_4 : decode cX8_ready 4 = .ok (.iconst 0, 1) := by decide +kernel
theorem dX8_ready_5 : decode cX8_ready 5 = .ok (.iaload, 1) := by decide +kernel
theorem dX8_ready_6 : decode cX8_ready 6 = .ok (.aload_n 0, 1) := by decide +kernel
theorem dX8_ready_7 : decode cX8_ready 7 = .ok (.getfield 13, 3) := by decide +kernel
theorem dX8_ready_10 : decode cX8_ready 10 = .ok (.bipush 7, 2) := by decide +kernel
theorem dX8_ready_12 : decode cX8_ready 12 = .ok (.iconst 3, 1) := by decide +kernel
theorem dX8_ready_13 : decode cX8_ready 13 = .ok (.iload_n 1, 1) := by decide +kernel
theorem dX8_ready_14 : decode cX8_ready 14 = .ok (.imul, 1) := by decide +kernel
theorem dX8_ready_15 : decode cX8_ready 15 = .ok (.iadd, 1) := by decide +kernel
theorem dX8_ready_16 : decode cX8_ready 16 = .ok (.iconst 1, 1) := by decide +kernel
theorem dX8_ready_17 : decode cX8_ready 17 = .ok (.iadd, 1) := by decide +kernel
theorem dX8_ready_18 : decode cX8_ready 18 = .ok (.iaload, 1) := by decide +kernel
theorem dX8_ready_19 : decode cX8_ready 19 = .ok (.invokestatic 143, 3) := by decide +kernel
theorem dX8_ready_22 : decode cX8_ready 22 = .ok (.ireturn, 1) := by decide +kernel
theorem dX8_does_0 : decode cX8_does 0 = .ok (.aload_n 0, 1) := by decide +kernel
theorem dX8_does_1 : decode cX8_does 1 = .ok (.iload_n 1, 1) := by decide +kernel
theorem dX8_does_2 : decode cX8_does 2 = .ok (.invokevirtual 146, 3) := by decide +kernel
theorem dX8_does_5 : decode cX8_does 5 = .ok (.istore 4, 2) := by decide +kernel
theorem dX8_does_7 : decode cX8_does 7 = .ok (.aload_n 0, 1) := by decide +kernel
theorem dX8_does_8 : decode cX8_does 8 = .ok (.aload_n 0, 1) := by decide +kernel
theorem dX8_does_9 : decode cX8_does 9 = .ok (.getfield 36, 3) := by decide +kernel
theorem dX8_does_12 : decode cX8_does 12 = .ok (.iload 4, 2) := by decide +kernel
theorem dX8_does_14 : decode cX8_does 14 = .ok (.invokestatic 149, 3) := by decide +kernel
theorem dX8_does_17 : decode cX8_does 17 = .ok (.putfield 36, 3) := by decide +kernel
theorem dX8_does_20 : decode cX8_does 20 = .ok (.aload_n 0, 1) := by decide +kernel
theorem dX8_does_21 : decode cX8_does 21 = .ok (.aload_n 0, 1) := by decide +kernel
theorem dX8_does_22 : decode cX8_does 22 = .ok (.getfield 39, 3) := by decide +kernel
theorem dX8_does_25 : decode cX8_does 25 = .ok (.iload_n 2, 1) := by decide +kernel
theorem dX8_does_26 : decode cX8_does 26 = .ok (.invokestatic 143, 3) := by decide +kernel
theorem dX8_does_29 : decode cX8_does 29 = .ok (.putfield 39, 3) := by decide +kernel
theorem dX8_does_32 : decode cX8_does 32 = .ok (.aload_n 0, 1) := by decide +kernel
theorem dX8_does_33 : decode cX8_does 33 = .ok (.getfield 13, 3) := by decide +kernel
theorem dX8_does_36 : decode cX8_does 36 = .ok (.bipush 7, 2) := by decide +kernel
theorem dX8_does_38 : decode cX8_does 38 = .ok (.iconst 3, 1) := by decide +kernel
theorem dX8_does_39 : decode cX8_does 39 = .ok (.iload_n 1, 1) := by decide +kernel
theorem dX8_does_40 : decode cX8_does 40 = .ok (.imul, 1) := by decide +kernel
theorem dX8_does_41 : decode cX8_does 41 = .ok (.iadd, 1) := by decide +kernel
theorem dX8_does_42 : decode cX8_does 42 = .ok (.iload_n 3, 1) := by decide +kernel
theorem dX8_does_43 : decode cX8_does 43 = .ok (.iastore, 1) := by decide +kernel
theorem dX8_does_44 : decode cX8_does 44 = .ok (.aload_n 0, 1) := by decide +kernel
theorem dX8_does_45 : decode cX8_does 45 = .ok (.getfield 13, 3) := by decide +kernel
theorem dX8_does_48 : decode cX8_does 48 = .ok (.bipush 7, 2) := by decide +kernel
theorem dX8_does_50 : decode cX8_does 50 = .ok (.iconst 3, 1) := by decide +kernel
theorem dX8_does_51 : decode cX8_does 51 = .ok (.iload_n 1, 1) := by decide +kernel
theorem dX8_does_52 : decode cX8_does 52 = .ok (.imul, 1) := by decide +kernel
theorem dX8_does_53 : decode cX8_does 53 = .ok (.iadd, 1) := by decide +kernel
theorem dX8_does_54 : decode cX8_does 54 = .ok (.iconst 2, 1) := by decide +kernel
theorem dX8_does_55 : decode cX8_does 55 = .ok (.iadd, 1) := by decide +kernel
theorem dX8_does_56 : decode cX8_does 56 = .ok (.dup2, 1) := by decide +kernel
theorem dX8_does_57 : decode cX8_does 57 = .ok (.iaload, 1) := by decide +kernel
theorem dX8_does_58 : decode cX8_does 58 = .ok (.iload_n 2, 1) := by decide +kernel
theorem dX8_does_59 : decode cX8_does 59 = .ok (.iload 4, 2) := by decide +kernel
theorem dX8_does_61 : decode cX8_does 61 = .ok (.isub, 1) := by decide +kernel
theorem dX8_does_62 : decode cX8_does 62 = .ok (.iadd, 1) := by decide +kernel
theorem dX8_does_63 : decode cX8_does 63 = .ok (.iastore, 1) := by decide +kernel
theorem dX8_does_64 : decode cX8_does 64 = .ok (.aload_n 0, 1) := by decide +kernel
theorem dX8_does_65 : decode cX8_does 65 = .ok (.getfield 13, 3) := by decide +kernel
theorem dX8_does_68 : decode cX8_does 68 = .ok (.bipush 7, 2) := by decide +kernel
theorem dX8_does_70 : decode cX8_does 70 = .ok (.iconst 3, 1) := by decide +kernel
theorem dX8_does_71 : decode cX8_does 71 = .ok (.iload_n 1, 1) := by decide +kernel
theorem dX8_does_72 : decode cX8_does 72 = .ok (.imul, 1) := by decide +kernel
theorem dX8_does_73 : decode cX8_does 73 = .ok (.iadd, 1) := by decide +kernel
theorem dX8_does_74 : decode cX8_does 74 = .ok (.iconst 1, 1) := by decide +kernel
theorem dX8_does_75 : decode cX8_does 75 = .ok (.iadd, 1) := by decide +kernel
theorem dX8_does_76 : decode cX8_does 76 = .ok (.iload_n 2, 1) := by decide +kernel
theorem dX8_does_77 : decode cX8_does 77 = .ok (.iastore, 1) := by decide +kernel
theorem dX8_does_78 : decode cX8_does 78 = .ok (.return_, 1) := by decide +kernel
theorem dX8_notes_0 : decode cX8_notes 0 = .ok (.aload_n 0, 1) := by decide +kernel
theorem dX8_notes_1 : decode cX8_notes 1 = .ok (.getfield 13, 3) := by decide +kernel
theorem dX8_notes_4 : decode cX8_notes 4 = .ok (.bipush 6, 2) := by decide +kernel
theorem dX8_notes_6 : decode cX8_notes 6 = .ok (.iaload, 1) := by decide +kernel
theorem dX8_notes_7 : decode cX8_notes 7 = .ok (.bipush 20, 2) := by decide +kernel
theorem dX8_notes_9 : decode cX8_notes 9 = .ok (.if_icmp .ne 51, 3) := by decide +kernel
theorem dX8_notes_12 : decode cX8_notes 12 = .ok (.sipush 299, 3) := by decide +kernel
theorem dX8_notes_15 : decode cX8_notes 15 = .ok (.istore 4, 2) := by decide +kernel
theorem dX8_notes_17 : decode cX8_notes 17 = .ok (.iload 4, 2) := by decide +kernel
theorem dX8_notes_19 : decode cX8_notes 19 = .ok (.iconst 5, 1) := by decide +kernel
theorem dX8_notes_20 : decode cX8_notes 20 = .ok (.iadd, 1) := by decide +kernel
theorem dX8_notes_21 : decode cX8_notes 21 = .ok (.sipush 399, 3) := by decide +kernel
theorem dX8_notes_24 : decode cX8_notes 24 = .ok (.if_icmp .ge 25, 3) := by decide +kernel
theorem dX8_notes_27 : decode cX8_notes 27 = .ok (.aload_n 0, 1) := by decide +kernel
theorem dX8_notes_28 : decode cX8_notes 28 = .ok (.getfield 13, 3) := by decide +kernel
theorem dX8_notes_31 : decode cX8_notes 31 = .ok (.iload 4, 2) := by decide +kernel
theorem dX8_notes_33 : decode cX8_notes 33 = .ok (.aload_n 0, 1) := by decide +kernel
theorem dX8_notes_34 : decode cX8_notes 34 = .ok (.getfield 13, 3) := by decide +kernel
theorem dX8_notes_37 : decode cX8_notes 37 = .ok (.iload 4, 2) := by decide +kernel
theorem dX8_notes_39 : decode cX8_notes 39 = .ok (.iconst 5, 1) := by decide +kernel
theorem dX8_notes_40 : decode cX8_notes 40 = .ok (.iadd, 1) := by decide +kernel
theorem dX8_notes_41 : decode cX8_notes 41 = .ok (.iaload, 1) := by decide +kernel
theorem dX8_notes_42 : decode cX8_notes 42 = .ok (.iastore, 1) := by decide +kernel
theorem dX8_notes_43 : decode cX8_notes 43 = .ok (.iinc 4 1, 3) := by decide +kernel
theorem dX8_notes_46 : decode cX8_notes 46 = .ok (.goto (-29), 3) := by decide +kernel
theorem dX8_notes_49 : decode cX8_notes 49 = .ok (.aload_n 0, 1) := by decide +kernel
theorem dX8_notes_50 : decode cX8_notes 50 = .ok (.getfield 13, 3) := by decide +kernel
theorem dX8_notes_53 : decode cX8_notes 53 = .ok (.bipush 6, 2) := by decide +kernel
theorem dX8_notes_55 : decode cX8_notes 55 = .ok (.dup2, 1) := by decide +kernel
theorem dX8_notes_56 : decode cX8_notes 56 = .ok (.iaload, 1) := by decide +kernel
theorem dX8_notes_57 : decode cX8_notes 57 = .ok (.iconst 1, 1) := by decide +kernel
theorem dX8_notes_58 : decode cX8_notes 58 = .ok (.isub, 1) := by decide +kernel
theorem dX8_notes_59 : decode cX8_notes 59 = .ok (.iastore, 1) := by decide +kernel
theorem dX8_notes_60 : decode cX8_notes 60 = .ok (.sipush 299, 3) := by decide +kernel
theorem dX8_notes_63 : decode cX8_notes 63 = .ok (.iconst 5, 1) := by decide +kernel
theorem dX8_notes_64 : decode cX8_notes 64 = .ok (.aload_n 0, 1) := by decide +kernel
theorem dX8_notes_65 : decode cX8_notes 65 = .ok (.getfield 13, 3) := by decide +kernel
theorem dX8_notes_68 : decode cX8_notes 68 = .ok (.bipush 6, 2) := by decide +kernel
theorem dX8_notes_70 : decode cX8_notes 70 = .ok (.iaload, 1) := by decide +kernel
theorem dX8_notes_71 : decode cX8_notes 71 = .ok (.imul, 1) := by decide +kernel
theorem dX8_notes_72 : decode cX8_notes 72 = .ok (.iadd, 1) := by decide +kernel
theorem dX8_notes_73 : decode cX8_notes 73 = .ok (.istore 4, 2) := by decide +kernel
theorem dX8_notes_75 : decode cX8_notes 75 = .ok (.aload_n 0, 1) := by decide +kernel
theorem dX8_notes_76 : decode cX8_notes 76 = .ok (.getfield 13, 3) := by decide +kernel
theorem dX8_notes_79 : decode cX8_notes 79 = .ok (.iload 4, 2) := by decide +kernel
theorem dX8_notes_81 : decode cX8_notes 81 = .ok (.iload_n 1, 1) := by decide +kernel
theorem dX8_notes_82 : decode cX8_notes 82 = .ok (.iastore, 1) := by decide +kernel
theorem dX8_notes_83 : decode cX8_notes 83 = .ok (.aload_n 0, 1) := by decide +kernel
theorem dX8_notes_84 : decode cX8_notes 84 = .ok (.getfield 13, 3) := by decide +kernel
theorem dX8_notes_87 : decode cX8_notes 87 = .ok (.iload 4, 2) := by decide +kernel
theorem dX8_notes_89 : decode cX8_notes 89 = .ok (.iconst 1, 1) := by decide +kernel
theorem dX8_notes_90 : decode cX8_notes 90 = .ok (.iadd, 1) := by decide +kernel
theorem dX8_notes_91 : decode cX8_notes 91 = .ok (.iload_n 2, 1) := by decide +kernel
theorem dX8_notes_92 : decode cX8_notes 92 = .ok (.iastore, 1) := by decide +kernel
theorem dX8_notes_93 : decode cX8_notes 93 = .ok (.aload_n 0, 1) := by decide +kernel
theorem dX8_notes_94 : decode cX8_notes 94 = .ok (.getfield 13, 3) := by decide +kernel
theorem dX8_notes_97 : decode cX8_notes 97 = .ok (.iload 4, 2) := by decide +kernel
theorem dX8_notes_99 : decode cX8_notes 99 = .ok (.iconst 2, 1) := by decide +kernel
theorem dX8_notes_100 : decode cX8_notes 100 = .ok (.iadd, 1) := by decide +kernel
theorem dX8_notes_101 : decode cX8_notes 101 = .ok (.iload_n 3, 1) := by decide +kernel
theorem dX8_notes_102 : decode cX8_notes 102 = .ok (.iastore, 1) := by decide +kernel
theorem dX8_notes_103 : decode cX8_notes 103 = .ok (.aload_n 0, 1) := by decide +kernel
theorem dX8_notes_104 : decode cX8_notes 104 = .ok (.getfield 13, 3) := by decide +kernel
theorem dX8_notes_107 : decode cX8_notes 107 = .ok (.iload 4, 2) := by decide +kernel
theorem dX8_notes_109 : decode cX8_notes 109 = .ok (.iconst 3, 1) := by decide +kernel
theorem dX8_notes_110 : decode cX8_notes 110 = .ok (.iadd, 1) := by decide +kernel
theorem dX8_notes_111 : decode cX8_notes 111 = .ok (.aload_n 0, 1) := by decide +kernel
theorem dX8_notes_112 : decode cX8_notes 112 = .ok (.getfield 36, 3) := by decide +kernel
theorem dX8_notes_115 : decode cX8_notes 115 = .ok (.iastore, 1) := by decide +kernel
theorem dX8_notes_116 : decode cX8_notes 116 = .ok (.aload_n 0, 1) := by decide +kernel
theorem dX8_notes_117 : decode cX8_notes 117 = .ok (.getfield 13, 3) := by decide +kernel
theorem dX8_notes_120 : decode cX8_notes 120 = .ok (.iload 4, 2) := by decide +kernel
theorem dX8_notes_122 : decode cX8_notes 122 = .ok (.iconst 4, 1) := by decide +kernel
theorem dX8_notes_123 : decode cX8_notes 123 = .ok (.iadd, 1) := by decide +kernel
theorem dX8_notes_124 : decode cX8_notes 124 = .ok (.aload_n 0, 1) := by decide +kernel
theorem dX8_notes_125 : decode cX8_notes 125 = .ok (.getfield 39, 3) := by decide +kernel
theorem dX8_notes_128 : decode cX8_notes 128 = .ok (.iastore, 1) := by decide +kernel
theorem dX8_notes_129 : decode cX8_notes 129 = .ok (.aload_n 0, 1) := by decide +kernel
theorem dX8_notes_130 : decode cX8_notes 130 = .ok (.getfield 13, 3) := by decide +kernel
theorem dX8_notes_133 : decode cX8_notes 133 = .ok (.bipush 6, 2) := by decide +kernel
theorem dX8_notes_135 : decode cX8_notes 135 = .ok (.dup2, 1) := by decide +kernel
theorem dX8_notes_136 : decode cX8_notes 136 = .ok (.iaload, 1) := by decide +kernel
theorem dX8_notes_137 : decode cX8_notes 137 = .ok (.iconst 1, 1) := by decide +kernel
theorem dX8_notes_138 : decode cX8_notes 138 = .ok (.iadd, 1) := by decide +kernel
theorem dX8_notes_139 : decode cX8_notes 139 = .ok (.iastore, 1) := by decide +kernel
theorem dX8_notes_140 : decode cX8_notes 140 = .ok (.aload_n 0, 1) := by decide +kernel
theorem dX8_notes_141 : decode cX8_notes 141 = .ok (.getfield 13, 3) := by decide +kernel
theorem dX8_notes_144 : decode cX8_notes 144 = .ok (.iconst 4, 1) := by decide +kernel
theorem dX8_notes_145 : decode cX8_notes 145 = .ok (.dup2, 1) := by decide +kernel
theorem dX8_notes_146 : decode cX8_notes 146 = .ok (.iaload, 1) := by decide +kernel
theorem dX8_notes_147 : decode cX8_notes 147 = .ok (.aload_n 0, 1) := by decide +kernel
theorem dX8_notes_148 : decode cX8_notes 148 = .ok (.getfield 39, 3) := by decide +kernel
theorem dX8_notes_151 : decode cX8_notes 151 = .ok (.aload_n 0, 1) := by decide +kernel
theorem dX8_notes_152 : decode cX8_notes 152 = .ok (.getfield 36, 3) := by decide +kernel
theorem dX8_notes_155 : decode cX8_notes 155 = .ok (.isub, 1) := by decide +kernel
theorem dX8_notes_156 : decode cX8_notes 156 = .ok (.iadd, 1) := by decide +kernel
theorem dX8_notes_157 : decode cX8_notes 157 = .ok (.iastore, 1) := by decide +kernel
theorem dX8_notes_158 : decode cX8_notes 158 = .ok (.aload_n 0, 1) := by decide +kernel
theorem dX8_notes_159 : decode cX8_notes 159 = .ok (.getfield 13, 3) := by decide +kernel
theorem dX8_notes_162 : decode cX8_notes 162 = .ok (.iconst 5, 1) := by decide +kernel
theorem dX8_notes_163 : decode cX8_notes 163 = .ok (.aload_n 0, 1) := by decide +kernel
theorem dX8_notes_164 : decode cX8_notes 164 = .ok (.getfield 13, 3) := by decide +kernel
theorem dX8_notes_167 : decode cX8_notes 167 = .ok (.iconst 5, 1) := by decide +kernel
theorem dX8_notes_168 : decode cX8_notes 168 = .ok (.iaload, 1) := by decide +kernel
theorem dX8_notes_169 : decode cX8_notes 169 = .ok (.aload_n 0, 1) := by decide +kernel
theorem dX8_notes_170 : decode cX8_notes 170 = .ok (.getfield 39, 3) := by decide +kernel
theorem dX8_notes_173 : decode cX8_notes 173 = .ok (.invokestatic 143, 3) := by decide +kernel
theorem dX8_notes_176 : decode cX8_notes 176 = .ok (.iastore, 1) := by decide +kernel
theorem dX8_notes_177 : decode cX8_notes 177 = .ok (.aload_n 0, 1) := by decide +kernel
theorem dX8_notes_178 : decode cX8_notes 178 = .ok (.getfield 13, 3) := by decide +kernel
theorem dX8_notes_181 : decode cX8_notes 181 = .ok (.sipush 139, 3) := by decide +kernel
theorem dX8_notes_184 : decode cX8_notes 184 = .ok (.iconst 4, 1) := by decide +kernel
theorem dX8_notes_185 : decode cX8_notes 185 = .ok (.iload_n 1, 1) := by decide +kernel
theorem dX8_notes_186 : decode cX8_notes 186 = .ok (.imul, 1) := by decide +kernel
theorem dX8_notes_187 : decode cX8_notes 187 = .ok (.iadd, 1) := by decide +kernel
theorem dX8_notes_188 : decode cX8_notes 188 = .ok (.iconst 3, 1) := by decide +kernel
theorem dX8_notes_189 : decode cX8_notes 189 = .ok (.iadd, 1) := by decide +kernel
theorem dX8_notes_190 : decode cX8_notes 190 = .ok (.dup2, 1) := by decide +kernel
theorem dX8_notes_191 : decode cX8_notes 191 = .ok (.iaload, 1) := by decide +kernel
theorem dX8_notes_192 : decode cX8_notes 192 = .ok (.iconst 1, 1) := by decide +kernel
theorem dX8_notes_193 : decode cX8_notes 193 = .ok (.iadd, 1) := by decide +kernel
theorem dX8_notes_194 : decode cX8_notes 194 = .ok (.iastore, 1) := by decide +kernel
theorem dX8_notes_195 : decode cX8_notes 195 = .ok (.aload_n 0, 1) := by decide +kernel
theorem dX8_notes_196 : decode cX8_notes 196 = .ok (.getfield 13, 3) := by decide +kernel
theorem dX8_notes_199 : decode cX8_notes 199 = .ok (.sipush 139, 3) := by decide +kernel
theorem dX8_notes_202 : decode cX8_notes 202 = .ok (.iconst 4, 1) := by decide +kernel
theorem dX8_notes_203 : decode cX8_notes 203 = .ok (.iload_n 1, 1) := by decide +kernel
theorem dX8_notes_204 : decode cX8_notes 204 = .ok (.imul, 1) := by decide +kernel
theorem dX8_notes_205 : decode cX8_notes 205 = .ok (.iadd, 1) := by decide +kernel
theorem dX8_notes_206 : decode cX8_notes 206 = .ok (.iconst 2, 1) := by decide +kernel
theorem dX8_notes_207 : decode cX8_notes 207 = .ok (.iadd, 1) := by decide +kernel
theorem dX8_notes_208 : decode cX8_notes 208 = .ok (.iload_n 3, 1) := by decide +kernel
theorem dX8_notes_209 : decode cX8_notes 209 = .ok (.iastore, 1) := by decide +kernel
theorem dX8_notes_210 : decode cX8_notes 210 = .ok (.iload_n 2, 1) := by decide +kernel
theorem dX8_notes_211 : decode cX8_notes 211 = .ok (.ifCond .lt 13, 3) := by decide +kernel
theorem dX8_notes_214 : decode cX8_notes 214 = .ok (.aload_n 0, 1) := by decide +kernel
theorem dX8_notes_215 : decode cX8_notes 215 = .ok (.getfield 13, 3) := by decide +kernel
theorem dX8_notes_218 : decode cX8_notes 218 = .ok (.bipush 79, 2) := by decide +kernel
theorem dX8_notes_220 : decode cX8_notes 220 = .ok (.iload_n 2, 1) := by decide +kernel
theorem dX8_notes_221 : decode cX8_notes 221 = .ok (.iadd, 1) := by decide +kernel
theorem dX8_notes_222 : decode cX8_notes 222 = .ok (.iconst (-1), 1) := by decide +kernel
theorem dX8_notes_223 : decode cX8_notes 223 = .ok (.iastore, 1) := by decide +kernel
theorem dX8_notes_224 : decode cX8_notes 224 = .ok (.iload_n 3, 1) := by decide +kernel
theorem dX8_notes_225 : decode cX8_notes 225 = .ok (.ifCond .lt 13, 3) := by decide +kernel
theorem dX8_notes_228 : decode cX8_notes 228 = .ok (.aload_n 0, 1) := by decide +kernel
theorem dX8_notes_229 : decode cX8_notes 229 = .ok (.getfield 13, 3) := by decide +kernel
theorem dX8_notes_232 : decode cX8_notes 232 = .ok (.bipush 79, 2) := by decide +kernel
theorem dX8_notes_234 : decode cX8_notes 234 = .ok (.iload_n 3, 1) := by decide +kernel
theorem dX8_notes_235 : decode cX8_notes 235 = .ok (.iadd, 1) := by decide +kernel
theorem dX8_notes_236 : decode cX8_notes 236 = .ok (.iload_n 1, 1) := by decide +kernel
theorem dX8_notes_237 : decode cX8_notes 237 = .ok (.iastore, 1) := by decide +kernel
theorem dX8_notes_238 : decode cX8_notes 238 = .ok (.return_, 1) := by decide +kernel
theorem dX8_handling_0 : decode cX8_handling 0 = .ok (.iconst 2, 1) := by decide +kernel
theorem dX8_handling_1 : decode cX8_handling 1 = .ok (.iload_n 0, 1) := by decide +kernel
theorem dX8_handling_2 : decode cX8_handling 2 = .ok (.invokestatic 101, 3) := by decide +kernel
theorem dX8_handling_5 : decode cX8_handling 5 = .ok (.iadd, 1) := by decide +kernel
theorem dX8_handling_6 : decode cX8_handling 6 = .ok (.ireturn, 1) := by decide +kernel
theorem dX8_jobBegins_0 : decode cX8_jobBegins 0 = .ok (.aload_n 0, 1) := by decide +kernel
theorem dX8_jobBegins_1 : decode cX8_jobBegins 1 = .ok (.ldc 154, 2) := by decide +kernel
theorem dX8_jobBegins_3 : decode cX8_jobBegins 3 = .ok (.putfield 36, 3) := by decide +kernel
theorem dX8_jobBegins_6 : decode cX8_jobBegins 6 = .ok (.aload_n 0, 1) := by decide +kernel
theorem dX8_jobBegins_7 : decode cX8_jobBegins 7 = .ok (.iconst 0, 1) := by decide +kernel
theorem dX8_jobBegins_8 : decode cX8_jobBegins 8 = .ok (.putfield 39, 3) := by decide +kernel
theorem dX8_jobBegins_11 : decode cX8_jobBegins 11 = .ok (.return_, 1) := by decide +kernel
theorem dX8_bringsIn_0 : decode cX8_bringsIn 0 = .ok (.aload_n 0, 1) := by decide +kernel
theorem dX8_bringsIn_1 : decode cX8_bringsIn 1 = .ok (.invokevirtual 155, 3) := by decide +kernel
theorem dX8_bringsIn_4 : decode cX8_bringsIn 4 = .ok (.iload_n 2, 1) := by decide +kernel
theorem dX8_bringsIn_5 : decode cX8_bringsIn 5 = .ok (.invokestatic 122, 3) := by decide +kernel
theorem dX8_bringsIn_8 : decode cX8_bringsIn 8 = .ok (.istore_n 3, 1) := by decide +kernel
theorem dX8_bringsIn_9 : decode cX8_bringsIn 9 = .ok (.aload_n 0, 1) := by decide +kernel
theorem dX8_bringsIn_10 : decode cX8_bringsIn 10 = .ok (.iconst 3, 1) := by decide +kernel
theorem dX8_bringsIn_11 : decode cX8_bringsIn 11 = .ok (.invokevirtual 146, 3) := by decide +kernel
theorem dX8_bringsIn_14 : decode cX8_bringsIn 14 = .ok (.iconst 3, 1) := by decide +kernel
theorem dX8_bringsIn_15 : decode cX8_bringsIn 15 = .ok (.aload_n 0, 1) := by decide +kernel
theorem dX8_bringsIn_16 : decode cX8_bringsIn 16 = .ok (.iconst 3, 1) := by decide +kernel
theorem dX8_bringsIn_17 : decode cX8_bringsIn 17 = .ok (.invokevirtual 158, 3) := by decide +kernel
theorem dX8_bringsIn_20 : decode cX8_bringsIn 20 = .ok (.imul, 1) := by decide +kernel
theorem dX8_bringsIn_21 : decode cX8_bringsIn 21 = .ok (.iadd, 1) := by decide +kernel
theorem dX8_bringsIn_22 : decode cX8_bringsIn 22 = .ok (.iconst 2, 1) := by decide +kernel
theorem dX8_bringsIn_23 : decode cX8_bringsIn 23 = .ok (.iadd, 1) := by decide +kernel
theorem dX8_bringsIn_24 : decode cX8_bringsIn 24 = .ok (.iconst 3, 1) := by decide +kernel
theorem dX8_bringsIn_25 : decode cX8_bringsIn 25 = .ok (.iload_n 3, 1) := by decide +kernel
theorem dX8_bringsIn_26 : decode cX8_bringsIn 26 = .ok (.imul, 1) := by decide +kernel
theorem dX8_bringsIn_27 : decode cX8_bringsIn 27 = .ok (.iadd, 1) := by decide +kernel
theorem dX8_bringsIn_28 : decode cX8_bringsIn 28 = .ok (.istore 4, 2) := by decide +kernel
theorem dX8_bringsIn_30 : decode cX8_bringsIn 30 = .ok (.aload_n 0, 1) := by decide +kernel
theorem dX8_bringsIn_31 : decode cX8_bringsIn 31 = .ok (.iload_n 3, 1) := by decide +kernel
theorem dX8_bringsIn_32 : decode cX8_bringsIn 32 = .ok (.invokevirtual 146, 3) := by decide +kernel
theorem dX8_bringsIn_35 : decode cX8_bringsIn 35 = .ok (.aload_n 0, 1) := by decide +kernel
theorem dX8_bringsIn_36 : decode cX8_bringsIn 36 = .ok (.iload_n 3, 1) := by decide +kernel
theorem dX8_bringsIn_37 : decode cX8_bringsIn 37 = .ok (.invokevirtual 158, 3) := by decide +kernel
theorem dX8_bringsIn_40 : decode cX8_bringsIn 40 = .ok (.iadd, 1) := by decide +kernel
theorem dX8_bringsIn_41 : decode cX8_bringsIn 41 = .ok (.istore 5, 2) := by decide +kernel
theorem dX8_bringsIn_43 : decode cX8_bringsIn 43 = .ok (.iload 4, 2) := by decide +kernel
theorem dX8_bringsIn_45 : decode cX8_bringsIn 45 = .ok (.iload 5, 2) := by decide +kernel
theorem dX8_bringsIn_47 : decode cX8_bringsIn 47 = .ok (.invokestatic 143, 3) := by decide +kernel
theorem dX8_bringsIn_50 : decode cX8_bringsIn 50 = .ok (.iconst 2, 1) := by decide +kernel
theorem dX8_bringsIn_51 : decode cX8_bringsIn 51 = .ok (.iadd, 1) := by decide +kernel
theorem dX8_bringsIn_52 : decode cX8_bringsIn 52 = .ok (.istore 6, 2) := by decide +kernel
theorem dX8_bringsIn_54 : decode cX8_bringsIn 54 = .ok (.aload_n 0, 1) := by decide +kernel
theorem dX8_bringsIn_55 : decode cX8_bringsIn 55 = .ok (.iconst 3, 1) := by decide +kernel
theorem dX8_bringsIn_56 : decode cX8_bringsIn 56 = .ok (.iload 6, 2) := by decide +kernel
theorem dX8_bringsIn_58 : decode cX8_bringsIn 58 = .ok (.iload_n 3, 1) := by decide +kernel
theorem dX8_bringsIn_59 : decode cX8_bringsIn 59 = .ok (.invokevirtual 161, 3) := by decide +kernel
theorem dX8_bringsIn_62 : decode cX8_bringsIn 62 = .ok (.aload_n 0, 1) := by decide +kernel
theorem dX8_bringsIn_63 : decode cX8_bringsIn 63 = .ok (.iload_n 3, 1) := by decide +kernel
theorem dX8_bringsIn_64 : decode cX8_bringsIn 64 = .ok (.iload 6, 2) := by decide +kernel
theorem dX8_bringsIn_66 : decode cX8_bringsIn 66 = .ok (.iload_n 2, 1) := by decide +kernel
theorem dX8_bringsIn_67 : decode cX8_bringsIn 67 = .ok (.invokestatic 97, 3) := by decide +kernel
theorem dX8_bringsIn_70 : decode cX8_bringsIn 70 = .ok (.iadd, 1) := by decide +kernel
theorem dX8_bringsIn_71 : decode cX8_bringsIn 71 = .ok (.iload_n 2, 1) := by decide +kernel
theorem dX8_bringsIn_72 : decode cX8_bringsIn 72 = .ok (.invokestatic 165, 3) := by decide +kernel
theorem dX8_bringsIn_75 : decode cX8_bringsIn 75 = .ok (.iadd, 1) := by decide +kernel
theorem dX8_bringsIn_76 : decode cX8_bringsIn 76 = .ok (.iload_n 2, 1) := by decide +kernel
theorem dX8_bringsIn_77 : decode cX8_bringsIn 77 = .ok (.invokestatic 97, 3) := by decide +kernel
theorem dX8_bringsIn_80 : decode cX8_bringsIn 80 = .ok (.invokevirtual 161, 3) := by decide +kernel
theorem dX8_bringsIn_83 : decode cX8_bringsIn 83 = .ok (.aload_n 0, 1) := by decide +kernel
theorem dX8_bringsIn_84 : decode cX8_bringsIn 84 = .ok (.iload_n 1, 1) := by decide +kernel
theorem dX8_bringsIn_85 : decode cX8_bringsIn 85 = .ok (.iconst (-1), 1) := by decide +kernel
theorem dX8_bringsIn_86 : decode cX8_bringsIn 86 = .ok (.iload_n 2, 1) := by decide +kernel
theorem dX8_bringsIn_87 : decode cX8_bringsIn 87 = .ok (.invokevirtual 168, 3) := by decide +kernel
theorem dX8_bringsIn_90 : decode cX8_bringsIn 90 = .ok (.return_, 1) := by decide +kernel
theorem dX8_bringsOut_0 : decode cX8_bringsOut 0 = .ok (.aload_n 0, 1) := by decide +kernel
theorem dX8_bringsOut_1 : decode cX8_bringsOut 1 = .ok (.invokevirtual 155, 3) := by decide +kernel
theorem dX8_bringsOut_4 : decode cX8_bringsOut 4 = .ok (.aload_n 0, 1) := by decide +kernel
theorem dX8_bringsOut_5 : decode cX8_bringsOut 5 = .ok (.iload_n 1, 1) := by decide +kernel
theorem dX8_bringsOut_6 : decode cX8_bringsOut 6 = .ok (.invokevirtual 116, 3) := by decide +kernel
theorem dX8_bringsOut_9 : decode cX8_bringsOut 9 = .ok (.istore_n 2, 1) := by decide +kernel
theorem dX8_bringsOut_10 : decode cX8_bringsOut 10 = .ok (.iload_n 2, 1) := by decide +kernel
theorem dX8_bringsOut_11 : decode cX8_bringsOut 11 = .ok (.invokestatic 122, 3) := by decide +kernel
theorem dX8_bringsOut_14 : decode cX8_bringsOut 14 = .ok (.istore_n 3, 1) := by decide +kernel
theorem dX8_bringsOut_15 : decode cX8_bringsOut 15 = .ok (.aload_n 0, 1) := by decide +kernel
theorem dX8_bringsOut_16 : decode cX8_bringsOut 16 = .ok (.iload_n 3, 1) := by decide +kernel
theorem dX8_bringsOut_17 : decode cX8_bringsOut 17 = .ok (.invokevirtual 146, 3) := by decide +kernel
theorem dX8_bringsOut_20 : decode cX8_bringsOut 20 = .ok (.aload_n 0, 1) := by decide +kernel
theorem dX8_bringsOut_21 : decode cX8_bringsOut 21 = .ok (.iload_n 3, 1) := by decide +kernel
theorem dX8_bringsOut_22 : decode cX8_bringsOut 22 = .ok (.invokevirtual 158, 3) := by decide +kernel
theorem dX8_bringsOut_25 : decode cX8_bringsOut 25 = .ok (.iload_n 2, 1) := by decide +kernel
theorem dX8_bringsOut_26 : decode cX8_bringsOut 26 = .ok (.invokestatic 97, 3) := by decide +kernel
theorem dX8_bringsOut_29 : decode cX8_bringsOut 29 = .ok (.isub, 1) := by decide +kernel
theorem dX8_bringsOut_30 : decode cX8_bringsOut 30 = .ok (.invokestatic 125, 3) := by decide +kernel
theorem dX8_bringsOut_33 : decode cX8_bringsOut 33 = .ok (.iadd, 1) := by decide +kernel
theorem dX8_bringsOut_34 : decode cX8_bringsOut 34 = .ok (.iload_n 2, 1) := by decide +kernel
theorem dX8_bringsOut_35 : decode cX8_bringsOut 35 = .ok (.invokestatic 165, 3) := by decide +kernel
theorem dX8_bringsOut_38 : decode cX8_bringsOut 38 = .ok (.iadd, 1) := by decide +kernel
theorem dX8_bringsOut_39 : decode cX8_bringsOut 39 = .ok (.iload_n 2, 1) := by decide +kernel
theorem dX8_bringsOut_40 : decode cX8_bringsOut 40 = .ok (.invokestatic 97, 3) := by decide +kernel
theorem dX8_bringsOut_43 : decode cX8_bringsOut 43 = .ok (.iadd, 1) := by decide +kernel
theorem dX8_bringsOut_44 : decode cX8_bringsOut 44 = .ok (.istore 4, 2) := by decide +kernel
theorem dX8_bringsOut_46 : decode cX8_bringsOut 46 = .ok (.aload_n 0, 1) := by decide +kernel
theorem dX8_bringsOut_47 : decode cX8_bringsOut 47 = .ok (.iconst 3, 1) := by decide +kernel
theorem dX8_bringsOut_48 : decode cX8_bringsOut 48 = .ok (.invokevirtual 146, 3) := by decide +kernel
theorem dX8_bringsOut_51 : decode cX8_bringsOut 51 = .ok (.iconst 3, 1) := by decide +kernel
theorem dX8_bringsOut_52 : decode cX8_bringsOut 52 = .ok (.aload_n 0, 1) := by decide +kernel
theorem dX8_bringsOut_53 : decode cX8_bringsOut 53 = .ok (.iconst 3, 1) := by decide +kernel
theorem dX8_bringsOut_54 : decode cX8_bringsOut 54 = .ok (.invokevirtual 158, 3) := by decide +kernel
theorem dX8_bringsOut_57 : decode cX8_bringsOut 57 = .ok (.iload_n 3, 1) := by decide +kernel
theorem dX8_bringsOut_58 : decode cX8_bringsOut 58 = .ok (.isub, 1) := by decide +kernel
theorem dX8_bringsOut_59 : decode cX8_bringsOut 59 = .ok (.invokestatic 125, 3) := by decide +kernel
theorem dX8_bringsOut_62 : decode cX8_bringsOut 62 = .ok (.imul, 1) := by decide +kernel
theorem dX8_bringsOut_63 : decode cX8_bringsOut 63 = .ok (.iadd, 1) := by decide +kernel
theorem dX8_bringsOut_64 : decode cX8_bringsOut 64 = .ok (.istore 5, 2) := by decide +kernel
theorem dX8_bringsOut_66 : decode cX8_bringsOut 66 = .ok (.iload 5, 2) := by decide +kernel
theorem dX8_bringsOut_68 : decode cX8_bringsOut 68 = .ok (.iload 4, 2) := by decide +kernel
theorem dX8_bringsOut_70 : decode cX8_bringsOut 70 = .ok (.invokestatic 143, 3) := by decide +kernel
theorem dX8_bringsOut_73 : decode cX8_bringsOut 73 = .ok (.iconst 2, 1) := by decide +kernel
theorem dX8_bringsOut_74 : decode cX8_bringsOut 74 = .ok (.iadd, 1) := by decide +kernel
theorem dX8_bringsOut_75 : decode cX8_bringsOut 75 = .ok (.istore 6, 2) := by decide +kernel
theorem dX8_bringsOut_77 : decode cX8_bringsOut 77 = .ok (.aload_n 0, 1) := by decide +kernel
theorem dX8_bringsOut_78 : decode cX8_bringsOut 78 = .ok (.iload_n 3, 1) := by decide +kernel
theorem dX8_bringsOut_79 : decode cX8_bringsOut 79 = .ok (.iload 6, 2) := by decide +kernel
theorem dX8_bringsOut_81 : decode cX8_bringsOut 81 = .ok (.iconst 0, 1) := by decide +kernel
theorem dX8_bringsOut_82 : decode cX8_bringsOut 82 = .ok (.invokevirtual 161, 3) := by decide +kernel
theorem dX8_bringsOut_85 : decode cX8_bringsOut 85 = .ok (.aload_n 0, 1) := by decide +kernel
theorem dX8_bringsOut_86 : decode cX8_bringsOut 86 = .ok (.iconst 3, 1) := by decide +kernel
theorem dX8_bringsOut_87 : decode cX8_bringsOut 87 = .ok (.iload 6, 2) := by decide +kernel
theorem dX8_bringsOut_89 : decode cX8_bringsOut 89 = .ok (.iconst 3, 1) := by decide +kernel
theorem dX8_bringsOut_90 : decode cX8_bringsOut 90 = .ok (.iload_n 3, 1) := by decide +kernel
theorem dX8_bringsOut_91 : decode cX8_bringsOut 91 = .ok (.imul, 1) := by decide +kernel
theorem dX8_bringsOut_92 : decode cX8_bringsOut 92 = .ok (.iadd, 1) := by decide +kernel
theorem dX8_bringsOut_93 : decode cX8_bringsOut 93 = .ok (.iconst 2, 1) := by decide +kernel
theorem dX8_bringsOut_94 : decode cX8_bringsOut 94 = .ok (.iadd, 1) := by decide +kernel
theorem dX8_bringsOut_95 : decode cX8_bringsOut 95 = .ok (.iconst 0, 1) := by decide +kernel
theorem dX8_bringsOut_96 : decode cX8_bringsOut 96 = .ok (.invokevirtual 161, 3) := by decide +kernel
theorem dX8_bringsOut_99 : decode cX8_bringsOut 99 = .ok (.aload_n 0, 1) := by decide +kernel
theorem dX8_bringsOut_100 : decode cX8_bringsOut 100 = .ok (.iload_n 1, 1) := by decide +kernel
theorem dX8_bringsOut_101 : decode cX8_bringsOut 101 = .ok (.iload_n 2, 1) := by decide +kernel
theorem dX8_bringsOut_102 : decode cX8_bringsOut 102 = .ok (.iconst (-1), 1) := by decide +kernel
theorem dX8_bringsOut_103 : decode cX8_bringsOut 103 = .ok (.invokevirtual 168, 3) := by decide +kernel
theorem dX8_bringsOut_106 : decode cX8_bringsOut 106 = .ok (.aload_n 0, 1) := by decide +kernel
theorem dX8_bringsOut_107 : decode cX8_bringsOut 107 = .ok (.getfield 13, 3) := by decide +kernel
theorem dX8_bringsOut_110 : decode cX8_bringsOut 110 = .ok (.iconst 2, 1) := by decide +kernel
theorem dX8_bringsOut_111 : decode cX8_bringsOut 111 = .ok (.dup2, 1) := by decide +kernel
theorem dX8_bringsOut_112 : decode cX8_bringsOut 112 = .ok (.iaload, 1) := by decide +kernel
theorem dX8_bringsOut_113 : decode cX8_bringsOut 113 = .ok (.iconst 1, 1) := by decide +kernel
theorem dX8_bringsOut_114 : decode cX8_bringsOut 114 = .ok (.iadd, 1) := by decide +kernel
theorem dX8_bringsOut_115 : decode cX8_bringsOut 115 = .ok (.iastore, 1) := by decide +kernel
theorem dX8_bringsOut_116 : decode cX8_bringsOut 116 = .ok (.return_, 1) := by decide +kernel
theorem dX8_moves_0 : decode cX8_moves 0 = .ok (.aload_n 0, 1) := by decide +kernel
theorem dX8_moves_1 : decode cX8_moves 1 = .ok (.invokevirtual 155, 3) := by decide +kernel
theorem dX8_moves_4 : decode cX8_moves 4 = .ok (.aload_n 0, 1) := by decide +kernel
theorem dX8_moves_5 : decode cX8_moves 5 = .ok (.iload_n 1, 1) := by decide +kernel
theorem dX8_moves_6 : decode cX8_moves 6 = .ok (.invokevirtual 116, 3) := by decide +kernel
theorem dX8_moves_9 : decode cX8_moves 9 = .ok (.istore_n 3, 1) := by decide +kernel
theorem dX8_moves_10 : decode cX8_moves 10 = .ok (.iload_n 3, 1) := by decide +kernel
theorem dX8_moves_11 : decode cX8_moves 11 = .ok (.invokestatic 122, 3) := by decide +kernel
theorem dX8_moves_14 : decode cX8_moves 14 = .ok (.istore 4, 2) := by decide +kernel
theorem dX8_moves_16 : decode cX8_moves 16 = .ok (.iload_n 2, 1) := by decide +kernel
theorem dX8_moves_17 : decode cX8_moves 17 = .ok (.invokestatic 122, 3) := by decide +kernel
theorem dX8_moves_20 : decode cX8_moves 20 = .ok (.istore 5, 2) := by decide +kernel
theorem dX8_moves_22 : decode cX8_moves 22 = .ok (.aload_n 0, 1) := by decide +kernel
theorem dX8_moves_23 : decode cX8_moves 23 = .ok (.iload 4, 2) := by decide +kernel
theorem dX8_moves_25 : decode cX8_moves 25 = .ok (.invokevirtual 146, 3) := by decide +kernel
theorem dX8_moves_28 : decode cX8_moves 28 = .ok (.aload_n 0, 1) := by decide +kernel
theorem dX8_moves_29 : decode cX8_moves 29 = .ok (.iload 4, 2) := by decide +kernel
theorem dX8_moves_31 : decode cX8_moves 31 = .ok (.invokevirtual 158, 3) := by decide +kernel
theorem dX8_moves_34 : decode cX8_moves 34 = .ok (.iload_n 3, 1) := by decide +kernel
theorem dX8_moves_35 : decode cX8_moves 35 = .ok (.invokestatic 97, 3) := by decide +kernel
theorem dX8_moves_38 : decode cX8_moves 38 = .ok (.isub, 1) := by decide +kernel
theorem dX8_moves_39 : decode cX8_moves 39 = .ok (.invokestatic 125, 3) := by decide +kernel
theorem dX8_moves_42 : decode cX8_moves 42 = .ok (.iadd, 1) := by decide +kernel
theorem dX8_moves_43 : decode cX8_moves 43 = .ok (.iload_n 3, 1) := by decide +kernel
theorem dX8_moves_44 : decode cX8_moves 44 = .ok (.invokestatic 165, 3) := by decide +kernel
theorem dX8_moves_47 : decode cX8_moves 47 = .ok (.iadd, 1) := by decide +kernel
theorem dX8_moves_48 : decode cX8_moves 48 = .ok (.istore 6, 2) := by decide +kernel
theorem dX8_moves_50 : decode cX8_moves 50 = .ok (.iload 4, 2) := by decide +kernel
theorem dX8_moves_52 : decode cX8_moves 52 = .ok (.iload 5, 2) := by decide +kernel
theorem dX8_moves_54 : decode cX8_moves 54 = .ok (.if_icmp .ne 36, 3) := by decide +kernel
theorem dX8_moves_57 : decode cX8_moves 57 = .ok (.aload_n 0, 1) := by decide +kernel
theorem dX8_moves_58 : decode cX8_moves 58 = .ok (.iload 4, 2) := by decide +kernel
theorem dX8_moves_60 : decode cX8_moves 60 = .ok (.iload 6, 2) := by decide +kernel
theorem dX8_moves_62 : decode cX8_moves 62 = .ok (.iload_n 3, 1) := by decide +kernel
theorem dX8_moves_63 : decode cX8_moves 63 = .ok (.invokestatic 97, 3) := by decide +kernel
theorem dX8_moves_66 : decode cX8_moves 66 = .ok (.iload_n 2, 1) := by decide +kernel
theorem dX8_moves_67 : decode cX8_moves 67 = .ok (.invokestatic 97, 3) := by decide +kernel
theorem dX8_moves_70 : decode cX8_moves 70 = .ok (.isub, 1) := by decide +kernel
theorem dX8_moves_71 : decode cX8_moves 71 = .ok (.invokestatic 125, 3) := by decide +kernel
theorem dX8_moves_74 : decode cX8_moves 74 = .ok (.iadd, 1) := by decide +kernel
theorem dX8_moves_75 : decode cX8_moves 75 = .ok (.iload_n 2, 1) := by decide +kernel
theorem dX8_moves_76 : decode cX8_moves 76 = .ok (.invokestatic 165, 3) := by decide +kernel
theorem dX8_moves_79 : decode cX8_moves 79 = .ok (.iadd, 1) := by decide +kernel
theorem dX8_moves_80 : decode cX8_moves 80 = .ok (.iload_n 2, 1) := by decide +kernel
theorem dX8_moves_81 : decode cX8_moves 81 = .ok (.invokestatic 97, 3) := by decide +kernel
theorem dX8_moves_84 : decode cX8_moves 84 = .ok (.invokevirtual 161, 3) := by decide +kernel
theorem dX8_moves_87 : decode cX8_moves 87 = .ok (.goto 109, 3) := by decide +kernel
theorem dX8_moves_90 : decode cX8_moves 90 = .ok (.iload 6, 2) := by decide +kernel
theorem dX8_moves_92 : decode cX8_moves 92 = .ok (.iload_n 3, 1) := by decide +kernel
theorem dX8_moves_93 : decode cX8_moves 93 = .ok (.invokestatic 97, 3) := by decide +kernel
theorem dX8_moves_96 : decode cX8_moves 96 = .ok (.iadd, 1) := by decide +kernel
theorem dX8_moves_97 : decode cX8_moves 97 = .ok (.aload_n 0, 1) := by decide +kernel
theorem dX8_moves_98 : decode cX8_moves 98 = .ok (.iconst 3, 1) := by decide +kernel
theorem dX8_moves_99 : decode cX8_moves 99 = .ok (.invokevirtual 146, 3) := by decide +kernel
theorem dX8_moves_102 : decode cX8_moves 102 = .ok (.iconst 3, 1) := by decide +kernel
theorem dX8_moves_103 : decode cX8_moves 103 = .ok (.aload_n 0, 1) := by decide +kernel
theorem dX8_moves_104 : decode cX8_moves 104 = .ok (.iconst 3, 1) := by decide +kernel
theorem dX8_moves_105 : decode cX8_moves 105 = .ok (.invokevirtual 158, 3) := by decide +kernel
theorem dX8_moves_108 : decode cX8_moves 108 = .ok (.iload 4, 2) := by decide +kernel
theorem dX8_moves_110 : decode cX8_moves 110 = .ok (.isub, 1) := by decide +kernel
theorem dX8_moves_111 : decode cX8_moves 111 = .ok (.invokestatic 125, 3) := by decide +kernel
theorem dX8_moves_114 : decode cX8_moves 114 = .ok (.imul, 1) := by decide +kernel
theorem dX8_moves_115 : decode cX8_moves 115 = .ok (.iadd, 1) := by decide +kernel
theorem dX8_moves_116 : decode cX8_moves 116 = .ok (.invokestatic 143, 3) := by decide +kernel
theorem dX8_moves_119 : decode cX8_moves 119 = .ok (.iconst 2, 1) := by decide +kernel
theorem dX8_moves_120 : decode cX8_moves 120 = .ok (.iadd, 1) := by decide +kernel
theorem dX8_moves_121 : decode cX8_moves 121 = .ok (.istore 7, 2) := by decide +kernel
theorem dX8_moves_123 : decode cX8_moves 123 = .ok (.iload 7, 2) := by decide +kernel
theorem dX8_moves_125 : decode cX8_moves 125 = .ok (.iconst 3, 1) := by decide +kernel
theorem dX8_moves_126 : decode cX8_moves 126 = .ok (.iload 4, 2) := by decide +kernel
theorem dX8_moves_128 : decode cX8_moves 128 = .ok (.iload 5, 2) := by decide +kernel
theorem dX8_moves_130 : decode cX8_moves 130 = .ok (.isub, 1) := by decide +kernel
theorem dX8_moves_131 : decode cX8_moves 131 = .ok (.invokestatic 125, 3) := by decide +kernel
theorem dX8_moves_134 : decode cX8_moves 134 = .ok (.imul, 1) := by decide +kernel
theorem dX8_moves_135 : decode cX8_moves 135 = .ok (.iadd, 1) := by decide +kernel
theorem dX8_moves_136 : decode cX8_moves 136 = .ok (.aload_n 0, 1) := by decide +kernel
theorem dX8_moves_137 : decode cX8_moves 137 = .ok (.iload 5, 2) := by decide +kernel
theorem dX8_moves_139 : decode cX8_moves 139 = .ok (.invokevirtual 146, 3) := by decide +kernel
theorem dX8_moves_142 : decode cX8_moves 142 = .ok (.aload_n 0, 1) := by decide +kernel
theorem dX8_moves_143 : decode cX8_moves 143 = .ok (.iload 5, 2) := by decide +kernel
theorem dX8_moves_145 : decode cX8_moves 145 = .ok (.invokevirtual 158, 3) := by decide +kernel
theorem dX8_moves_148 : decode cX8_moves 148 = .ok (.iadd, 1) := by decide +kernel
theorem dX8_moves_149 : decode cX8_moves 149 = .ok (.invokestatic 143, 3) := by decide +kernel
theorem dX8_moves_152 : decode cX8_moves 152 = .ok (.iconst 2, 1) := by decide +kernel
theorem dX8_moves_153 : decode cX8_moves 153 = .ok (.iadd, 1) := by decide +kernel
theorem dX8_moves_154 : decode cX8_moves 154 = .ok (.istore 8, 2) := by decide +kernel
theorem dX8_moves_156 : decode cX8_moves 156 = .ok (.aload_n 0, 1) := by decide +kernel
theorem dX8_moves_157 : decode cX8_moves 157 = .ok (.iload 4, 2) := by decide +kernel
theorem dX8_moves_159 : decode cX8_moves 159 = .ok (.iload 7, 2) := by decide +kernel
theorem dX8_moves_161 : decode cX8_moves 161 = .ok (.iconst 0, 1) := by decide +kernel
theorem dX8_moves_162 : decode cX8_moves 162 = .ok (.invokevirtual 161, 3) := by decide +kernel
theorem dX8_moves_165 : decode cX8_moves 165 = .ok (.aload_n 0, 1) := by decide +kernel
theorem dX8_moves_166 : decode cX8_moves 166 = .ok (.iconst 3, 1) := by decide +kernel
theorem dX8_moves_167 : decode cX8_moves 167 = .ok (.iload 8, 2) := by decide +kernel
theorem dX8_moves_169 : decode cX8_moves 169 = .ok (.iload 5, 2) := by decide +kernel
theorem dX8_moves_171 : decode cX8_moves 171 = .ok (.invokevirtual 161, 3) := by decide +kernel
theorem dX8_moves_174 : decode cX8_moves 174 = .ok (.aload_n 0, 1) := by decide +kernel
theorem dX8_moves_175 : decode cX8_moves 175 = .ok (.iload 5, 2) := by decide +kernel
theorem dX8_moves_177 : decode cX8_moves 177 = .ok (.iload 8, 2) := by decide +kernel
theorem dX8_moves_179 : decode cX8_moves 179 = .ok (.iload_n 2, 1) := by decide +kernel
theorem dX8_moves_180 : decode cX8_moves 180 = .ok (.invokestatic 97, 3) := by decide +kernel
theorem dX8_moves_183 : decode cX8_moves 183 = .ok (.iadd, 1) := by decide +kernel
theorem dX8_moves_184 : decode cX8_moves 184 = .ok (.iload_n 2, 1) := by decide +kernel
theorem dX8_moves_185 : decode cX8_moves 185 = .ok (.invokestatic 165, 3) := by decide +kernel
theorem dX8_moves_188 : decode cX8_moves 188 = .ok (.iadd, 1) := by decide +kernel
theorem dX8_moves_189 : decode cX8_moves 189 = .ok (.iload_n 2, 1) := by decide +kernel
theorem dX8_moves_190 : decode cX8_moves 190 = .ok (.invokestatic 97, 3) := by decide +kernel
theorem dX8_moves_193 : decode cX8_moves 193 = .ok (.invokevirtual 161, 3) := by decide +kernel
theorem dX8_moves_196 : decode cX8_moves 196 = .ok (.aload_n 0, 1) := by decide +kernel
theorem dX8_moves_197 : decode cX8_moves 197 = .ok (.iload_n 1, 1) := by decide +kernel
theorem dX8_moves_198 : decode cX8_moves 198 = .ok (.iload_n 3, 1) := by decide +kernel
theorem dX8_moves_199 : decode cX8_moves 199 = .ok (.iload_n 2, 1) := by decide +kernel
theorem dX8_moves_200 : decode cX8_moves 200 = .ok (.invokevirtual 168, 3) := by decide +kernel
theorem dX8_moves_203 : decode cX8_moves 203 = .ok (.aload_n 0, 1) := by decide +kernel
theorem dX8_moves_204 : decode cX8_moves 204 = .ok (.getfield 13, 3) := by decide +kernel
theorem dX8_moves_207 : decode cX8_moves 207 = .ok (.iconst 3, 1) := by decide +kernel
theorem dX8_moves_208 : decode cX8_moves 208 = .ok (.dup2, 1) := by decide +kernel
theorem dX8_moves_209 : decode cX8_moves 209 = .ok (.iaload, 1) := by decide +kernel
theorem dX8_moves_210 : decode cX8_moves 210 = .ok (.iconst 1, 1) := by decide +kernel
theorem dX8_moves_211 : decode cX8_moves 211 = .ok (.iadd, 1) := by decide +kernel
theorem dX8_moves_212 : decode cX8_moves 212 = .ok (.iastore, 1) := by decide +kernel
theorem dX8_moves_213 : decode cX8_moves 213 = .ok (.return_, 1) := by decide +kernel
theorem dX8_isSize_0 : decode cX8_isSize 0 = .ok (.iload_n 0, 1) := by decide +kernel
theorem dX8_isSize_1 : decode cX8_isSize 1 = .ok (.iconst 0, 1) := by decide +kernel
theorem dX8_isSize_2 : decode cX8_isSize 2 = .ok (.iconst 1, 1) := by decide +kernel
theorem dX8_isSize_3 : decode cX8_isSize 3 = .ok (.invokestatic 112, 3) := by decide +kernel
theorem dX8_isSize_6 : decode cX8_isSize 6 = .ok (.ireturn, 1) := by decide +kernel
theorem dX8_isPickup_0 : decode cX8_isPickup 0 = .ok (.iload_n 0, 1) := by decide +kernel
theorem dX8_isPickup_1 : decode cX8_isPickup 1 = .ok (.iconst 0, 1) := by decide +kernel
theorem dX8_isPickup_2 : decode cX8_isPickup 2 = .ok (.sipush 9999, 3) := by decide +kernel
theorem dX8_isPickup_5 : decode cX8_isPickup 5 = .ok (.invokestatic 112, 3) := by decide +kernel
theorem dX8_isPickup_8 : decode cX8_isPickup 8 = .ok (.ireturn, 1) := by decide +kernel
theorem dX8_stores_0 : decode cX8_stores 0 = .ok (.iload_n 1, 1) := by decide +kernel
theorem dX8_stores_1 : decode cX8_stores 1 = .ok (.invokestatic 171, 3) := by decide +kernel
theorem dX8_stores_4 : decode cX8_stores 4 = .ok (.ifCond .eq 10, 3) := by decide +kernel
theorem dX8_stores_7 : decode cX8_stores 7 = .ok (.iload_n 2, 1) := by decide +kernel
theorem dX8_stores_8 : decode cX8_stores 8 = .ok (.invokestatic 174, 3) := by decide +kernel
theorem dX8_stores_11 : decode cX8_stores 11 = .ok (.ifCond .ne 9, 3) := by decide +kernel
theorem dX8_stores_14 : decode cX8_stores 14 = .ok (.aload_n 0, 1) := by decide +kernel
theorem dX8_stores_15 : decode cX8_stores 15 = .ok (.iconst 1, 1) := by decide +kernel
theorem dX8_stores_16 : decode cX8_stores 16 = .ok (.invokevirtual 177, 3) := by decide +kernel
theorem dX8_stores_19 : decode cX8_stores 19 = .ok (.ireturn, 1) := by decide +kernel
theorem dX8_stores_20 : decode cX8_stores 20 = .ok (.aload_n 0, 1) := by decide +kernel
theorem dX8_stores_21 : decode cX8_stores 21 = .ok (.getfield 13, 3) := by decide +kernel
theorem dX8_stores_24 : decode cX8_stores 24 = .ok (.iconst 1, 1) := by decide +kernel
theorem dX8_stores_25 : decode cX8_stores 25 = .ok (.iaload, 1) := by decide +kernel
theorem dX8_stores_26 : decode cX8_stores 26 = .ok (.istore_n 3, 1) := by decide +kernel
theorem dX8_stores_27 : decode cX8_stores 27 = .ok (.iload_n 3, 1) := by decide +kernel
theorem dX8_stores_28 : decode cX8_stores 28 = .ok (.bipush 40, 2) := by decide +kernel
theorem dX8_stores_30 : decode cX8_stores 30 = .ok (.if_icmp .ne 9, 3) := by decide +kernel
theorem dX8_stores_33 : decode cX8_stores 33 = .ok (.aload_n 0, 1) := by decide +kernel
theorem dX8_stores_34 : decode cX8_stores 34 = .ok (.iconst 2, 1) := by decide +kernel
theorem dX8_stores_35 : decode cX8_stores 35 = .ok (.invokevirtual 177, 3) := by decide +kernel
theorem dX8_stores_38 : decode cX8_stores 38 = .ok (.ireturn, 1) := by decide +kernel
theorem dX8_stores_39 : decode cX8_stores 39 = .ok (.aload_n 0, 1) := by decide +kernel
theorem dX8_stores_40 : decode cX8_stores 40 = .ok (.iload_n 1, 1) := by decide +kernel
theorem dX8_stores_41 : decode cX8_stores 41 = .ok (.iload_n 2, 1) := by decide +kernel
theorem dX8_stores_42 : decode cX8_stores 42 = .ok (.iconst (-1), 1) := by decide +kernel
theorem dX8_stores_43 : decode cX8_stores 43 = .ok (.invokevirtual 180, 3) := by decide +kernel
theorem dX8_stores_46 : decode cX8_stores 46 = .ok (.istore 4, 2) := by decide +kernel
theorem dX8_stores_48 : decode cX8_stores 48 = .ok (.iload 4, 2) := by decide +kernel
theorem dX8_stores_50 : decode cX8_stores 50 = .ok (.ifCond .ge 9, 3) := by decide +kernel
theorem dX8_stores_53 : decode cX8_stores 53 = .ok (.aload_n 0, 1) := by decide +kernel
theorem dX8_stores_54 : decode cX8_stores 54 = .ok (.iconst 3, 1) := by decide +kernel
theorem dX8_stores_55 : decode cX8_stores 55 = .ok (.invokevirtual 177, 3) := by decide +kernel
theorem dX8_stores_58 : decode cX8_stores 58 = .ok (.ireturn, 1) := by decide +kernel
theorem dX8_stores_59 : decode cX8_stores 59 = .ok (.aload_n 0, 1) := by decide +kernel
theorem dX8_stores_60 : decode cX8_stores 60 = .ok (.getfield 13, 3) := by decide +kernel
theorem dX8_stores_63 : decode cX8_stores 63 = .ok (.sipush 139, 3) := by decide +kernel
theorem dX8_stores_66 : decode cX8_stores 66 = .ok (.iconst 4, 1) := by decide +kernel
theorem dX8_stores_67 : decode cX8_stores 67 = .ok (.iload_n 3, 1) := by decide +kernel
theorem dX8_stores_68 : decode cX8_stores 68 = .ok (.imul, 1) := by decide +kernel
theorem dX8_stores_69 : decode cX8_stores 69 = .ok (.iadd, 1) := by decide +kernel
theorem dX8_stores_70 : decode cX8_stores 70 = .ok (.iload_n 1, 1) := by decide +kernel
theorem dX8_stores_71 : decode cX8_stores 71 = .ok (.iastore, 1) := by decide +kernel
theorem dX8_stores_72 : decode cX8_stores 72 = .ok (.aload_n 0, 1) := by decide +kernel
theorem dX8_stores_73 : decode cX8_stores 73 = .ok (.getfield 13, 3) := by decide +kernel
theorem dX8_stores_76 : decode cX8_stores 76 = .ok (.sipush 139, 3) := by decide +kernel
theorem dX8_stores_79 : decode cX8_stores 79 = .ok (.iconst 4, 1) := by decide +kernel
theorem dX8_stores_80 : decode cX8_stores 80 = .ok (.iload_n 3, 1) := by decide +kernel
theorem dX8_stores_81 : decode cX8_stores 81 = .ok (.imul, 1) := by decide +kernel
theorem dX8_stores_82 : decode cX8_stores 82 = .ok (.iadd, 1) := by decide +kernel
theorem dX8_stores_83 : decode cX8_stores 83 = .ok (.iconst 1, 1) := by decide +kernel
theorem dX8_stores_84 : decode cX8_stores 84 = .ok (.iadd, 1) := by decide +kernel
theorem dX8_stores_85 : decode cX8_stores 85 = .ok (.iload_n 2, 1) := by decide +kernel
theorem dX8_stores_86 : decode cX8_stores 86 = .ok (.iastore, 1) := by decide +kernel
theorem dX8_stores_87 : decode cX8_stores 87 = .ok (.aload_n 0, 1) := by decide +kernel
theorem dX8_stores_88 : decode cX8_stores 88 = .ok (.getfield 13, 3) := by decide +kernel
theorem dX8_stores_91 : decode cX8_stores 91 = .ok (.sipush 139, 3) := by decide +kernel
theorem dX8_stores_94 : decode cX8_stores 94 = .ok (.iconst 4, 1) := by decide +kernel
theorem dX8_stores_95 : decode cX8_stores 95 = .ok (.iload_n 3, 1) := by decide +kernel
theorem dX8_stores_96 : decode cX8_stores 96 = .ok (.imul, 1) := by decide +kernel
theorem dX8_stores_97 : decode cX8_stores 97 = .ok (.iadd, 1) := by decide +kernel
theorem dX8_stores_98 : decode cX8_stores 98 = .ok (.iconst 3, 1) := by decide +kernel
theorem dX8_stores_99 : decode cX8_stores 99 = .ok (.iadd, 1) := by decide +kernel
theorem dX8_stores_100 : decode cX8_stores 100 = .ok (.iconst 0, 1) := by decide +kernel
theorem dX8_stores_101 : decode cX8_stores 101 = .ok (.iastore, 1) := by decide +kernel
theorem dX8_stores_102 : decode cX8_stores 102 = .ok (.aload_n 0, 1) := by decide +kernel
theorem dX8_stores_103 : decode cX8_stores 103 = .ok (.getfield 13, 3) := by decide +kernel
theorem dX8_stores_106 : decode cX8_stores 106 = .ok (.iconst 1, 1) := by decide +kernel
theorem dX8_stores_107 : decode cX8_stores 107 = .ok (.dup2, 1) := by decide +kernel
theorem dX8_stores_108 : decode cX8_stores 108 = .ok (.iaload, 1) := by decide +kernel
theorem dX8_stores_109 : decode cX8_stores 109 = .ok (.iconst 1, 1) := by decide +kernel
theorem dX8_stores_110 : decode cX8_stores 110 = .ok (.iadd, 1) := by decide +kernel
theorem dX8_stores_111 : decode cX8_stores 111 = .ok (.iastore, 1) := by decide +kernel
theorem dX8_stores_112 : decode cX8_stores 112 = .ok (.aload_n 0, 1) := by decide +kernel
theorem dX8_stores_113 : decode cX8_stores 113 = .ok (.iload_n 3, 1) := by decide +kernel
theorem dX8_stores_114 : decode cX8_stores 114 = .ok (.iload 4, 2) := by decide +kernel
theorem dX8_stores_116 : decode cX8_stores 116 = .ok (.invokevirtual 184, 3) := by decide +kernel
theorem dX8_stores_119 : decode cX8_stores 119 = .ok (.iload 4, 2) := by decide +kernel
theorem dX8_stores_121 : decode cX8_stores 121 = .ok (.ireturn, 1) := by decide +kernel
theorem dX8_store_0 : decode cX8_store 0 = .ok (.aload_n 0, 1) := by decide +kernel
theorem dX8_store_1 : decode cX8_store 1 = .ok (.invokevirtual 188, 3) := by decide +kernel
theorem dX8_store_4 : decode cX8_store 4 = .ok (.aload_n 0, 1) := by decide +kernel
theorem dX8_store_5 : decode cX8_store 5 = .ok (.aload_n 0, 1) := by decide +kernel
theorem dX8_store_6 : decode cX8_store 6 = .ok (.iload_n 1, 1) := by decide +kernel
theorem dX8_store_7 : decode cX8_store 7 = .ok (.iload_n 2, 1) := by decide +kernel
theorem dX8_store_8 : decode cX8_store 8 = .ok (.invokevirtual 191, 3) := by decide +kernel
theorem dX8_store_11 : decode cX8_store 11 = .ok (.invokevirtual 194, 3) := by decide +kernel
theorem dX8_store_14 : decode cX8_store 14 = .ok (.ireturn, 1) := by decide +kernel
theorem dX8_open_0 : decode cX8_open 0 = .ok (.iconst 0, 1) := by decide +kernel
theorem dX8_open_1 : decode cX8_open 1 = .ok (.istore_n 1, 1) := by decide +kernel
theorem dX8_open_2 : decode cX8_open 2 = .ok (.iconst 0, 1) := by decide +kernel
theorem dX8_open_3 : decode cX8_open 3 = .ok (.istore_n 2, 1) := by decide +kernel
theorem dX8_open_4 : decode cX8_open 4 = .ok (.iload_n 2, 1) := by decide +kernel
theorem dX8_open_5 : decode cX8_open 5 = .ok (.bipush 60, 2) := by decide +kernel
theorem dX8_open_7 : decode cX8_open 7 = .ok (.if_icmp .ge 37, 3) := by decide +kernel
theorem dX8_open_10 : decode cX8_open 10 = .ok (.iload_n 1, 1) := by decide +kernel
theorem dX8_open_11 : decode cX8_open 11 = .ok (.aload_n 0, 1) := by decide +kernel
theorem dX8_open_12 : decode cX8_open 12 = .ok (.getfield 13, 3) := by decide +kernel
theorem dX8_open_15 : decode cX8_open 15 = .ok (.bipush 19, 2) := by decide +kernel
theorem dX8_open_17 : decode cX8_open 17 = .ok (.iload_n 2, 1) := by decide +kernel
theorem dX8_open_18 : decode cX8_open 18 = .ok (.iadd, 1) := by decide +kernel
theorem dX8_open_19 : decode cX8_open 19 = .ok (.iaload, 1) := by decide +kernel
theorem dX8_open_20 : decode cX8_open 20 = .ok (.ifCond .ne 15, 3) := by decide +kernel
theorem dX8_open_23 : decode cX8_open 23 = .ok (.aload_n 0, 1) := by decide +kernel
theorem dX8_open_24 : decode cX8_open 24 = .ok (.iload_n 2, 1) := by decide +kernel
theorem dX8_open_25 : decode cX8_open 25 = .ok (.invokevirtual 104, 3) := by decide +kernel
theorem dX8_open_28 : decode cX8_open 28 = .ok (.ifCond .eq 7, 3) := by decide +kernel
theorem dX8_open_31 : decode cX8_open 31 = .ok (.iconst 1, 1) := by decide +kernel
theorem dX8_open_32 : decode cX8_open 32 = .ok (.goto 4, 3) := by decide +kernel
theorem dX8_open_35 : decode cX8_open 35 = .ok (.iconst 0, 1) := by decide +kernel
theorem dX8_open_36 : decode cX8_open 36 = .ok (.iadd, 1) := by decide +kernel
theorem dX8_open_37 : decode cX8_open 37 = .ok (.istore_n 1, 1) := by decide +kernel
theorem dX8_open_38 : decode cX8_open 38 = .ok (.iinc 2 1, 3) := by decide +kernel
theorem dX8_open_41 : decode cX8_open 41 = .ok (.goto (-37), 3) := by decide +kernel
theorem dX8_open_44 : decode cX8_open 44 = .ok (.iload_n 1, 1) := by decide +kernel
theorem dX8_open_45 : decode cX8_open 45 = .ok (.ireturn, 1) := by decide +kernel
theorem dX8_takesOut_0 : decode cX8_takesOut 0 = .ok (.aload_n 0, 1) := by decide +kernel
theorem dX8_takesOut_1 : decode cX8_takesOut 1 = .ok (.iload_n 1, 1) := by decide +kernel
theorem dX8_takesOut_2 : decode cX8_takesOut 2 = .ok (.invokevirtual 197, 3) := by decide +kernel
theorem dX8_takesOut_5 : decode cX8_takesOut 5 = .ok (.istore_n 2, 1) := by decide +kernel
theorem dX8_takesOut_6 : decode cX8_takesOut 6 = .ok (.iload_n 2, 1) := by decide +kernel
theorem dX8_takesOut_7 : decode cX8_takesOut 7 = .ok (.ifCond .lt 36, 3) := by decide +kernel
theorem dX8_takesOut_10 : decode cX8_takesOut 10 = .ok (.aload_n 0, 1) := by decide +kernel
theorem dX8_takesOut_11 : decode cX8_takesOut 11 = .ok (.aload_n 0, 1) := by decide +kernel
theorem dX8_takesOut_12 : decode cX8_takesOut 12 = .ok (.iload_n 2, 1) := by decide +kernel
theorem dX8_takesOut_13 : decode cX8_takesOut 13 = .ok (.iconst 0, 1) := by decide +kernel
theorem dX8_takesOut_14 : decode cX8_takesOut 14 = .ok (.invokevirtual 108, 3) := by decide +kernel
theorem dX8_takesOut_17 : decode cX8_takesOut 17 = .ok (.aload_n 0, 1) := by decide +kernel
theorem dX8_takesOut_18 : decode cX8_takesOut 18 = .ok (.iload_n 2, 1) := by decide +kernel
theorem dX8_takesOut_19 : decode cX8_takesOut 19 = .ok (.invokevirtual 119, 3) := by decide +kernel
theorem dX8_takesOut_22 : decode cX8_takesOut 22 = .ok (.aload_n 0, 1) := by decide +kernel
theorem dX8_takesOut_23 : decode cX8_takesOut 23 = .ok (.iload_n 2, 1) := by decide +kernel
theorem dX8_takesOut_24 : decode cX8_takesOut 24 = .ok (.invokevirtual 116, 3) := by decide +kernel
theorem dX8_takesOut_27 : decode cX8_takesOut 27 = .ok (.invokevirtual 180, 3) := by decide +kernel
theorem dX8_takesOut_30 : decode cX8_takesOut 30 = .ok (.istore_n 3, 1) := by decide +kernel
theorem dX8_takesOut_31 : decode cX8_takesOut 31 = .ok (.iload_n 3, 1) := by decide +kernel
theorem dX8_takesOut_32 : decode cX8_takesOut 32 = .ok (.ifCond .ge 5, 3) := by decide +kernel
theorem dX8_takesOut_35 : decode cX8_takesOut 35 = .ok (.iconst (-1), 1) := by decide +kernel
theorem dX8_takesOut_36 : decode cX8_takesOut 36 = .ok (.ireturn, 1) := by decide +kernel
theorem dX8_takesOut_37 : decode cX8_takesOut 37 = .ok (.aload_n 0, 1) := by decide +kernel
theorem dX8_takesOut_38 : decode cX8_takesOut 38 = .ok (.iload_n 2, 1) := by decide +kernel
theorem dX8_takesOut_39 : decode cX8_takesOut 39 = .ok (.iload_n 3, 1) := by decide +kernel
theorem dX8_takesOut_40 : decode cX8_takesOut 40 = .ok (.invokevirtual 200, 3) := by decide +kernel
theorem dX8_takesOut_43 : decode cX8_takesOut 43 = .ok (.aload_n 0, 1) := by decide +kernel
theorem dX8_takesOut_44 : decode cX8_takesOut 44 = .ok (.iload_n 1, 1) := by decide +kernel
theorem dX8_takesOut_45 : decode cX8_takesOut 45 = .ok (.invokevirtual 203, 3) := by decide +kernel
theorem dX8_takesOut_48 : decode cX8_takesOut 48 = .ok (.iload_n 2, 1) := by decide +kernel
theorem dX8_takesOut_49 : decode cX8_takesOut 49 = .ok (.ifCond .lt 7, 3) := by decide +kernel
theorem dX8_takesOut_52 : decode cX8_takesOut 52 = .ok (.iconst 2, 1) := by decide +kernel
theorem dX8_takesOut_53 : decode cX8_takesOut 53 = .ok (.goto 4, 3) := by decide +kernel
theorem dX8_takesOut_56 : decode cX8_takesOut 56 = .ok (.iconst 1, 1) := by decide +kernel
theorem dX8_takesOut_57 : decode cX8_takesOut 57 = .ok (.ireturn, 1) := by decide +kernel
theorem dX8_retrieves_0 : decode cX8_retrieves 0 = .ok (.aload_n 0, 1) := by decide +kernel
theorem dX8_retrieves_1 : decode cX8_retrieves 1 = .ok (.iload_n 1, 1) := by decide +kernel
theorem dX8_retrieves_2 : decode cX8_retrieves 2 = .ok (.invokevirtual 207, 3) := by decide +kernel
theorem dX8_retrieves_5 : decode cX8_retrieves 5 = .ok (.ifCond .ne 9, 3) := by decide +kernel
theorem dX8_retrieves_8 : decode cX8_retrieves 8 = .ok (.aload_n 0, 1) := by decide +kernel
theorem dX8_retrieves_9 : decode cX8_retrieves 9 = .ok (.iconst 1, 1) := by decide +kernel
theorem dX8_retrieves_10 : decode cX8_retrieves 10 = .ok (.invokevirtual 177, 3) := by decide +kernel
theorem dX8_retrieves_13 : decode cX8_retrieves 13 = .ok (.ireturn, 1) := by decide +kernel
theorem dX8_retrieves_14 : decode cX8_retrieves 14 = .ok (.aload_n 0, 1) := by decide +kernel
theorem dX8_retrieves_15 : decode cX8_retrieves 15 = .ok (.iload_n 1, 1) := by decide +kernel
theorem dX8_retrieves_16 : decode cX8_retrieves 16 = .ok (.invokevirtual 197, 3) := by decide +kernel
theorem dX8_retrieves_19 : decode cX8_retrieves 19 = .ok (.istore_n 2, 1) := by decide +kernel
theorem dX8_retrieves_20 : decode cX8_retrieves 20 = .ok (.aload_n 0, 1) := by decide +kernel
theorem dX8_retrieves_21 : decode cX8_retrieves 21 = .ok (.iload_n 1, 1) := by decide +kernel
theorem dX8_retrieves_22 : decode cX8_retrieves 22 = .ok (.invokevirtual 210, 3) := by decide +kernel
theorem dX8_retrieves_25 : decode cX8_retrieves 25 = .ok (.istore_n 3, 1) := by decide +kernel
theorem dX8_retrieves_26 : decode cX8_retrieves 26 = .ok (.iload_n 3, 1) := by decide +kernel
theorem dX8_retrieves_27 : decode cX8_retrieves 27 = .ok (.ifCond .le 5, 3) := by decide +kernel
theorem dX8_retrieves_30 : decode cX8_retrieves 30 = .ok (.iload_n 3, 1) := by decide +kernel
theorem dX8_retrieves_31 : decode cX8_retrieves 31 = .ok (.ireturn, 1) := by decide +kernel
theorem dX8_retrieves_32 : decode cX8_retrieves 32 = .ok (.aload_n 0, 1) := by decide +kernel
theorem dX8_retrieves_33 : decode cX8_retrieves 33 = .ok (.iload_n 1, 1) := by decide +kernel
theorem dX8_retrieves_34 : decode cX8_retrieves 34 = .ok (.putfield 42, 3) := by decide +kernel
theorem dX8_retrieves_37 : decode cX8_retrieves 37 = .ok (.aload_n 0, 1) := by decide +kernel
theorem dX8_retrieves_38 : decode cX8_retrieves 38 = .ok (.iload_n 2, 1) := by decide +kernel
theorem dX8_retrieves_39 : decode cX8_retrieves 39 = .ok (.putfield 45, 3) := by decide +kernel
theorem dX8_retrieves_42 : decode cX8_retrieves 42 = .ok (.aload_n 0, 1) := by decide +kernel
theorem dX8_retrieves_43 : decode cX8_retrieves 43 = .ok (.aload_n 0, 1) := by decide +kernel
theorem dX8_retrieves_44 : decode cX8_retrieves 44 = .ok (.invokevirtual 213, 3) := by decide +kernel
theorem dX8_retrieves_47 : decode cX8_retrieves 47 = .ok (.putfield 48, 3) := by decide +kernel
theorem dX8_retrieves_50 : decode cX8_retrieves 50 = .ok (.aload_n 0, 1) := by decide +kernel
theorem dX8_retrieves_51 : decode cX8_retrieves 51 = .ok (.iconst 2, 1) := by decide +kernel
theorem dX8_retrieves_52 : decode cX8_retrieves 52 = .ok (.invokevirtual 177, 3) := by decide +kernel
theorem dX8_retrieves_55 : decode cX8_retrieves 55 = .ok (.ireturn, 1) := by decide +kernel
theorem dX8_retrieve_0 : decode cX8_retrieve 0 = .ok (.aload_n 0, 1) := by decide +kernel
theorem dX8_retrieve_1 : decode cX8_retrieve 1 = .ok (.invokevirtual 188, 3) := by decide +kernel
theorem dX8_retrieve_4 : decode cX8_retrieve 4 = .ok (.aload_n 0, 1) := by decide +kernel
theorem dX8_retrieve_5 : decode cX8_retrieve 5 = .ok (.aload_n 0, 1) := by decide +kernel
theorem dX8_retrieve_6 : decode cX8_retrieve 6 = .ok (.iload_n 1, 1) := by decide +kernel
theorem dX8_retrieve_7 : decode cX8_retrieve 7 = .ok (.invokevirtual 217, 3) := by decide +kernel
theorem dX8_retrieve_10 : decode cX8_retrieve 10 = .ok (.invokevirtual 194, 3) := by decide +kernel
theorem dX8_retrieve_13 : decode cX8_retrieve 13 = .ok (.ireturn, 1) := by decide +kernel
theorem dX8_book_0 : decode cX8_book 0 = .ok (.aload_n 0, 1) := by decide +kernel
theorem dX8_book_1 : decode cX8_book 1 = .ok (.invokevirtual 188, 3) := by decide +kernel
theorem dX8_book_4 : decode cX8_book 4 = .ok (.aload_n 0, 1) := by decide +kernel
theorem dX8_book_5 : decode cX8_book 5 = .ok (.iload_n 1, 1) := by decide +kernel
theorem dX8_book_6 : decode cX8_book 6 = .ok (.invokevirtual 207, 3) := by decide +kernel
theorem dX8_book_9 : decode cX8_book 9 = .ok (.ifCond .ne 9, 3) := by decide +kernel
theorem dX8_book_12 : decode cX8_book 12 = .ok (.aload_n 0, 1) := by decide +kernel
theorem dX8_book_13 : decode cX8_book 13 = .ok (.iconst 1, 1) := by decide +kernel
theorem dX8_book_14 : decode cX8_book 14 = .ok (.invokevirtual 177, 3) := by decide +kernel
theorem dX8_book_17 : decode cX8_book 17 = .ok (.ireturn, 1) := by decide +kernel
theorem dX8_book_18 : decode cX8_book 18 = .ok (.iload_n 2, 1) := by decide +kernel
theorem dX8_book_19 : decode cX8_book 19 = .ok (.invokestatic 174, 3) := by decide +kernel
theorem dX8_book_22 : decode cX8_book 22 = .ok (.ifCond .ne 9, 3) := by decide +kernel
theorem dX8_book_25 : decode cX8_book 25 = .ok (.aload_n 0, 1) := by decide +kernel
theorem dX8_book_26 : decode cX8_book 26 = .ok (.iconst 2, 1) := by decide +kernel
theorem dX8_book_27 : decode cX8_book 27 = .ok (.invokevirtual 177, 3) := by decide +kernel
theorem dX8_book_30 : decode cX8_book 30 = .ok (.ireturn, 1) := by decide +kernel
theorem dX8_book_31 : decode cX8_book 31 = .ok (.aload_n 0, 1) := by decide +kernel
theorem dX8_book_32 : decode cX8_book 32 = .ok (.iload_n 1, 1) := by decide +kernel
theorem dX8_book_33 : decode cX8_book 33 = .ok (.invokevirtual 119, 3) := by decide +kernel
theorem dX8_book_36 : decode cX8_book 36 = .ok (.istore_n 3, 1) := by decide +kernel
theorem dX8_book_37 : decode cX8_book 37 = .ok (.aload_n 0, 1) := by decide +kernel
theorem dX8_book_38 : decode cX8_book 38 = .ok (.getfield 13, 3) := by decide +kernel
theorem dX8_book_41 : decode cX8_book 41 = .ok (.sipush 139, 3) := by decide +kernel
theorem dX8_book_44 : decode cX8_book 44 = .ok (.iconst 4, 1) := by decide +kernel
theorem dX8_book_45 : decode cX8_book 45 = .ok (.iload_n 1, 1) := by decide +kernel
theorem dX8_book_46 : decode cX8_book 46 = .ok (.imul, 1) := by decide +kernel
theorem dX8_book_47 : decode cX8_book 47 = .ok (.iadd, 1) := by decide +kernel
theorem dX8_book_48 : decode cX8_book 48 = .ok (.iconst 1, 1) := by decide +kernel
theorem dX8_book_49 : decode cX8_book 49 = .ok (.iadd, 1) := by decide +kernel
theorem dX8_book_50 : decode cX8_book 50 = .ok (.iload_n 2, 1) := by decide +kernel
theorem dX8_book_51 : decode cX8_book 51 = .ok (.iastore, 1) := by decide +kernel
theorem dX8_book_52 : decode cX8_book 52 = .ok (.aload_n 0, 1) := by decide +kernel
theorem dX8_book_53 : decode cX8_book 53 = .ok (.iload_n 3, 1) := by decide +kernel
theorem dX8_book_54 : decode cX8_book 54 = .ok (.invokevirtual 194, 3) := by decide +kernel
theorem dX8_book_57 : decode cX8_book 57 = .ok (.ireturn, 1) := by decide +kernel
theorem dX8_jobsOf_0 : decode cX8_jobsOf 0 = .ok (.aload_n 0, 1) := by decide +kernel
theorem dX8_jobsOf_1 : decode cX8_jobsOf 1 = .ok (.iload_n 1, 1) := by decide +kernel
theorem dX8_jobsOf_2 : decode cX8_jobsOf 2 = .ok (.iconst 3, 1) := by decide +kernel
theorem dX8_jobsOf_3 : decode cX8_jobsOf 3 = .ok (.invokevirtual 108, 3) := by decide +kernel
theorem dX8_jobsOf_6 : decode cX8_jobsOf 6 = .ok (.ireturn, 1) := by decide +kernel
theorem dX8_car_0 : decode cX8_car 0 = .ok (.aload_n 0, 1) := by decide +kernel
theorem dX8_car_1 : decode cX8_car 1 = .ok (.iconst 0, 1) := by decide +kernel
theorem dX8_car_2 : decode cX8_car 2 = .ok (.putfield 3, 3) := by decide +kernel
theorem dX8_car_5 : decode cX8_car 5 = .ok (.aload_n 0, 1) := by decide +kernel
theorem dX8_car_6 : decode cX8_car 6 = .ok (.iload_n 1, 1) := by decide +kernel
theorem dX8_car_7 : decode cX8_car 7 = .ok (.invokevirtual 207, 3) := by decide +kernel
theorem dX8_car_10 : decode cX8_car 10 = .ok (.ifCond .ne 9, 3) := by decide +kernel
theorem dX8_car_13 : decode cX8_car 13 = .ok (.aload_n 0, 1) := by decide +kernel
theorem dX8_car_14 : decode cX8_car 14 = .ok (.iconst 1, 1) := by decide +kernel
theorem dX8_car_15 : decode cX8_car 15 = .ok (.invokevirtual 177, 3) := by decide +kernel
theorem dX8_car_18 : decode cX8_car 18 = .ok (.ireturn, 1) := by decide +kernel
theorem dX8_car_19 : decode cX8_car 19 = .ok (.iload_n 2, 1) := by decide +kernel
theorem dX8_car_20 : decode cX8_car 20 = .ok (.iconst 0, 1) := by decide +kernel
theorem dX8_car_21 : decode cX8_car 21 = .ok (.iconst 4, 1) := by decide +kernel
theorem dX8_car_22 : decode cX8_car 22 = .ok (.invokestatic 112, 3) := by decide +kernel
theorem dX8_car_25 : decode cX8_car 25 = .ok (.ifCond .ne 9, 3) := by decide +kernel
theorem dX8_car_28 : decode cX8_car 28 = .ok (.aload_n 0, 1) := by decide +kernel
theorem dX8_car_29 : decode cX8_car 29 = .ok (.iconst 2, 1) := by decide +kernel
theorem dX8_car_30 : decode cX8_car 30 = .ok (.invokevirtual 177, 3) := by decide +kernel
theorem dX8_car_33 : decode cX8_car 33 = .ok (.ireturn, 1) := by decide +kernel
theorem dX8_car_34 : decode cX8_car 34 = .ok (.iload_n 2, 1) := by decide +kernel
theorem dX8_car_35 : decode cX8_car 35 = .ok (.iconst 3, 1) := by decide +kernel
theorem dX8_car_36 : decode cX8_car 36 = .ok (.if_icmp .ne 11, 3) := by decide +kernel
theorem dX8_car_39 : decode cX8_car 39 = .ok (.aload_n 0, 1) := by decide +kernel
theorem dX8_car_40 : decode cX8_car 40 = .ok (.iload_n 1, 1) := by decide +kernel
theorem dX8_car_41 : decode cX8_car 41 = .ok (.invokevirtual 197, 3) := by decide +kernel
theorem dX8_car_44 : decode cX8_car 44 = .ok (.goto 22, 3) := by decide +kernel
theorem dX8_car_47 : decode cX8_car 47 = .ok (.iload_n 2, 1) := by decide +kernel
theorem dX8_car_48 : decode cX8_car 48 = .ok (.iconst 4, 1) := by decide +kernel
theorem dX8_car_49 : decode cX8_car 49 = .ok (.if_icmp .ne 11, 3) := by decide +kernel
theorem dX8_car_52 : decode cX8_car 52 = .ok (.aload_n 0, 1) := by decide +kernel
theorem dX8_car_53 : decode cX8_car 53 = .ok (.iload_n 1, 1) := by decide +kernel
theorem dX8_car_54 : decode cX8_car 54 = .ok (.invokevirtual 220, 3) := by decide +kernel
theorem dX8_car_57 : decode cX8_car 57 = .ok (.goto 9, 3) := by decide +kernel
theorem dX8_car_60 : decode cX8_car 60 = .ok (.aload_n 0, 1) := by decide +kernel
theorem dX8_car_61 : decode cX8_car 61 = .ok (.iload_n 1, 1) := by decide +kernel
theorem dX8_car_62 : decode cX8_car 62 = .ok (.iload_n 2, 1) := by decide +kernel
theorem dX8_car_63 : decode cX8_car 63 = .ok (.invokevirtual 108, 3) := by decide +kernel
theorem dX8_car_66 : decode cX8_car 66 = .ok (.ireturn, 1) := by decide +kernel
theorem dX8_due_0 : decode cX8_due 0 = .ok (.aload_n 0, 1) := by decide +kernel
theorem dX8_due_1 : decode cX8_due 1 = .ok (.iconst 0, 1) := by decide +kernel
theorem dX8_due_2 : decode cX8_due 2 = .ok (.putfield 3, 3) := by decide +kernel
theorem dX8_due_5 : decode cX8_due 5 = .ok (.iload_n 1, 1) := by decide +kernel
theorem dX8_due_6 : decode cX8_due 6 = .ok (.invokestatic 174, 3) := by decide +kernel
theorem dX8_due_9 : decode cX8_due 9 = .ok (.ifCond .ne 10, 3) := by decide +kernel
theorem dX8_due_12 : decode cX8_due 12 = .ok (.aload_n 0, 1) := by decide +kernel
theorem dX8_due_13 : decode cX8_due 13 = .ok (.iconst 1, 1) := by decide +kernel
theorem dX8_due_14 : decode cX8_due 14 = .ok (.invokevirtual 177, 3) := by decide +kernel
theorem dX8_due_17 : decode cX8_due 17 = .ok (.i2l, 1) := by decide +kernel
theorem dX8_due_18 : decode cX8_due 18 = .ok (.lreturn, 1) := by decide +kernel
theorem dX8_due_19 : decode cX8_due 19 = .ok (.lconst 0, 1) := by decide +kernel
theorem dX8_due_20 : decode cX8_due 20 = .ok (.lstore_n 2, 1) := by decide +kernel
theorem dX8_due_21 : decode cX8_due 21 = .ok (.iconst 0, 1) := by decide +kernel
theorem dX8_due_22 : decode cX8_due 22 = .ok (.istore 4, 2) := by decide +kernel
theorem dX8_due_24 : decode cX8_due 24 = .ok (.iload 4, 2) := by decide +kernel
theorem dX8_due_26 : decode cX8_due 26 = .ok (.aload_n 0, 1) := by decide +kernel
theorem dX8_due_27 : decode cX8_due 27 = .ok (.getfield 13, 3) := by decide +kernel
theorem dX8_due_30 : decode cX8_due 30 = .ok (.iconst 1, 1) := by decide +kernel
theorem dX8_due_31 : decode cX8_due 31 = .ok (.iaload, 1) := by decide +kernel
theorem dX8_due_32 : decode cX8_due 32 = .ok (.if_icmp .ge 39, 3) := by decide +kernel
theorem dX8_due_35 : decode cX8_due 35 = .ok (.lload_n 2, 1) := by decide +kernel
theorem dX8_due_36 : decode cX8_due 36 = .ok (.aload_n 0, 1) := by decide +kernel
theorem dX8_due_37 : decode cX8_due 37 = .ok (.iload 4, 2) := by decide +kernel
theorem dX8_due_39 : decode cX8_due 39 = .ok (.invokevirtual 207, 3) := by decide +kernel
theorem dX8_due_42 : decode cX8_due 42 = .ok (.ifCond .eq 20, 3) := by decide +kernel
theorem dX8_due_45 : decode cX8_due 45 = .ok (.aload_n 0, 1) := by decide +kernel
theorem dX8_due_46 : decode cX8_due 46 = .ok (.iload 4, 2) := by decide +kernel
theorem dX8_due_48 : decode cX8_due 48 = .ok (.invokevirtual 119, 3) := by decide +kernel
theorem dX8_due_51 : decode cX8_due 51 = .ok (.iload_n 1, 1) := by decide +kernel
theorem dX8_due_52 : decode cX8_due 52 = .ok (.if_icmp .gt 10, 3) := by decide +kernel
theorem dX8_due_55 : decode cX8_due 55 = .ok (.lconst 1, 1) := by decide +kernel
theorem dX8_due_56 : decode cX8_due 56 = .ok (.iload 4, 2) := by decide +kernel
theorem dX8_due_58 : decode cX8_due 58 = .ok (.lshl, 1) := by decide +kernel
theorem dX8_due_59 : decode cX8_due 59 = .ok (.goto 4, 3) := by decide +kernel
theorem dX8_due_62 : decode cX8_due 62 = .ok (.lconst 0, 1) := by decide +kernel
theorem dX8_due_63 : decode cX8_due 63 = .ok (.lor, 1) := by decide +kernel
theorem dX8_due_64 : decode cX8_due 64 = .ok (.lstore_n 2, 1) := by decide +kernel
theorem dX8_due_65 : decode cX8_due 65 = .ok (.iinc 4 1, 3) := by decide +kernel
theorem dX8_due_68 : decode cX8_due 68 = .ok (.goto (-44), 3) := by decide +kernel
theorem dX8_due_71 : decode cX8_due 71 = .ok (.lload_n 2, 1) := by decide +kernel
theorem dX8_due_72 : decode cX8_due 72 = .ok (.lreturn, 1) := by decide +kernel
theorem dX8_closes_0 : decode cX8_closes 0 = .ok (.iload_n 1, 1) := by decide +kernel
theorem dX8_closes_1 : decode cX8_closes 1 = .ok (.invokestatic 223, 3) := by decide +kernel
theorem dX8_closes_4 : decode cX8_closes 4 = .ok (.ifCond .ne 9, 3) := by decide +kernel
theorem dX8_closes_7 : decode cX8_closes 7 = .ok (.aload_n 0, 1) := by decide +kernel
theorem dX8_closes_8 : decode cX8_closes 8 = .ok (.iconst 1, 1) := by decide +kernel
theorem dX8_closes_9 : decode cX8_closes 9 = .ok (.invokevirtual 177, 3) := by decide +kernel
theorem dX8_closes_12 : decode cX8_closes 12 = .ok (.ireturn, 1) := by decide +kernel
theorem dX8_closes_13 : decode cX8_closes 13 = .ok (.aload_n 0, 1) := by decide +kernel
theorem dX8_closes_14 : decode cX8_closes 14 = .ok (.getfield 13, 3) := by decide +kernel
theorem dX8_closes_17 : decode cX8_closes 17 = .ok (.bipush 19, 2) := by decide +kernel
theorem dX8_closes_19 : decode cX8_closes 19 = .ok (.iload_n 1, 1) := by decide +kernel
theorem dX8_closes_20 : decode cX8_closes 20 = .ok (.iadd, 1) := by decide +kernel
theorem dX8_closes_21 : decode cX8_closes 21 = .ok (.iaload, 1) := by decide +kernel
theorem dX8_closes_22 : decode cX8_closes 22 = .ok (.istore_n 3, 1) := by decide +kernel
theorem dX8_closes_23 : decode cX8_closes 23 = .ok (.aload_n 0, 1) := by decide +kernel
theorem dX8_closes_24 : decode cX8_closes 24 = .ok (.getfield 13, 3) := by decide +kernel
theorem dX8_closes_27 : decode cX8_closes 27 = .ok (.bipush 19, 2) := by decide +kernel
theorem dX8_closes_29 : decode cX8_closes 29 = .ok (.iload_n 1, 1) := by decide +kernel
theorem dX8_closes_30 : decode cX8_closes 30 = .ok (.iadd, 1) := by decide +kernel
theorem dX8_closes_31 : decode cX8_closes 31 = .ok (.iload_n 2, 1) := by decide +kernel
theorem dX8_closes_32 : decode cX8_closes 32 = .ok (.iastore, 1) := by decide +kernel
theorem dX8_closes_33 : decode cX8_closes 33 = .ok (.iload_n 3, 1) := by decide +kernel
theorem dX8_closes_34 : decode cX8_closes 34 = .ok (.ireturn, 1) := by decide +kernel
theorem dX8_setClosed_0 : decode cX8_setClosed 0 = .ok (.aload_n 0, 1) := by decide +kernel
theorem dX8_setClosed_1 : decode cX8_setClosed 1 = .ok (.invokevirtual 188, 3) := by decide +kernel
theorem dX8_setClosed_4 : decode cX8_setClosed 4 = .ok (.aload_n 0, 1) := by decide +kernel
theorem dX8_setClosed_5 : decode cX8_setClosed 5 = .ok (.aload_n 0, 1) := by decide +kernel
theorem dX8_setClosed_6 : decode cX8_setClosed 6 = .ok (.iload_n 1, 1) := by decide +kernel
theorem dX8_setClosed_7 : decode cX8_setClosed 7 = .ok (.iload_n 2, 1) := by decide +kernel
theorem dX8_setClosed_8 : decode cX8_setClosed 8 = .ok (.ifCond .eq 7, 3) := by decide +kernel
theorem dX8_setClosed_11 : decode cX8_setClosed 11 = .ok (.iconst 1, 1) := by decide +kernel
theorem dX8_setClosed_12 : decode cX8_setClosed 12 = .ok (.goto 4, 3) := by decide +kernel
theorem dX8_setClosed_15 : decode cX8_setClosed 15 = .ok (.iconst 0, 1) := by decide +kernel
theorem dX8_setClosed_16 : decode cX8_setClosed 16 = .ok (.invokevirtual 226, 3) := by decide +kernel
theorem dX8_setClosed_19 : decode cX8_setClosed 19 = .ok (.invokevirtual 194, 3) := by decide +kernel
theorem dX8_setClosed_22 : decode cX8_setClosed 22 = .ok (.iconst 1, 1) := by decide +kernel
theorem dX8_setClosed_23 : decode cX8_setClosed 23 = .ok (.if_icmp .ne 7, 3) := by decide +kernel
theorem dX8_setClosed_26 : decode cX8_setClosed 26 = .ok (.iconst 1, 1) := by decide +kernel
theorem dX8_setClosed_27 : decode cX8_setClosed 27 = .ok (.goto 4, 3) := by decide +kernel
theorem dX8_setClosed_30 : decode cX8_setClosed 30 = .ok (.iconst 0, 1) := by decide +kernel
theorem dX8_setClosed_31 : decode cX8_setClosed 31 = .ok (.ireturn, 1) := by decide +kernel
theorem dX8_bay_0 : decode cX8_bay 0 = .ok (.aload_n 0, 1) := by decide +kernel
theorem dX8_bay_1 : decode cX8_bay 1 = .ok (.iconst 0, 1) := by decide +kernel
theorem dX8_bay_2 : decode cX8_bay 2 = .ok (.putfield 3, 3) := by decide +kernel
theorem dX8_bay_5 : decode cX8_bay 5 = .ok (.iload_n 1, 1) := by decide +kernel
theorem dX8_bay_6 : decode cX8_bay 6 = .ok (.invokestatic 223, 3) := by decide +kernel
theorem dX8_bay_9 : decode cX8_bay 9 = .ok (.ifCond .ne 9, 3) := by decide +kernel
theorem dX8_bay_12 : decode cX8_bay 12 = .ok (.aload_n 0, 1) := by decide +kernel
theorem dX8_bay_13 : decode cX8_bay 13 = .ok (.iconst 1, 1) := by decide +kernel
theorem dX8_bay_14 : decode cX8_bay 14 = .ok (.invokevirtual 177, 3) := by decide +kernel
theorem dX8_bay_17 : decode cX8_bay 17 = .ok (.ireturn, 1) := by decide +kernel
theorem dX8_bay_18 : decode cX8_bay 18 = .ok (.iload_n 2, 1) := by decide +kernel
theorem dX8_bay_19 : decode cX8_bay 19 = .ok (.tableswitch 112 0 7 #[45, 50, 55, 60, 65, 78, 88, 98], 45) := by decide +kernel
theorem dX8_bay_64 : decode cX8_bay 64 = .ok (.iload_n 1, 1) := by decide +kernel
theorem dX8_bay_65 : decode cX8_bay 65 = .ok (.invokestatic 122, 3) := by decide +kernel
theorem dX8_bay_68 : decode cX8_bay 68 = .ok (.ireturn, 1) := by decide +kernel
theorem dX8_bay_69 : decode cX8_bay 69 = .ok (.iload_n 1, 1) := by decide +kernel
theorem dX8_bay_70 : decode cX8_bay 70 = .ok (.invokestatic 229, 3) := by decide +kernel
theorem dX8_bay_73 : decode cX8_bay 73 = .ok (.ireturn, 1) := by decide +kernel
theorem dX8_bay_74 : decode cX8_bay 74 = .ok (.iload_n 1, 1) := by decide +kernel
theorem dX8_bay_75 : decode cX8_bay 75 = .ok (.invokestatic 97, 3) := by decide +kernel
theorem dX8_bay_78 : decode cX8_bay 78 = .ok (.ireturn, 1) := by decide +kernel
theorem dX8_bay_79 : decode cX8_bay 79 = .ok (.iload_n 1, 1) := by decide +kernel
theorem dX8_bay_80 : decode cX8_bay 80 = .ok (.invokestatic 101, 3) := by decide +kernel
theorem dX8_bay_83 : decode cX8_bay 83 = .ok (.ireturn, 1) := by decide +kernel
theorem dX8_bay_84 : decode cX8_bay 84 = .ok (.iload_n 1, 1) := by decide +kernel
theorem dX8_bay_85 : decode cX8_bay 85 = .ok (.invokestatic 130, 3) := by decide +kernel
theorem dX8_bay_88 : decode cX8_bay 88 = .ok (.ifCond .eq 7, 3) := by decide +kernel
theorem dX8_bay_91 : decode cX8_bay 91 = .ok (.iconst 1, 1) := by decide +kernel
theorem dX8_bay_92 : decode cX8_bay 92 = .ok (.goto 4, 3) := by decide +kernel
theorem dX8_bay_95 : decode cX8_bay 95 = .ok (.iconst 0, 1) := by decide +kernel
theorem dX8_bay_96 : decode cX8_bay 96 = .ok (.ireturn, 1) := by decide +kernel
theorem dX8_bay_97 : decode cX8_bay 97 = .ok (.aload_n 0, 1) := by decide +kernel
theorem dX8_bay_98 : decode cX8_bay 98 = .ok (.getfield 13, 3) := by decide +kernel
theorem dX8_bay_101 : decode cX8_bay 101 = .ok (.bipush 19, 2) := by decide +kernel
theorem dX8_bay_103 : decode cX8_bay 103 = .ok (.iload_n 1, 1) := by decide +kernel
theorem dX8_bay_104 : decode cX8_bay 104 = .ok (.iadd, 1) := by decide +kernel
theorem dX8_bay_105 : decode cX8_bay 105 = .ok (.iaload, 1) := by decide +kernel
theorem dX8_bay_106 : decode cX8_bay 106 = .ok (.ireturn, 1) := by decide +kernel
theorem dX8_bay_107 : decode cX8_bay 107 = .ok (.aload_n 0, 1) := by decide +kernel
theorem dX8_bay_108 : decode cX8_bay 108 = .ok (.getfield 13, 3) := by decide +kernel
theorem dX8_bay_111 : decode cX8_bay 111 = .ok (.bipush 79, 2) := by decide +kernel
theorem dX8_bay_113 : decode cX8_bay 113 = .ok (.iload_n 1, 1) := by decide +kernel
theorem dX8_bay_114 : decode cX8_bay 114 = .ok (.iadd, 1) := by decide +kernel
theorem dX8_bay_115 : decode cX8_bay 115 = .ok (.iaload, 1) := by decide +kernel
theorem dX8_bay_116 : decode cX8_bay 116 = .ok (.ireturn, 1) := by decide +kernel
theorem dX8_bay_117 : decode cX8_bay 117 = .ok (.aload_n 0, 1) := by decide +kernel
theorem dX8_bay_118 : decode cX8_bay 118 = .ok (.iload_n 1, 1) := by decide +kernel
theorem dX8_bay_119 : decode cX8_bay 119 = .ok (.invokevirtual 133, 3) := by decide +kernel
theorem dX8_bay_122 : decode cX8_bay 122 = .ok (.ifCond .eq 7, 3) := by decide +kernel
theorem dX8_bay_125 : decode cX8_bay 125 = .ok (.iconst 1, 1) := by decide +kernel
theorem dX8_bay_126 : decode cX8_bay 126 = .ok (.goto 4, 3) := by decide +kernel
theorem dX8_bay_129 : decode cX8_bay 129 = .ok (.iconst 0, 1) := by decide +kernel
theorem dX8_bay_130 : decode cX8_bay 130 = .ok (.ireturn, 1) := by decide +kernel
theorem dX8_bay_131 : decode cX8_bay 131 = .ok (.aload_n 0, 1) := by decide +kernel
theorem dX8_bay_132 : decode cX8_bay 132 = .ok (.iconst 2, 1) := by decide +kernel
theorem dX8_bay_133 : decode cX8_bay 133 = .ok (.invokevirtual 177, 3) := by decide +kernel
theorem dX8_bay_136 : decode cX8_bay 136 = .ok (.ireturn, 1) := by decide +kernel
theorem dX8_choice_0 : decode cX8_choice 0 = .ok (.aload_n 0, 1) := by decide +kernel
theorem dX8_choice_1 : decode cX8_choice 1 = .ok (.iconst 0, 1) := by decide +kernel
theorem dX8_choice_2 : decode cX8_choice 2 = .ok (.putfield 3, 3) := by decide +kernel
theorem dX8_choice_5 : decode cX8_choice 5 = .ok (.iload_n 1, 1) := by decide +kernel
theorem dX8_choice_6 : decode cX8_choice 6 = .ok (.invokestatic 171, 3) := by decide +kernel
theorem dX8_choice_9 : decode cX8_choice 9 = .ok (.ifCond .eq 10, 3) := by decide +kernel
theorem dX8_choice_12 : decode cX8_choice 12 = .ok (.iload_n 2, 1) := by decide +kernel
theorem dX8_choice_13 : decode cX8_choice 13 = .ok (.invokestatic 174, 3) := by decide +kernel
theorem dX8_choice_16 : decode cX8_choice 16 = .ok (.ifCond .ne 9, 3) := by decide +kernel
theorem dX8_choice_19 : decode cX8_choice 19 = .ok (.aload_n 0, 1) := by decide +kernel
theorem dX8_choice_20 : decode cX8_choice 20 = .ok (.iconst 1, 1) := by decide +kernel
theorem dX8_choice_21 : decode cX8_choice 21 = .ok (.invokevirtual 177, 3) := by decide +kernel
theorem dX8_choice_24 : decode cX8_choice 24 = .ok (.ireturn, 1) := by decide +kernel
theorem dX8_choice_25 : decode cX8_choice 25 = .ok (.aload_n 0, 1) := by decide +kernel
theorem dX8_choice_26 : decode cX8_choice 26 = .ok (.iload_n 1, 1) := by decide +kernel
theorem dX8_choice_27 : decode cX8_choice 27 = .ok (.iload_n 2, 1) := by decide +kernel
theorem dX8_choice_28 : decode cX8_choice 28 = .ok (.iconst (-1), 1) := by decide +kernel
theorem dX8_choice_29 : decode cX8_choice 29 = .ok (.invokevirtual 180, 3) := by decide +kernel
theorem dX8_choice_32 : decode cX8_choice 32 = .ok (.istore_n 3, 1) := by decide +kernel
theorem dX8_choice_33 : decode cX8_choice 33 = .ok (.iload_n 3, 1) := by decide +kernel
theorem dX8_choice_34 : decode cX8_choice 34 = .ok (.ifCond .ge 11, 3) := by decide +kernel
theorem dX8_choice_37 : decode cX8_choice 37 = .ok (.aload_n 0, 1) := by decide +kernel
theorem dX8_choice_38 : decode cX8_choice 38 = .ok (.iconst 2, 1) := by decide +kernel
theorem dX8_choice_39 : decode cX8_choice 39 = .ok (.invokevirtual 177, 3) := by decide +kernel
theorem dX8_choice_42 : decode cX8_choice 42 = .ok (.goto 4, 3) := by decide +kernel
theorem dX8_choice_45 : decode cX8_choice 45 = .ok (.iload_n 3, 1) := by decide +kernel
theorem dX8_choice_46 : decode cX8_choice 46 = .ok (.ireturn, 1) := by decide +kernel
theorem dX8_refuge_0 : decode cX8_refuge 0 = .ok (.aload_n 0, 1) := by decide +kernel
theorem dX8_refuge_1 : decode cX8_refuge 1 = .ok (.iconst 0, 1) := by decide +kernel
theorem dX8_refuge_2 : decode cX8_refuge 2 = .ok (.putfield 3, 3) := by decide +kernel
theorem dX8_refuge_5 : decode cX8_refuge 5 = .ok (.aload_n 0, 1) := by decide +kernel
theorem dX8_refuge_6 : decode cX8_refuge 6 = .ok (.iload_n 1, 1) := by decide +kernel
theorem dX8_refuge_7 : decode cX8_refuge 7 = .ok (.invokevirtual 207, 3) := by decide +kernel
theorem dX8_refuge_10 : decode cX8_refuge 10 = .ok (.ifCond .ne 9, 3) := by decide +kernel
theorem dX8_refuge_13 : decode cX8_refuge 13 = .ok (.aload_n 0, 1) := by decide +kernel
theorem dX8_refuge_14 : decode cX8_refuge 14 = .ok (.iconst 1, 1) := by decide +kernel
theorem dX8_refuge_15 : decode cX8_refuge 15 = .ok (.invokevirtual 177, 3) := by decide +kernel
theorem dX8_refuge_18 : decode cX8_refuge 18 = .ok (.ireturn, 1) := by decide +kernel
theorem dX8_refuge_19 : decode cX8_refuge 19 = .ok (.aload_n 0, 1) := by decide +kernel
theorem dX8_refuge_20 : decode cX8_refuge 20 = .ok (.aload_n 0, 1) := by decide +kernel
theorem dX8_refuge_21 : decode cX8_refuge 21 = .ok (.iload_n 1, 1) := by decide +kernel
theorem dX8_refuge_22 : decode cX8_refuge 22 = .ok (.iconst 0, 1) := by decide +kernel
theorem dX8_refuge_23 : decode cX8_refuge 23 = .ok (.invokevirtual 108, 3) := by decide +kernel
theorem dX8_refuge_26 : decode cX8_refuge 26 = .ok (.aload_n 0, 1) := by decide +kernel
theorem dX8_refuge_27 : decode cX8_refuge 27 = .ok (.iload_n 1, 1) := by decide +kernel
theorem dX8_refuge_28 : decode cX8_refuge 28 = .ok (.invokevirtual 119, 3) := by decide +kernel
theorem dX8_refuge_31 : decode cX8_refuge 31 = .ok (.aload_n 0, 1) := by decide +kernel
theorem dX8_refuge_32 : decode cX8_refuge 32 = .ok (.iload_n 1, 1) := by decide +kernel
theorem dX8_refuge_33 : decode cX8_refuge 33 = .ok (.invokevirtual 116, 3) := by decide +kernel
theorem dX8_refuge_36 : decode cX8_refuge 36 = .ok (.invokevirtual 180, 3) := by decide +kernel
theorem dX8_refuge_39 : decode cX8_refuge 39 = .ok (.istore_n 2, 1) := by decide +kernel
theorem dX8_refuge_40 : decode cX8_refuge 40 = .ok (.iload_n 2, 1) := by decide +kernel
theorem dX8_refuge_41 : decode cX8_refuge 41 = .ok (.ifCond .ge 11, 3) := by decide +kernel
theorem dX8_refuge_44 : decode cX8_refuge 44 = .ok (.aload_n 0, 1) := by decide +kernel
theorem dX8_refuge_45 : decode cX8_refuge 45 = .ok (.iconst 2, 1) := by decide +kernel
theorem dX8_refuge_46 : decode cX8_refuge 46 = .ok (.invokevirtual 177, 3) := by decide +kernel
theorem dX8_refuge_49 : decode cX8_refuge 49 = .ok (.goto 4, 3) := by decide +kernel
theorem dX8_refuge_52 : decode cX8_refuge 52 = .ok (.iload_n 2, 1) := by decide +kernel
theorem dX8_refuge_53 : decode cX8_refuge 53 = .ok (.ireturn, 1) := by decide +kernel
theorem dX8_isCounted_0 : decode cX8_isCounted 0 = .ok (.aload_n 0, 1) := by decide +kernel
theorem dX8_isCounted_1 : decode cX8_isCounted 1 = .ok (.getfield 13, 3) := by decide +kernel
theorem dX8_isCounted_4 : decode cX8_isCounted 4 = .ok (.bipush 19, 2) := by decide +kernel
theorem dX8_isCounted_6 : decode cX8_isCounted 6 = .ok (.iload_n 1, 1) := by decide +kernel
theorem dX8_isCounted_7 : decode cX8_isCounted 7 = .ok (.iadd, 1) := by decide +kernel
theorem dX8_isCounted_8 : decode cX8_isCounted 8 = .ok (.iaload, 1) := by decide +kernel
theorem dX8_isCounted_9 : decode cX8_isCounted 9 = .ok (.ifCond .ne 15, 3) := by decide +kernel
theorem dX8_isCounted_12 : decode cX8_isCounted 12 = .ok (.aload_n 0, 1) := by decide +kernel
theorem dX8_isCounted_13 : decode cX8_isCounted 13 = .ok (.iload_n 1, 1) := by decide +kernel
theorem dX8_isCounted_14 : decode cX8_isCounted 14 = .ok (.invokevirtual 104, 3) := by decide +kernel
theorem dX8_isCounted_17 : decode cX8_isCounted 17 = .ok (.ifCond .eq 7, 3) := by decide +kernel
theorem dX8_isCounted_20 : decode cX8_isCounted 20 = .ok (.iconst 1, 1) := by decide +kernel
theorem dX8_isCounted_21 : decode cX8_isCounted 21 = .ok (.goto 4, 3) := by decide +kernel
theorem dX8_isCounted_24 : decode cX8_isCounted 24 = .ok (.iconst 0, 1) := by decide +kernel
theorem dX8_isCounted_25 : decode cX8_isCounted 25 = .ok (.istore_n 3, 1) := by decide +kernel
theorem dX8_isCounted_26 : decode cX8_isCounted 26 = .ok (.aload_n 0, 1) := by decide +kernel
theorem dX8_isCounted_27 : decode cX8_isCounted 27 = .ok (.iload_n 1, 1) := by decide +kernel
theorem dX8_isCounted_28 : decode cX8_isCounted 28 = .ok (.invokevirtual 104, 3) := by decide +kernel
theorem dX8_isCounted_31 : decode cX8_isCounted 31 = .ok (.ifCond .eq 7, 3) := by decide +kernel
theorem dX8_isCounted_34 : decode cX8_isCounted 34 = .ok (.iconst (-1), 1) := by decide +kernel
theorem dX8_isCounted_35 : decode cX8_isCounted 35 = .ok (.goto 16, 3) := by decide +kernel
theorem dX8_isCounted_38 : decode cX8_isCounted 38 = .ok (.aload_n 0, 1) := by decide +kernel
theorem dX8_isCounted_39 : decode cX8_isCounted 39 = .ok (.aload_n 0, 1) := by decide +kernel
theorem dX8_isCounted_40 : decode cX8_isCounted 40 = .ok (.getfield 13, 3) := by decide +kernel
theorem dX8_isCounted_43 : decode cX8_isCounted 43 = .ok (.bipush 79, 2) := by decide +kernel
theorem dX8_isCounted_45 : decode cX8_isCounted 45 = .ok (.iload_n 1, 1) := by decide +kernel
theorem dX8_isCounted_46 : decode cX8_isCounted 46 = .ok (.iadd, 1) := by decide +kernel
theorem dX8_isCounted_47 : decode cX8_isCounted 47 = .ok (.iaload, 1) := by decide +kernel
theorem dX8_isCounted_48 : decode cX8_isCounted 48 = .ok (.invokevirtual 197, 3) := by decide +kernel
theorem dX8_isCounted_51 : decode cX8_isCounted 51 = .ok (.istore 4, 2) := by decide +kernel
theorem dX8_isCounted_53 : decode cX8_isCounted 53 = .ok (.iload_n 2, 1) := by decide +kernel
theorem dX8_isCounted_54 : decode cX8_isCounted 54 = .ok (.tableswitch 98 0 4 #[34, 48, 50, 68, 87], 34) := by decide +kernel
theorem dX8_isCounted_88 : decode cX8_isCounted 88 = .ok (.aload_n 0, 1) := by decide +kernel
theorem dX8_isCounted_89 : decode cX8_isCounted 89 = .ok (.iload_n 1, 1) := by decide +kernel
theorem dX8_isCounted_90 : decode cX8_isCounted 90 = .ok (.invokevirtual 104, 3) := by decide +kernel
theorem dX8_isCounted_93 : decode cX8_isCounted 93 = .ok (.ifCond .ne 7, 3) := by decide +kernel
theorem dX8_isCounted_96 : decode cX8_isCounted 96 = .ok (.iconst 1, 1) := by decide +kernel
theorem dX8_isCounted_97 : decode cX8_isCounted 97 = .ok (.goto 4, 3) := by decide +kernel
theorem dX8_isCounted_100 : decode cX8_isCounted 100 = .ok (.iconst 0, 1) := by decide +kernel
theorem dX8_isCounted_101 : decode cX8_isCounted 101 = .ok (.ireturn, 1) := by decide +kernel
theorem dX8_isCounted_102 : decode cX8_isCounted 102 = .ok (.iload_n 3, 1) := by decide +kernel
theorem dX8_isCounted_103 : decode cX8_isCounted 103 = .ok (.ireturn, 1) := by decide +kernel
theorem dX8_isCounted_104 : decode cX8_isCounted 104 = .ok (.iload_n 3, 1) := by decide +kernel
theorem dX8_isCounted_105 : decode cX8_isCounted 105 = .ok (.ifCond .eq 15, 3) := by decide +kernel
theorem dX8_isCounted_108 : decode cX8_isCounted 108 = .ok (.aload_n 0, 1) := by decide +kernel
theorem dX8_isCounted_109 : decode cX8_isCounted 109 = .ok (.iload_n 1, 1) := by decide +kernel
theorem dX8_isCounted_110 : decode cX8_isCounted 110 = .ok (.invokevirtual 133, 3) := by decide +kernel
theorem dX8_isCounted_113 : decode cX8_isCounted 113 = .ok (.ifCond .eq 7, 3) := by decide +kernel
theorem dX8_isCounted_116 : decode cX8_isCounted 116 = .ok (.iconst 1, 1) := by decide +kernel
theorem dX8_isCounted_117 : decode cX8_isCounted 117 = .ok (.goto 4, 3) := by decide +kernel
theorem dX8_isCounted_120 : decode cX8_isCounted 120 = .ok (.iconst 0, 1) := by decide +kernel
theorem dX8_isCounted_121 : decode cX8_isCounted 121 = .ok (.ireturn, 1) := by decide +kernel
theorem dX8_isCounted_122 : decode cX8_isCounted 122 = .ok (.aload_n 0, 1) := by decide +kernel
theorem dX8_isCounted_123 : decode cX8_isCounted 123 = .ok (.getfield 13, 3) := by decide +kernel
theorem dX8_isCounted_126 : decode cX8_isCounted 126 = .ok (.bipush 19, 2) := by decide +kernel
theorem dX8_isCounted_128 : decode cX8_isCounted 128 = .ok (.iload_n 1, 1) := by decide +kernel
theorem dX8_isCounted_129 : decode cX8_isCounted 129 = .ok (.iadd, 1) := by decide +kernel
theorem dX8_isCounted_130 : decode cX8_isCounted 130 = .ok (.iaload, 1) := by decide +kernel
theorem dX8_isCounted_131 : decode cX8_isCounted 131 = .ok (.iconst 1, 1) := by decide +kernel
theorem dX8_isCounted_132 : decode cX8_isCounted 132 = .ok (.if_icmp .ne 7, 3) := by decide +kernel
theorem dX8_isCounted_135 : decode cX8_isCounted 135 = .ok (.iconst 1, 1) := by decide +kernel
theorem dX8_isCounted_136 : decode cX8_isCounted 136 = .ok (.goto 4, 3) := by decide +kernel
theorem dX8_isCounted_139 : decode cX8_isCounted 139 = .ok (.iconst 0, 1) := by decide +kernel
theorem dX8_isCounted_140 : decode cX8_isCounted 140 = .ok (.ireturn, 1) := by decide +kernel
theorem dX8_isCounted_141 : decode cX8_isCounted 141 = .ok (.iload 4, 2) := by decide +kernel
theorem dX8_isCounted_143 : decode cX8_isCounted 143 = .ok (.ifCond .lt 7, 3) := by decide +kernel
theorem dX8_isCounted_146 : decode cX8_isCounted 146 = .ok (.iconst 1, 1) := by decide +kernel
theorem dX8_isCounted_147 : decode cX8_isCounted 147 = .ok (.goto 4, 3) := by decide +kernel
theorem dX8_isCounted_150 : decode cX8_isCounted 150 = .ok (.iconst 0, 1) := by decide +kernel
theorem dX8_isCounted_151 : decode cX8_isCounted 151 = .ok (.ireturn, 1) := by decide +kernel
theorem dX8_isCounted_152 : decode cX8_isCounted 152 = .ok (.iload 4, 2) := by decide +kernel
theorem dX8_isCounted_154 : decode cX8_isCounted 154 = .ok (.ifCond .lt 29, 3) := by decide +kernel
theorem dX8_isCounted_157 : decode cX8_isCounted 157 = .ok (.aload_n 0, 1) := by decide +kernel
theorem dX8_isCounted_158 : decode cX8_isCounted 158 = .ok (.aload_n 0, 1) := by decide +kernel
theorem dX8_isCounted_159 : decode cX8_isCounted 159 = .ok (.getfield 13, 3) := by decide +kernel
theorem dX8_isCounted_162 : decode cX8_isCounted 162 = .ok (.bipush 79, 2) := by decide +kernel
theorem dX8_isCounted_164 : decode cX8_isCounted 164 = .ok (.iload_n 1, 1) := by decide +kernel
theorem dX8_isCounted_165 : decode cX8_isCounted 165 = .ok (.iadd, 1) := by decide +kernel
theorem dX8_isCounted_166 : decode cX8_isCounted 166 = .ok (.iaload, 1) := by decide +kernel
theorem dX8_isCounted_167 : decode cX8_isCounted 167 = .ok (.invokevirtual 119, 3) := by decide +kernel
theorem dX8_isCounted_170 : decode cX8_isCounted 170 = .ok (.aload_n 0, 1) := by decide +kernel
theorem dX8_isCounted_171 : decode cX8_isCounted 171 = .ok (.iload 4, 2) := by decide +kernel
theorem dX8_isCounted_173 : decode cX8_isCounted 173 = .ok (.invokevirtual 119, 3) := by decide +kernel
theorem dX8_isCounted_176 : decode cX8_isCounted 176 = .ok (.if_icmp .ge 7, 3) := by decide +kernel
theorem dX8_isCounted_179 : decode cX8_isCounted 179 = .ok (.iconst 1, 1) := by decide +kernel
theorem dX8_isCounted_180 : decode cX8_isCounted 180 = .ok (.goto 4, 3) := by decide +kernel
theorem dX8_isCounted_183 : decode cX8_isCounted 183 = .ok (.iconst 0, 1) := by decide +kernel
theorem dX8_isCounted_184 : decode cX8_isCounted 184 = .ok (.ireturn, 1) := by decide +kernel
theorem dX8_bays_0 : decode cX8_bays 0 = .ok (.aload_n 0, 1) := by decide +kernel
theorem dX8_bays_1 : decode cX8_bays 1 = .ok (.iconst 0, 1) := by decide +kernel
theorem dX8_bays_2 : decode cX8_bays 2 = .ok (.putfield 3, 3) := by decide +kernel
theorem dX8_bays_5 : decode cX8_bays 5 = .ok (.iload_n 1, 1) := by decide +kernel
theorem dX8_bays_6 : decode cX8_bays 6 = .ok (.iconst 0, 1) := by decide +kernel
theorem dX8_bays_7 : decode cX8_bays 7 = .ok (.iconst 5, 1) := by decide +kernel
theorem dX8_bays_8 : decode cX8_bays 8 = .ok (.invokestatic 112, 3) := by decide +kernel
theorem dX8_bays_11 : decode cX8_bays 11 = .ok (.ifCond .ne 9, 3) := by decide +kernel
theorem dX8_bays_14 : decode cX8_bays 14 = .ok (.aload_n 0, 1) := by decide +kernel
theorem dX8_bays_15 : decode cX8_bays 15 = .ok (.iconst 1, 1) := by decide +kernel
theorem dX8_bays_16 : decode cX8_bays 16 = .ok (.invokevirtual 177, 3) := by decide +kernel
theorem dX8_bays_19 : decode cX8_bays 19 = .ok (.ireturn, 1) := by decide +kernel
theorem dX8_bays_20 : decode cX8_bays 20 = .ok (.iconst 0, 1) := by decide +kernel
theorem dX8_bays_21 : decode cX8_bays 21 = .ok (.istore_n 2, 1) := by decide +kernel
theorem dX8_bays_22 : decode cX8_bays 22 = .ok (.iconst 0, 1) := by decide +kernel
theorem dX8_bays_23 : decode cX8_bays 23 = .ok (.istore_n 3, 1) := by decide +kernel
theorem dX8_bays_24 : decode cX8_bays 24 = .ok (.iload_n 3, 1) := by decide +kernel
theorem dX8_bays_25 : decode cX8_bays 25 = .ok (.bipush 60, 2) := by decide +kernel
theorem dX8_bays_27 : decode cX8_bays 27 = .ok (.if_icmp .ge 26, 3) := by decide +kernel
theorem dX8_bays_30 : decode cX8_bays 30 = .ok (.iload_n 2, 1) := by decide +kernel
theorem dX8_bays_31 : decode cX8_bays 31 = .ok (.aload_n 0, 1) := by decide +kernel
theorem dX8_bays_32 : decode cX8_bays 32 = .ok (.iload_n 3, 1) := by decide +kernel
theorem dX8_bays_33 : decode cX8_bays 33 = .ok (.iload_n 1, 1) := by decide +kernel
theorem dX8_bays_34 : decode cX8_bays 34 = .ok (.invokevirtual 232, 3) := by decide +kernel
theorem dX8_bays_37 : decode cX8_bays 37 = .ok (.ifCond .eq 7, 3) := by decide +kernel
theorem dX8_bays_40 : decode cX8_bays 40 = .ok (.iconst 1, 1) := by decide +kernel
theorem dX8_bays_41 : decode cX8_bays 41 = .ok (.goto 4, 3) := by decide +kernel
theorem dX8_bays_44 : decode cX8_bays 44 = .ok (.iconst 0, 1) := by decide +kernel
theorem dX8_bays_45 : decode cX8_bays 45 = .ok (.iadd, 1) := by decide +kernel
theorem dX8_bays_46 : decode cX8_bays 46 = .ok (.istore_n 2, 1) := by decide +kernel
theorem dX8_bays_47 : decode cX8_bays 47 = .ok (.iinc 3 1, 3) := by decide +kernel
theorem dX8_bays_50 : decode cX8_bays 50 = .ok (.goto (-26), 3) := by decide +kernel
theorem dX8_bays_53 : decode cX8_bays 53 = .ok (.iload_n 2, 1) := by decide +kernel
theorem dX8_bays_54 : decode cX8_bays 54 = .ok (.ireturn, 1) := by decide +kernel
theorem dX8_isSet_0 : decode cX8_isSet 0 = .ok (.aload_n 0, 1) := by decide +kernel
theorem dX8_isSet_1 : decode cX8_isSet 1 = .ok (.iconst 0, 1) := by decide +kernel
theorem dX8_isSet_2 : decode cX8_isSet 2 = .ok (.putfield 3, 3) := by decide +kernel
theorem dX8_isSet_5 : decode cX8_isSet 5 = .ok (.lload_n 1, 1) := by decide +kernel
theorem dX8_isSet_6 : decode cX8_isSet 6 = .ok (.lconst 0, 1) := by decide +kernel
theorem dX8_isSet_7 : decode cX8_isSet 7 = .ok (.lcmp, 1) := by decide +kernel
theorem dX8_isSet_8 : decode cX8_isSet 8 = .ok (.ifCond .eq 16, 3) := by decide +kernel
theorem dX8_isSet_11 : decode cX8_isSet 11 = .ok (.lload_n 1, 1) := by decide +kernel
theorem dX8_isSet_12 : decode cX8_isSet 12 = .ok (.bipush 40, 2) := by decide +kernel
theorem dX8_isSet_14 : decode cX8_isSet 14 = .ok (.lushr, 1) := by decide +kernel
theorem dX8_isSet_15 : decode cX8_isSet 15 = .ok (.lconst 0, 1) := by decide +kernel
theorem dX8_isSet_16 : decode cX8_isSet 16 = .ok (.lcmp, 1) := by decide +kernel
theorem dX8_isSet_17 : decode cX8_isSet 17 = .ok (.ifCond .ne 7, 3) := by decide +kernel
theorem dX8_isSet_20 : decode cX8_isSet 20 = .ok (.iconst 1, 1) := by decide +kernel
theorem dX8_isSet_21 : decode cX8_isSet 21 = .ok (.goto 4, 3) := by decide +kernel
theorem dX8_isSet_24 : decode cX8_isSet 24 = .ok (.iconst 0, 1) := by decide +kernel
theorem dX8_isSet_25 : decode cX8_isSet 25 = .ok (.istore_n 3, 1) := by decide +kernel
theorem dX8_isSet_26 : decode cX8_isSet 26 = .ok (.iconst 0, 1) := by decide +kernel
theorem dX8_isSet_27 : decode cX8_isSet 27 = .ok (.istore 4, 2) := by decide +kernel
theorem dX8_isSet_29 : decode cX8_isSet 29 = .ok (.iload 4, 2) := by decide +kernel
theorem dX8_isSet_31 : decode cX8_isSet 31 = .ok (.bipush 40, 2) := by decide +kernel
theorem dX8_isSet_33 : decode cX8_isSet 33 = .ok (.if_icmp .ge 37, 3) := by decide +kernel
theorem dX8_isSet_36 : decode cX8_isSet 36 = .ok (.iload_n 3, 1) := by decide +kernel
theorem dX8_isSet_37 : decode cX8_isSet 37 = .ok (.lload_n 1, 1) := by decide +kernel
theorem dX8_isSet_38 : decode cX8_isSet 38 = .ok (.iload 4, 2) := by decide +kernel
theorem dX8_isSet_40 : decode cX8_isSet 40 = .ok (.lushr, 1) := by decide +kernel
theorem dX8_isSet_41 : decode cX8_isSet 41 = .ok (.lconst 1, 1) := by decide +kernel
theorem dX8_isSet_42 : decode cX8_isSet 42 = .ok (.land, 1) := by decide +kernel
theorem dX8_isSet_43 : decode cX8_isSet 43 = .ok (.lconst 0, 1) := by decide +kernel
theorem dX8_isSet_44 : decode cX8_isSet 44 = .ok (.lcmp, 1) := by decide +kernel
theorem dX8_isSet_45 : decode cX8_isSet 45 = .ok (.ifCond .eq 12, 3) := by decide +kernel
theorem dX8_isSet_48 : decode cX8_isSet 48 = .ok (.aload_n 0, 1) := by decide +kernel
theorem dX8_isSet_49 : decode cX8_isSet 49 = .ok (.iload 4, 2) := by decide +kernel
theorem dX8_isSet_51 : decode cX8_isSet 51 = .ok (.invokevirtual 207, 3) := by decide +kernel
theorem dX8_isSet_54 : decode cX8_isSet 54 = .ok (.ifCond .eq 7, 3) := by decide +kernel
theorem dX8_isSet_57 : decode cX8_isSet 57 = .ok (.iconst 1, 1) := by decide +kernel
theorem dX8_isSet_58 : decode cX8_isSet 58 = .ok (.goto 4, 3) := by decide +kernel
theorem dX8_isSet_61 : decode cX8_isSet 61 = .ok (.iconst 0, 1) := by decide +kernel
theorem dX8_isSet_62 : decode cX8_isSet 62 = .ok (.iand, 1) := by decide +kernel
theorem dX8_isSet_63 : decode cX8_isSet 63 = .ok (.istore_n 3, 1) := by decide +kernel
theorem dX8_isSet_64 : decode cX8_isSet 64 = .ok (.iinc 4 1, 3) := by decide +kernel
theorem dX8_isSet_67 : decode cX8_isSet 67 = .ok (.goto (-38), 3) := by decide +kernel
theorem dX8_isSet_70 : decode cX8_isSet 70 = .ok (.iload_n 3, 1) := by decide +kernel
theorem dX8_isSet_71 : decode cX8_isSet 71 = .ok (.ifCond .ne 11, 3) := by decide +kernel
theorem dX8_isSet_74 : decode cX8_isSet 74 = .ok (.aload_n 0, 1) := by decide +kernel
theorem dX8_isSet_75 : decode cX8_isSet 75 = .ok (.iconst 1, 1) := by decide +kernel
theorem dX8_isSet_76 : decode cX8_isSet 76 = .ok (.putfield 3, 3) := by decide +kernel
theorem dX8_isSet_79 : decode cX8_isSet 79 = .ok (.goto 16, 3) := by decide +kernel
theorem dX8_isSet_82 : decode cX8_isSet 82 = .ok (.lload_n 1, 1) := by decide +kernel
theorem dX8_isSet_83 : decode cX8_isSet 83 = .ok (.invokestatic 235, 3) := by decide +kernel
theorem dX8_isSet_86 : decode cX8_isSet 86 = .ok (.iconst 5, 1) := by decide +kernel
theorem dX8_isSet_87 : decode cX8_isSet 87 = .ok (.if_icmp .le 8, 3) := by decide +kernel
theorem dX8_isSet_90 : decode cX8_isSet 90 = .ok (.aload_n 0, 1) := by decide +kernel
theorem dX8_isSet_91 : decode cX8_isSet 91 = .ok (.iconst 2, 1) := by decide +kernel
theorem dX8_isSet_92 : decode cX8_isSet 92 = .ok (.putfield 3, 3) := by decide +kernel
theorem dX8_isSet_95 : decode cX8_isSet 95 = .ok (.aload_n 0, 1) := by decide +kernel
theorem dX8_isSet_96 : decode cX8_isSet 96 = .ok (.getfield 3, 3) := by decide +kernel
theorem dX8_isSet_99 : decode cX8_isSet 99 = .ok (.ifCond .eq 5, 3) := by decide +kernel
theorem dX8_isSet_102 : decode cX8_isSet 102 = .ok (.iconst 0, 1) := by decide +kernel
theorem dX8_isSet_103 : decode cX8_isSet 103 = .ok (.ireturn, 1) := by decide +kernel
theorem dX8_isSet_104 : decode cX8_isSet 104 = .ok (.aload_n 0, 1) := by decide +kernel
theorem dX8_isSet_105 : decode cX8_isSet 105 = .ok (.iconst 0, 1) := by decide +kernel
theorem dX8_isSet_106 : decode cX8_isSet 106 = .ok (.putfield 60, 3) := by decide +kernel
theorem dX8_isSet_109 : decode cX8_isSet 109 = .ok (.iconst 0, 1) := by decide +kernel
theorem dX8_isSet_110 : decode cX8_isSet 110 = .ok (.istore 4, 2) := by decide +kernel
theorem dX8_isSet_112 : decode cX8_isSet 112 = .ok (.iload 4, 2) := by decide +kernel
theorem dX8_isSet_114 : decode cX8_isSet 114 = .ok (.bipush 40, 2) := by decide +kernel
theorem dX8_isSet_116 : decode cX8_isSet 116 = .ok (.if_icmp .ge 44, 3) := by decide +kernel
theorem dX8_isSet_119 : decode cX8_isSet 119 = .ok (.lload_n 1, 1) := by decide +kernel
theorem dX8_isSet_120 : decode cX8_isSet 120 = .ok (.iload 4, 2) := by decide +kernel
theorem dX8_isSet_122 : decode cX8_isSet 122 = .ok (.lushr, 1) := by decide +kernel
theorem dX8_isSet_123 : decode cX8_isSet 123 = .ok (.lconst 1, 1) := by decide +kernel
theorem dX8_isSet_124 : decode cX8_isSet 124 = .ok (.land, 1) := by decide +kernel
theorem dX8_isSet_125 : decode cX8_isSet 125 = .ok (.lconst 0, 1) := by decide +kernel
theorem dX8_isSet_126 : decode cX8_isSet 126 = .ok (.lcmp, 1) := by decide +kernel
theorem dX8_isSet_127 : decode cX8_isSet 127 = .ok (.ifCond .ne 6, 3) := by decide +kernel
theorem dX8_isSet_130 : decode cX8_isSet 130 = .ok (.goto 24, 3) := by decide +kernel
theorem dX8_isSet_133 : decode cX8_isSet 133 = .ok (.aload_n 0, 1) := by decide +kernel
theorem dX8_isSet_134 : decode cX8_isSet 134 = .ok (.getfield 51, 3) := by decide +kernel
theorem dX8_isSet_137 : decode cX8_isSet 137 = .ok (.aload_n 0, 1) := by decide +kernel
theorem dX8_isSet_138 : decode cX8_isSet 138 = .ok (.getfield 60, 3) := by decide +kernel
theorem dX8_isSet_141 : decode cX8_isSet 141 = .ok (.iload 4, 2) := by decide +kernel
theorem dX8_isSet_143 : decode cX8_isSet 143 = .ok (.iastore, 1) := by decide +kernel
theorem dX8_isSet_144 : decode cX8_isSet 144 = .ok (.aload_n 0, 1) := by decide +kernel
theorem dX8_isSet_145 : decode cX8_isSet 145 = .ok (.dup, 1) := by decide +kernel
theorem dX8_isSet_146 : decode cX8_isSet 146 = .ok (.getfield 60, 3) := by decide +kernel
theorem dX8_isSet_149 : decode cX8_isSet 149 = .ok (.iconst 1, 1) := by decide +kernel
theorem dX8_isSet_150 : decode cX8_isSet 150 = .ok (.iadd, 1) := by decide +kernel
theorem dX8_isSet_151 : decode cX8_isSet 151 = .ok (.putfield 60, 3) := by decide +kernel
theorem dX8_isSet_154 : decode cX8_isSet 154 = .ok (.iinc 4 1, 3) := by decide +kernel
theorem dX8_isSet_157 : decode cX8_isSet 157 = .ok (.goto (-45), 3) := by decide +kernel
theorem dX8_isSet_160 : decode cX8_isSet 160 = .ok (.iconst 1, 1) := by decide +kernel
theorem dX8_isSet_161 : decode cX8_isSet 161 = .ok (.ireturn, 1) := by decide +kernel
theorem dX8_goes_0 : decode cX8_goes 0 = .ok (.aload_n 0, 1) := by decide +kernel
theorem dX8_goes_1 : decode cX8_goes 1 = .ok (.iconst 0, 1) := by decide +kernel
theorem dX8_goes_2 : decode cX8_goes 2 = .ok (.putfield 69, 3) := by decide +kernel
theorem dX8_goes_5 : decode cX8_goes 5 = .ok (.aload_n 0, 1) := by decide +kernel
theorem dX8_goes_6 : decode cX8_goes 6 = .ok (.iconst 0, 1) := by decide +kernel
theorem dX8_goes_7 : decode cX8_goes 7 = .ok (.putfield 72, 3) := by decide +kernel
theorem dX8_goes_10 : decode cX8_goes 10 = .ok (.iconst 0, 1) := by decide +kernel
theorem dX8_goes_11 : decode cX8_goes 11 = .ok (.istore_n 1, 1) := by decide +kernel
theorem dX8_goes_12 : decode cX8_goes 12 = .ok (.iload_n 1, 1) := by decide +kernel
theorem dX8_goes_13 : decode cX8_goes 13 = .ok (.aload_n 0, 1) := by decide +kernel
theorem dX8_goes_14 : decode cX8_goes 14 = .ok (.getfield 60, 3) := by decide +kernel
theorem dX8_goes_17 : decode cX8_goes 17 = .ok (.if_icmp .ge 88, 3) := by decide +kernel
theorem dX8_goes_20 : decode cX8_goes 20 = .ok (.aload_n 0, 1) := by decide +kernel
theorem dX8_goes_21 : decode cX8_goes 21 = .ok (.aload_n 0, 1) := by decide +kernel
theorem dX8_goes_22 : decode cX8_goes 22 = .ok (.getfield 54, 3) := by decide +kernel
theorem dX8_goes_25 : decode cX8_goes 25 = .ok (.iload_n 1, 1) := by decide +kernel
theorem dX8_goes_26 : decode cX8_goes 26 = .ok (.iaload, 1) := by decide +kernel
theorem dX8_goes_27 : decode cX8_goes 27 = .ok (.invokevirtual 210, 3) := by decide +kernel
theorem dX8_goes_30 : decode cX8_goes 30 = .ok (.istore_n 2, 1) := by decide +kernel
theorem dX8_goes_31 : decode cX8_goes 31 = .ok (.iload_n 2, 1) := by decide +kernel
theorem dX8_goes_32 : decode cX8_goes 32 = .ok (.ifCond .ge 5, 3) := by decide +kernel
theorem dX8_goes_35 : decode cX8_goes 35 = .ok (.iconst 0, 1) := by decide +kernel
theorem dX8_goes_36 : decode cX8_goes 36 = .ok (.ireturn, 1) := by decide +kernel
theorem dX8_goes_37 : decode cX8_goes 37 = .ok (.aload_n 0, 1) := by decide +kernel
theorem dX8_goes_38 : decode cX8_goes 38 = .ok (.dup, 1) := by decide +kernel
theorem dX8_goes_39 : decode cX8_goes 39 = .ok (.getfield 69, 3) := by decide +kernel
theorem dX8_goes_42 : decode cX8_goes 42 = .ok (.iload_n 2, 1) := by decide +kernel
theorem dX8_goes_43 : decode cX8_goes 43 = .ok (.iadd, 1) := by decide +kernel
theorem dX8_goes_44 : decode cX8_goes 44 = .ok (.putfield 69, 3) := by decide +kernel
theorem dX8_goes_47 : decode cX8_goes 47 = .ok (.aload_n 0, 1) := by decide +kernel
theorem dX8_goes_48 : decode cX8_goes 48 = .ok (.getfield 13, 3) := by decide +kernel
theorem dX8_goes_51 : decode cX8_goes 51 = .ok (.bipush 6, 2) := by decide +kernel
theorem dX8_goes_53 : decode cX8_goes 53 = .ok (.iaload, 1) := by decide +kernel
theorem dX8_goes_54 : decode cX8_goes 54 = .ok (.iload_n 2, 1) := by decide +kernel
theorem dX8_goes_55 : decode cX8_goes 55 = .ok (.isub, 1) := by decide +kernel
theorem dX8_goes_56 : decode cX8_goes 56 = .ok (.istore_n 3, 1) := by decide +kernel
theorem dX8_goes_57 : decode cX8_goes 57 = .ok (.iload_n 3, 1) := by decide +kernel
theorem dX8_goes_58 : decode cX8_goes 58 = .ok (.aload_n 0, 1) := by decide +kernel
theorem dX8_goes_59 : decode cX8_goes 59 = .ok (.getfield 13, 3) := by decide +kernel
theorem dX8_goes_62 : decode cX8_goes 62 = .ok (.bipush 6, 2) := by decide +kernel
theorem dX8_goes_64 : decode cX8_goes 64 = .ok (.iaload, 1) := by decide +kernel
theorem dX8_goes_65 : decode cX8_goes 65 = .ok (.if_icmp .ge 34, 3) := by decide +kernel
theorem dX8_goes_68 : decode cX8_goes 68 = .ok (.aload_n 0, 1) := by decide +kernel
theorem dX8_goes_69 : decode cX8_goes 69 = .ok (.aload_n 0, 1) := by decide +kernel
theorem dX8_goes_70 : decode cX8_goes 70 = .ok (.getfield 72, 3) := by decide +kernel
theorem dX8_goes_73 : decode cX8_goes 73 = .ok (.aload_n 0, 1) := by decide +kernel
theorem dX8_goes_74 : decode cX8_goes 74 = .ok (.getfield 13, 3) := by decide +kernel
theorem dX8_goes_77 : decode cX8_goes 77 = .ok (.sipush 299, 3) := by decide +kernel
theorem dX8_goes_80 : decode cX8_goes 80 = .ok (.iconst 5, 1) := by decide +kernel
theorem dX8_goes_81 : decode cX8_goes 81 = .ok (.iload_n 3, 1) := by decide +kernel
theorem dX8_goes_82 : decode cX8_goes 82 = .ok (.imul, 1) := by decide +kernel
theorem dX8_goes_83 : decode cX8_goes 83 = .ok (.iadd, 1) := by decide +kernel
theorem dX8_goes_84 : decode cX8_goes 84 = .ok (.iconst 4, 1) := by decide +kernel
theorem dX8_goes_85 : decode cX8_goes 85 = .ok (.iadd, 1) := by decide +kernel
theorem dX8_goes_86 : decode cX8_goes 86 = .ok (.iaload, 1) := by decide +kernel
theorem dX8_goes_87 : decode cX8_goes 87 = .ok (.invokestatic 143, 3) := by decide +kernel
theorem dX8_goes_90 : decode cX8_goes 90 = .ok (.putfield 72, 3) := by decide +kernel
theorem dX8_goes_93 : decode cX8_goes 93 = .ok (.iinc 3 1, 3) := by decide +kernel
theorem dX8_goes_96 : decode cX8_goes 96 = .ok (.goto (-39), 3) := by decide +kernel
theorem dX8_goes_99 : decode cX8_goes 99 = .ok (.iinc 1 1, 3) := by decide +kernel
theorem dX8_goes_102 : decode cX8_goes 102 = .ok (.goto (-90), 3) := by decide +kernel
theorem dX8_goes_105 : decode cX8_goes 105 = .ok (.iconst 1, 1) := by decide +kernel
theorem dX8_goes_106 : decode cX8_goes 106 = .ok (.ireturn, 1) := by decide +kernel
theorem dX8_tries_0 : decode cX8_tries 0 = .ok (.iconst 0, 1) := by decide +kernel
theorem dX8_tries_1 : decode cX8_tries 1 = .ok (.istore_n 2, 1) := by decide +kernel
theorem dX8_tries_2 : decode cX8_tries 2 = .ok (.iload_n 2, 1) := by decide +kernel
theorem dX8_tries_3 : decode cX8_tries 3 = .ok (.aload_n 0, 1) := by decide +kernel
theorem dX8_tries_4 : decode cX8_tries 4 = .ok (.getfield 60, 3) := by decide +kernel
theorem dX8_tries_7 : decode cX8_tries 7 = .ok (.if_icmp .ge 93, 3) := by decide +kernel
theorem dX8_tries_10 : decode cX8_tries 10 = .ok (.iconst 1, 1) := by decide +kernel
theorem dX8_tries_11 : decode cX8_tries 11 = .ok (.istore_n 3, 1) := by decide +kernel
theorem dX8_tries_12 : decode cX8_tries 12 = .ok (.iconst 0, 1) := by decide +kernel
theorem dX8_tries_13 : decode cX8_tries 13 = .ok (.istore 4, 2) := by decide +kernel
theorem dX8_tries_15 : decode cX8_tries 15 = .ok (.iload 4, 2) := by decide +kernel
theorem dX8_tries_17 : decode cX8_tries 17 = .ok (.iload_n 1, 1) := by decide +kernel
theorem dX8_tries_18 : decode cX8_tries 18 = .ok (.if_icmp .ge 33, 3) := by decide +kernel
theorem dX8_tries_21 : decode cX8_tries 21 = .ok (.iload_n 3, 1) := by decide +kernel
theorem dX8_tries_22 : decode cX8_tries 22 = .ok (.aload_n 0, 1) := by decide +kernel
theorem dX8_tries_23 : decode cX8_tries 23 = .ok (.getfield 54, 3) := by decide +kernel
theorem dX8_tries_26 : decode cX8_tries 26 = .ok (.iload 4, 2) := by decide +kernel
theorem dX8_tries_28 : decode cX8_tries 28 = .ok (.iaload, 1) := by decide +kernel
theorem dX8_tries_29 : decode cX8_tries 29 = .ok (.aload_n 0, 1) := by decide +kernel
theorem dX8_tries_30 : decode cX8_tries 30 = .ok (.getfield 51, 3) := by decide +kernel
theorem dX8_tries_33 : decode cX8_tries 33 = .ok (.iload_n 2, 1) := by decide +kernel
theorem dX8_tries_34 : decode cX8_tries 34 = .ok (.iaload, 1) := by decide +kernel
theorem dX8_tries_35 : decode cX8_tries 35 = .ok (.if_icmp .eq 7, 3) := by decide +kernel
theorem dX8_tries_38 : decode cX8_tries 38 = .ok (.iconst 1, 1) := by decide +kernel
theorem dX8_tries_39 : decode cX8_tries 39 = .ok (.goto 4, 3) := by decide +kernel
theorem dX8_tries_42 : decode cX8_tries 42 = .ok (.iconst 0, 1) := by decide +kernel
theorem dX8_tries_43 : decode cX8_tries 43 = .ok (.iand, 1) := by decide +kernel
theorem dX8_tries_44 : decode cX8_tries 44 = .ok (.istore_n 3, 1) := by decide +kernel
theorem dX8_tries_45 : decode cX8_tries 45 = .ok (.iinc 4 1, 3) := by decide +kernel
theorem dX8_tries_48 : decode cX8_tries 48 = .ok (.goto (-33), 3) := by decide +kernel
theorem dX8_tries_51 : decode cX8_tries 51 = .ok (.iload_n 3, 1) := by decide +kernel
theorem dX8_tries_52 : decode cX8_tries 52 = .ok (.ifCond .ne 6, 3) := by decide +kernel
theorem dX8_tries_55 : decode cX8_tries 55 = .ok (.goto 39, 3) := by decide +kernel
theorem dX8_tries_58 : decode cX8_tries 58 = .ok (.aload_n 0, 1) := by decide +kernel
theorem dX8_tries_59 : decode cX8_tries 59 = .ok (.getfield 54, 3) := by decide +kernel
theorem dX8_tries_62 : decode cX8_tries 62 = .ok (.iload_n 1, 1) := by decide +kernel
theorem dX8_tries_63 : decode cX8_tries 63 = .ok (.aload_n 0, 1) := by decide +kernel
theorem dX8_tries_64 : decode cX8_tries 64 = .ok (.getfield 51, 3) := by decide +kernel
theorem dX8_tries_67 : decode cX8_tries 67 = .ok (.iload_n 2, 1) := by decide +kernel
theorem dX8_tries_68 : decode cX8_tries 68 = .ok (.iaload, 1) := by decide +kernel
theorem dX8_tries_69 : decode cX8_tries 69 = .ok (.iastore, 1) := by decide +kernel
theorem dX8_tries_70 : decode cX8_tries 70 = .ok (.iload_n 1, 1) := by decide +kernel
theorem dX8_tries_71 : decode cX8_tries 71 = .ok (.iconst 1, 1) := by decide +kernel
theorem dX8_tries_72 : decode cX8_tries 72 = .ok (.iadd, 1) := by decide +kernel
theorem dX8_tries_73 : decode cX8_tries 73 = .ok (.aload_n 0, 1) := by decide +kernel
theorem dX8_tries_74 : decode cX8_tries 74 = .ok (.getfield 60, 3) := by decide +kernel
theorem dX8_tries_77 : decode cX8_tries 77 = .ok (.if_icmp .ge 13, 3) := by decide +kernel
theorem dX8_tries_80 : decode cX8_tries 80 = .ok (.aload_n 0, 1) := by decide +kernel
theorem dX8_tries_81 : decode cX8_tries 81 = .ok (.iload_n 1, 1) := by decide +kernel
theorem dX8_tries_82 : decode cX8_tries 82 = .ok (.iconst 1, 1) := by decide +kernel
theorem dX8_tries_83 : decode cX8_tries 83 = .ok (.iadd, 1) := by decide +kernel
theorem dX8_tries_84 : decode cX8_tries 84 = .ok (.invokevirtual 241, 3) := by decide +kernel
theorem dX8_tries_87 : decode cX8_tries 87 = .ok (.goto 7, 3) := by decide +kernel
theorem dX8_tries_90 : decode cX8_tries 90 = .ok (.aload_n 0, 1) := by decide +kernel
theorem dX8_tries_91 : decode cX8_tries 91 = .ok (.invokevirtual 244, 3) := by decide +kernel
theorem dX8_tries_94 : decode cX8_tries 94 = .ok (.iinc 2 1, 3) := by decide +kernel
theorem dX8_tries_97 : decode cX8_tries 97 = .ok (.goto (-95), 3) := by decide +kernel
theorem dX8_tries_100 : decode cX8_tries 100 = .ok (.return_, 1) := by decide +kernel
theorem dX8_triesRow_0 : decode cX8_triesRow 0 = .ok (.aload_n 0, 1) := by decide +kernel
theorem dX8_triesRow_1 : decode cX8_triesRow 1 = .ok (.getfield 13, 3) := by decide +kernel
theorem dX8_triesRow_4 : decode cX8_triesRow 4 = .ok (.iconst 0, 1) := by decide +kernel
theorem dX8_triesRow_5 : decode cX8_triesRow 5 = .ok (.aload_n 0, 1) := by decide +kernel
theorem dX8_triesRow_6 : decode cX8_triesRow 6 = .ok (.getfield 20, 3) := by decide +kernel
theorem dX8_triesRow_9 : decode cX8_triesRow 9 = .ok (.iconst 0, 1) := by decide +kernel
theorem dX8_triesRow_10 : decode cX8_triesRow 10 = .ok (.invokestatic 93, 3) := by decide +kernel
theorem dX8_triesRow_13 : decode cX8_triesRow 13 = .ok (.aload_n 0, 1) := by decide +kernel
theorem dX8_triesRow_14 : decode cX8_triesRow 14 = .ok (.invokevirtual 247, 3) := by decide +kernel
theorem dX8_triesRow_17 : decode cX8_triesRow 17 = .ok (.istore_n 1, 1) := by decide +kernel
theorem dX8_triesRow_18 : decode cX8_triesRow 18 = .ok (.aload_n 0, 1) := by decide +kernel
theorem dX8_triesRow_19 : decode cX8_triesRow 19 = .ok (.getfield 20, 3) := by decide +kernel
theorem dX8_triesRow_22 : decode cX8_triesRow 22 = .ok (.iconst 0, 1) := by decide +kernel
theorem dX8_triesRow_23 : decode cX8_triesRow 23 = .ok (.aload_n 0, 1) := by decide +kernel
theorem dX8_triesRow_24 : decode cX8_triesRow 24 = .ok (.getfield 13, 3) := by decide +kernel
theorem dX8_triesRow_27 : decode cX8_triesRow 27 = .ok (.iconst 0, 1) := by decide +kernel
theorem dX8_triesRow_28 : decode cX8_triesRow 28 = .ok (.invokestatic 93, 3) := by decide +kernel
theorem dX8_triesRow_31 : decode cX8_triesRow 31 = .ok (.iload_n 1, 1) := by decide +kernel
theorem dX8_triesRow_32 : decode cX8_triesRow 32 = .ok (.ifCond .eq 43, 3) := by decide +kernel
theorem dX8_triesRow_35 : decode cX8_triesRow 35 = .ok (.aload_n 0, 1) := by decide +kernel
theorem dX8_triesRow_36 : decode cX8_triesRow 36 = .ok (.getfield 63, 3) := by decide +kernel
theorem dX8_triesRow_39 : decode cX8_triesRow 39 = .ok (.ifCond .le 37, 3) := by decide +kernel
theorem dX8_triesRow_42 : decode cX8_triesRow 42 = .ok (.aload_n 0, 1) := by decide +kernel
theorem dX8_triesRow_43 : decode cX8_triesRow 43 = .ok (.getfield 69, 3) := by decide +kernel
theorem dX8_triesRow_46 : decode cX8_triesRow 46 = .ok (.aload_n 0, 1) := by decide +kernel
theorem dX8_triesRow_47 : decode cX8_triesRow 47 = .ok (.getfield 63, 3) := by decide +kernel
theorem dX8_triesRow_50 : decode cX8_triesRow 50 = .ok (.if_icmp .gt 25, 3) := by decide +kernel
theorem dX8_triesRow_53 : decode cX8_triesRow 53 = .ok (.aload_n 0, 1) := by decide +kernel
theorem dX8_triesRow_54 : decode cX8_triesRow 54 = .ok (.getfield 69, 3) := by decide +kernel
theorem dX8_triesRow_57 : decode cX8_triesRow 57 = .ok (.aload_n 0, 1) := by decide +kernel
theorem dX8_triesRow_58 : decode cX8_triesRow 58 = .ok (.getfield 63, 3) := by decide +kernel
theorem dX8_triesRow_61 : decode cX8_triesRow 61 = .ok (.if_icmp .ne 15, 3) := by decide +kernel
theorem dX8_triesRow_64 : decode cX8_triesRow 64 = .ok (.aload_n 0, 1) := by decide +kernel
theorem dX8_triesRow_65 : decode cX8_triesRow 65 = .ok (.getfield 72, 3) := by decide +kernel
theorem dX8_triesRow_68 : decode cX8_triesRow 68 = .ok (.aload_n 0, 1) := by decide +kernel
theorem dX8_triesRow_69 : decode cX8_triesRow 69 = .ok (.getfield 66, 3) := by decide +kernel
theorem dX8_triesRow_72 : decode cX8_triesRow 72 = .ok (.if_icmp .lt 4, 3) := by decide +kernel
theorem dX8_triesRow_75 : decode cX8_triesRow 75 = .ok (.return_, 1) := by decide +kernel
theorem dX8_triesRow_76 : decode cX8_triesRow 76 = .ok (.aload_n 0, 1) := by decide +kernel
theorem dX8_triesRow_77 : decode cX8_triesRow 77 = .ok (.aload_n 0, 1) := by decide +kernel
theorem dX8_triesRow_78 : decode cX8_triesRow 78 = .ok (.getfield 69, 3) := by decide +kernel
theorem dX8_triesRow_81 : decode cX8_triesRow 81 = .ok (.putfield 63, 3) := by decide +kernel
theorem dX8_triesRow_84 : decode cX8_triesRow 84 = .ok (.aload_n 0, 1) := by decide +kernel
theorem dX8_triesRow_85 : decode cX8_triesRow 85 = .ok (.aload_n 0, 1) := by decide +kernel
theorem dX8_triesRow_86 : decode cX8_triesRow 86 = .ok (.getfield 72, 3) := by decide +kernel
theorem dX8_triesRow_89 : decode cX8_triesRow 89 = .ok (.putfield 66, 3) := by decide +kernel
theorem dX8_triesRow_92 : decode cX8_triesRow 92 = .ok (.iconst 0, 1) := by decide +kernel
theorem dX8_triesRow_93 : decode cX8_triesRow 93 = .ok (.istore_n 2, 1) := by decide +kernel
theorem dX8_triesRow_94 : decode cX8_triesRow 94 = .ok (.iload_n 2, 1) := by decide +kernel
theorem dX8_triesRow_95 : decode cX8_triesRow 95 = .ok (.aload_n 0, 1) := by decide +kernel
theorem dX8_triesRow_96 : decode cX8_triesRow 96 = .ok (.getfield 60, 3) := by decide +kernel
theorem dX8_triesRow_99 : decode cX8_triesRow 99 = .ok (.if_icmp .ge 21, 3) := by decide +kernel
theorem dX8_triesRow_102 : decode cX8_triesRow 102 = .ok (.aload_n 0, 1) := by decide +kernel
theorem dX8_triesRow_103 : decode cX8_triesRow 103 = .ok (.getfield 57, 3) := by decide +kernel
theorem dX8_triesRow_106 : decode cX8_triesRow 106 = .ok (.iload_n 2, 1) := by decide +kernel
theorem dX8_triesRow_107 : decode cX8_triesRow 107 = .ok (.aload_n 0, 1) := by decide +kernel
theorem dX8_triesRow_108 : decode cX8_triesRow 108 = .ok (.getfield 54, 3) := by decide +kernel
theorem dX8_triesRow_111 : decode cX8_triesRow 111 = .ok (.iload_n 2, 1) := by decide +kernel
theorem dX8_triesRow_112 : decode cX8_triesRow 112 = .ok (.iaload, 1) := by decide +kernel
theorem dX8_triesRow_113 : decode cX8_triesRow 113 = .ok (.iastore, 1) := by decide +kernel
theorem dX8_triesRow_114 : decode cX8_triesRow 114 = .ok (.iinc 2 1, 3) := by decide +kernel
theorem dX8_triesRow_117 : decode cX8_triesRow 117 = .ok (.goto (-23), 3) := by decide +kernel
theorem dX8_triesRow_120 : decode cX8_triesRow 120 = .ok (.return_, 1) := by decide +kernel
theorem dX8_isFound_0 : decode cX8_isFound 0 = .ok (.aload_n 0, 1) := by decide +kernel
theorem dX8_isFound_1 : decode cX8_isFound 1 = .ok (.iconst 0, 1) := by decide +kernel
theorem dX8_isFound_2 : decode cX8_isFound 2 = .ok (.putfield 63, 3) := by decide +kernel
theorem dX8_isFound_5 : decode cX8_isFound 5 = .ok (.aload_n 0, 1) := by decide +kernel
theorem dX8_isFound_6 : decode cX8_isFound 6 = .ok (.iconst 0, 1) := by decide +kernel
theorem dX8_isFound_7 : decode cX8_isFound 7 = .ok (.invokevirtual 241, 3) := by decide +kernel
theorem dX8_isFound_10 : decode cX8_isFound 10 = .ok (.aload_n 0, 1) := by decide +kernel
theorem dX8_isFound_11 : decode cX8_isFound 11 = .ok (.getfield 63, 3) := by decide +kernel
theorem dX8_isFound_14 : decode cX8_isFound 14 = .ok (.ifCond .le 7, 3) := by decide +kernel
theorem dX8_isFound_17 : decode cX8_isFound 17 = .ok (.iconst 1, 1) := by decide +kernel
theorem dX8_isFound_18 : decode cX8_isFound 18 = .ok (.goto 4, 3) := by decide +kernel
theorem dX8_isFound_21 : decode cX8_isFound 21 = .ok (.iconst 0, 1) := by decide +kernel
theorem dX8_isFound_22 : decode cX8_isFound 22 = .ok (.ireturn, 1) := by decide +kernel
theorem dX8_bestMoves_0 : decode cX8_bestMoves 0 = .ok (.aload_n 0, 1) := by decide +kernel
theorem dX8_bestMoves_1 : decode cX8_bestMoves 1 = .ok (.lload_n 1, 1) := by decide +kernel
theorem dX8_bestMoves_2 : decode cX8_bestMoves 2 = .ok (.invokevirtual 251, 3) := by decide +kernel
theorem dX8_bestMoves_5 : decode cX8_bestMoves 5 = .ok (.ifCond .ne 5, 3) := by decide +kernel
theorem dX8_bestMoves_8 : decode cX8_bestMoves 8 = .ok (.iconst 0, 1) := by decide +kernel
theorem dX8_bestMoves_9 : decode cX8_bestMoves 9 = .ok (.ireturn, 1) := by decide +kernel
theorem dX8_bestMoves_10 : decode cX8_bestMoves 10 = .ok (.aload_n 0, 1) := by decide +kernel
theorem dX8_bestMoves_11 : decode cX8_bestMoves 11 = .ok (.invokevirtual 255, 3) := by decide +kernel
theorem dX8_bestMoves_14 : decode cX8_bestMoves 14 = .ok (.ifCond .eq 10, 3) := by decide +kernel
theorem dX8_bestMoves_17 : decode cX8_bestMoves 17 = .ok (.aload_n 0, 1) := by decide +kernel
theorem dX8_bestMoves_18 : decode cX8_bestMoves 18 = .ok (.getfield 63, 3) := by decide +kernel
theorem dX8_bestMoves_21 : decode cX8_bestMoves 21 = .ok (.goto 8, 3) := by decide +kernel
theorem dX8_bestMoves_24 : decode cX8_bestMoves 24 = .ok (.aload_n 0, 1) := by decide +kernel
theorem dX8_bestMoves_25 : decode cX8_bestMoves 25 = .ok (.iconst 3, 1) := by decide +kernel
theorem dX8_bestMoves_26 : decode cX8_bestMoves 26 = .ok (.invokevirtual 177, 3) := by decide +kernel
theorem dX8_bestMoves_29 : decode cX8_bestMoves 29 = .ok (.ireturn, 1) := by decide +kernel
theorem dX8_bestEnd_0 : decode cX8_bestEnd 0 = .ok (.aload_n 0, 1) := by decide +kernel
theorem dX8_bestEnd_1 : decode cX8_bestEnd 1 = .ok (.lload_n 1, 1) := by decide +kernel
theorem dX8_bestEnd_2 : decode cX8_bestEnd 2 = .ok (.invokevirtual 251, 3) := by decide +kernel
theorem dX8_bestEnd_5 : decode cX8_bestEnd 5 = .ok (.ifCond .ne 5, 3) := by decide +kernel
theorem dX8_bestEnd_8 : decode cX8_bestEnd 8 = .ok (.iconst 0, 1) := by decide +kernel
theorem dX8_bestEnd_9 : decode cX8_bestEnd 9 = .ok (.ireturn, 1) := by decide +kernel
theorem dX8_bestEnd_10 : decode cX8_bestEnd 10 = .ok (.aload_n 0, 1) := by decide +kernel
theorem dX8_bestEnd_11 : decode cX8_bestEnd 11 = .ok (.invokevirtual 255, 3) := by decide +kernel
theorem dX8_bestEnd_14 : decode cX8_bestEnd 14 = .ok (.ifCond .eq 10, 3) := by decide +kernel
theorem dX8_bestEnd_17 : decode cX8_bestEnd 17 = .ok (.aload_n 0, 1) := by decide +kernel
theorem dX8_bestEnd_18 : decode cX8_bestEnd 18 = .ok (.getfield 66, 3) := by decide +kernel
theorem dX8_bestEnd_21 : decode cX8_bestEnd 21 = .ok (.goto 8, 3) := by decide +kernel
theorem dX8_bestEnd_24 : decode cX8_bestEnd 24 = .ok (.aload_n 0, 1) := by decide +kernel
theorem dX8_bestEnd_25 : decode cX8_bestEnd 25 = .ok (.iconst 3, 1) := by decide +kernel
theorem dX8_bestEnd_26 : decode cX8_bestEnd 26 = .ok (.invokevirtual 177, 3) := by decide +kernel
theorem dX8_bestEnd_29 : decode cX8_bestEnd 29 = .ok (.ireturn, 1) := by decide +kernel
theorem dX8_bestCar_0 : decode cX8_bestCar 0 = .ok (.aload_n 0, 1) := by decide +kernel
theorem dX8_bestCar_1 : decode cX8_bestCar 1 = .ok (.lload_n 1, 1) := by decide +kernel
theorem dX8_bestCar_2 : decode cX8_bestCar 2 = .ok (.invokevirtual 251, 3) := by decide +kernel
theorem dX8_bestCar_5 : decode cX8_bestCar 5 = .ok (.ifCond .ne 5, 3) := by decide +kernel
theorem dX8_bestCar_8 : decode cX8_bestCar 8 = .ok (.iconst 0, 1) := by decide +kernel
theorem dX8_bestCar_9 : decode cX8_bestCar 9 = .ok (.ireturn, 1) := by decide +kernel
theorem dX8_bestCar_10 : decode cX8_bestCar 10 = .ok (.iload_n 3, 1) := by decide +kernel
theorem dX8_bestCar_11 : decode cX8_bestCar 11 = .ok (.iconst 0, 1) := by decide +kernel
theorem dX8_bestCar_12 : decode cX8_bestCar 12 = .ok (.aload_n 0, 1) := by decide +kernel
theorem dX8_bestCar_13 : decode cX8_bestCar 13 = .ok (.getfield 60, 3) := by decide +kernel
theorem dX8_bestCar_16 : decode cX8_bestCar 16 = .ok (.iconst 1, 1) := by decide +kernel
theorem dX8_bestCar_17 : decode cX8_bestCar 17 = .ok (.isub, 1) := by decide +kernel
theorem dX8_bestCar_18 : decode cX8_bestCar 18 = .ok (.invokestatic 112, 3) := by decide +kernel
theorem dX8_bestCar_21 : decode cX8_bestCar 21 = .ok (.ifCond .ne 9, 3) := by decide +kernel
theorem dX8_bestCar_24 : decode cX8_bestCar 24 = .ok (.aload_n 0, 1) := by decide +kernel
theorem dX8_bestCar_25 : decode cX8_bestCar 25 = .ok (.iconst 2, 1) := by decide +kernel
theorem dX8_bestCar_26 : decode cX8_bestCar 26 = .ok (.invokevirtual 177, 3) := by decide +kernel
theorem dX8_bestCar_29 : decode cX8_bestCar 29 = .ok (.ireturn, 1) := by decide +kernel
theorem dX8_bestCar_30 : decode cX8_bestCar 30 = .ok (.aload_n 0, 1) := by decide +kernel
theorem dX8_bestCar_31 : decode cX8_bestCar 31 = .ok (.invokevirtual 255, 3) := by decide +kernel
theorem dX8_bestCar_34 : decode cX8_bestCar 34 = .ok (.ifCond .eq 12, 3) := by decide +kernel
theorem dX8_bestCar_37 : decode cX8_bestCar 37 = .ok (.aload_n 0, 1) := by decide +kernel
theorem dX8_bestCar_38 : decode cX8_bestCar 38 = .ok (.getfield 57, 3) := by decide +kernel
theorem dX8_bestCar_41 : decode cX8_bestCar 41 = .ok (.iload_n 3, 1) := by decide +kernel
theorem dX8_bestCar_42 : decode cX8_bestCar 42 = .ok (.iaload, 1) := by decide +kernel
theorem dX8_bestCar_43 : decode cX8_bestCar 43 = .ok (.goto 8, 3) := by decide +kernel
theorem dX8_bestCar_46 : decode cX8_bestCar 46 = .ok (.aload_n 0, 1) := by decide +kernel
theorem dX8_bestCar_47 : decode cX8_bestCar 47 = .ok (.iconst 3, 1) := by decide +kernel
theorem dX8_bestCar_48 : decode cX8_bestCar 48 = .ok (.invokevirtual 177, 3) := by decide +kernel
theorem dX8_bestCar_51 : decode cX8_bestCar 51 = .ok (.ireturn, 1) := by decide +kernel
theorem dX8_plainMoves_0 : decode cX8_plainMoves 0 = .ok (.aload_n 0, 1) := by decide +kernel
theorem dX8_plainMoves_1 : decode cX8_plainMoves 1 = .ok (.lload_n 1, 1) := by decide +kernel
theorem dX8_plainMoves_2 : decode cX8_plainMoves 2 = .ok (.invokevirtual 251, 3) := by decide +kernel
theorem dX8_plainMoves_5 : decode cX8_plainMoves 5 = .ok (.ifCond .ne 5, 3) := by decide +kernel
theorem dX8_plainMoves_8 : decode cX8_plainMoves 8 = .ok (.iconst 0, 1) := by decide +kernel
theorem dX8_plainMoves_9 : decode cX8_plainMoves 9 = .ok (.ireturn, 1) := by decide +kernel
theorem dX8_plainMoves_10 : decode cX8_plainMoves 10 = .ok (.iconst 0, 1) := by decide +kernel
theorem dX8_plainMoves_11 : decode cX8_plainMoves 11 = .ok (.istore_n 3, 1) := by decide +kernel
theorem dX8_plainMoves_12 : decode cX8_plainMoves 12 = .ok (.iload_n 3, 1) := by decide +kernel
theorem dX8_plainMoves_13 : decode cX8_plainMoves 13 = .ok (.aload_n 0, 1) := by decide +kernel
theorem dX8_plainMoves_14 : decode cX8_plainMoves 14 = .ok (.getfield 60, 3) := by decide +kernel
theorem dX8_plainMoves_17 : decode cX8_plainMoves 17 = .ok (.if_icmp .ge 78, 3) := by decide +kernel
theorem dX8_plainMoves_20 : decode cX8_plainMoves 20 = .ok (.iload_n 3, 1) := by decide +kernel
theorem dX8_plainMoves_21 : decode cX8_plainMoves 21 = .ok (.istore 4, 2) := by decide +kernel
theorem dX8_plainMoves_23 : decode cX8_plainMoves 23 = .ok (.iload 4, 2) := by decide +kernel
theorem dX8_plainMoves_25 : decode cX8_plainMoves 25 = .ok (.ifCond .le 51, 3) := by decide +kernel
theorem dX8_plainMoves_28 : decode cX8_plainMoves 28 = .ok (.aload_n 0, 1) := by decide +kernel
theorem dX8_plainMoves_29 : decode cX8_plainMoves 29 = .ok (.aload_n 0, 1) := by decide +kernel
theorem dX8_plainMoves_30 : decode cX8_plainMoves 30 = .ok (.getfield 51, 3) := by decide +kernel
theorem dX8_plainMoves_33 : decode cX8_plainMoves 33 = .ok (.iload_n 3, 1) := by decide +kernel
theorem dX8_plainMoves_34 : decode cX8_plainMoves 34 = .ok (.iaload, 1) := by decide +kernel
theorem dX8_plainMoves_35 : decode cX8_plainMoves 35 = .ok (.invokevirtual 119, 3) := by decide +kernel
theorem dX8_plainMoves_38 : decode cX8_plainMoves 38 = .ok (.aload_n 0, 1) := by decide +kernel
theorem dX8_plainMoves_39 : decode cX8_plainMoves 39 = .ok (.aload_n 0, 1) := by decide +kernel
theorem dX8_plainMoves_40 : decode cX8_plainMoves 40 = .ok (.getfield 54, 3) := by decide +kernel
theorem dX8_plainMoves_43 : decode cX8_plainMoves 43 = .ok (.iload 4, 2) := by decide +kernel
theorem dX8_plainMoves_45 : decode cX8_plainMoves 45 = .ok (.iconst 1, 1) := by decide +kernel
theorem dX8_plainMoves_46 : decode cX8_plainMoves 46 = .ok (.isub, 1) := by decide +kernel
theorem dX8_plainMoves_47 : decode cX8_plainMoves 47 = .ok (.iaload, 1) := by decide +kernel
theorem dX8_plainMoves_48 : decode cX8_plainMoves 48 = .ok (.invokevirtual 119, 3) := by decide +kernel
theorem dX8_plainMoves_51 : decode cX8_plainMoves 51 = .ok (.if_icmp .ge 25, 3) := by decide +kernel
theorem dX8_plainMoves_54 : decode cX8_plainMoves 54 = .ok (.aload_n 0, 1) := by decide +kernel
theorem dX8_plainMoves_55 : decode cX8_plainMoves 55 = .ok (.getfield 54, 3) := by decide +kernel
theorem dX8_plainMoves_58 : decode cX8_plainMoves 58 = .ok (.iload 4, 2) := by decide +kernel
theorem dX8_plainMoves_60 : decode cX8_plainMoves 60 = .ok (.aload_n 0, 1) := by decide +kernel
theorem dX8_plainMoves_61 : decode cX8_plainMoves 61 = .ok (.getfield 54, 3) := by decide +kernel
theorem dX8_plainMoves_64 : decode cX8_plainMoves 64 = .ok (.iload 4, 2) := by decide +kernel
theorem dX8_plainMoves_66 : decode cX8_plainMoves 66 = .ok (.iconst 1, 1) := by decide +kernel
theorem dX8_plainMoves_67 : decode cX8_plainMoves 67 = .ok (.isub, 1) := by decide +kernel
theorem dX8_plainMoves_68 : decode cX8_plainMoves 68 = .ok (.iaload, 1) := by decide +kernel
theorem dX8_plainMoves_69 : decode cX8_plainMoves 69 = .ok (.iastore, 1) := by decide +kernel
theorem dX8_plainMoves_70 : decode cX8_plainMoves 70 = .ok (.iinc 4 (-1), 3) := by decide +kernel
theorem dX8_plainMoves_73 : decode cX8_plainMoves 73 = .ok (.goto (-50), 3) := by decide +kernel
theorem dX8_plainMoves_76 : decode cX8_plainMoves 76 = .ok (.aload_n 0, 1) := by decide +kernel
theorem dX8_plainMoves_77 : decode cX8_plainMoves 77 = .ok (.getfield 54, 3) := by decide +kernel
theorem dX8_plainMoves_80 : decode cX8_plainMoves 80 = .ok (.iload 4, 2) := by decide +kernel
theorem dX8_plainMoves_82 : decode cX8_plainMoves 82 = .ok (.aload_n 0, 1) := by decide +kernel
theorem dX8_plainMoves_83 : decode cX8_plainMoves 83 = .ok (.getfield 51, 3) := by decide +kernel
theorem dX8_plainMoves_86 : decode cX8_plainMoves 86 = .ok (.iload_n 3, 1) := by decide +kernel
theorem dX8_plainMoves_87 : decode cX8_plainMoves 87 = .ok (.iaload, 1) := by decide +kernel
theorem dX8_plainMoves_88 : decode cX8_plainMoves 88 = .ok (.iastore, 1) := by decide +kernel
theorem dX8_plainMoves_89 : decode cX8_plainMoves 89 = .ok (.iinc 3 1, 3) := by decide +kernel
theorem dX8_plainMoves_92 : decode cX8_plainMoves 92 = .ok (.goto (-80), 3) := by decide +kernel
theorem dX8_plainMoves_95 : decode cX8_plainMoves 95 = .ok (.aload_n 0, 1) := by decide +kernel
theorem dX8_plainMoves_96 : decode cX8_plainMoves 96 = .ok (.getfield 13, 3) := by decide +kernel
theorem dX8_plainMoves_99 : decode cX8_plainMoves 99 = .ok (.iconst 0, 1) := by decide +kernel
theorem dX8_plainMoves_100 : decode cX8_plainMoves 100 = .ok (.aload_n 0, 1) := by decide +kernel
theorem dX8_plainMoves_101 : decode cX8_plainMoves 101 = .ok (.getfield 20, 3) := by decide +kernel
theorem dX8_plainMoves_104 : decode cX8_plainMoves 104 = .ok (.iconst 0, 1) := by decide +kernel
theorem dX8_plainMoves_105 : decode cX8_plainMoves 105 = .ok (.invokestatic 93, 3) := by decide +kernel
theorem dX8_plainMoves_108 : decode cX8_plainMoves 108 = .ok (.aload_n 0, 1) := by decide +kernel
theorem dX8_plainMoves_109 : decode cX8_plainMoves 109 = .ok (.invokevirtual 247, 3) := by decide +kernel
theorem dX8_plainMoves_112 : decode cX8_plainMoves 112 = .ok (.istore_n 3, 1) := by decide +kernel
theorem dX8_plainMoves_113 : decode cX8_plainMoves 113 = .ok (.aload_n 0, 1) := by decide +kernel
theorem dX8_plainMoves_114 : decode cX8_plainMoves 114 = .ok (.getfield 20, 3) := by decide +kernel
theorem dX8_plainMoves_117 : decode cX8_plainMoves 117 = .ok (.iconst 0, 1) := by decide +kernel
theorem dX8_plainMoves_118 : decode cX8_plainMoves 118 = .ok (.aload_n 0, 1) := by decide +kernel
theorem dX8_plainMoves_119 : decode cX8_plainMoves 119 = .ok (.getfield 13, 3) := by decide +kernel
theorem dX8_plainMoves_122 : decode cX8_plainMoves 122 = .ok (.iconst 0, 1) := by decide +kernel
theorem dX8_plainMoves_123 : decode cX8_plainMoves 123 = .ok (.invokestatic 93, 3) := by decide +kernel
theorem dX8_plainMoves_126 : decode cX8_plainMoves 126 = .ok (.iload_n 3, 1) := by decide +kernel
theorem dX8_plainMoves_127 : decode cX8_plainMoves 127 = .ok (.ifCond .eq 10, 3) := by decide +kernel
theorem dX8_plainMoves_130 : decode cX8_plainMoves 130 = .ok (.aload_n 0, 1) := by decide +kernel
theorem dX8_plainMoves_131 : decode cX8_plainMoves 131 = .ok (.getfield 69, 3) := by decide +kernel
theorem dX8_plainMoves_134 : decode cX8_plainMoves 134 = .ok (.goto 8, 3) := by decide +kernel
theorem dX8_plainMoves_137 : decode cX8_plainMoves 137 = .ok (.aload_n 0, 1) := by decide +kernel
theorem dX8_plainMoves_138 : decode cX8_plainMoves 138 = .ok (.iconst 3, 1) := by decide +kernel
theorem dX8_plainMoves_139 : decode cX8_plainMoves 139 = .ok (.invokevirtual 177, 3) := by decide +kernel
theorem dX8_plainMoves_142 : decode cX8_plainMoves 142 = .ok (.ireturn, 1) := by decide +kernel
theorem dX8_retrieveAll_0 : decode cX8_retrieveAll 0 = .ok (.aload_n 0, 1) := by decide +kernel
theorem dX8_retrieveAll_1 : decode cX8_retrieveAll 1 = .ok (.invokevirtual 188, 3) := by decide +kernel
theorem dX8_retrieveAll_4 : decode cX8_retrieveAll 4 = .ok (.aload_n 0, 1) := by decide +kernel
theorem dX8_retrieveAll_5 : decode cX8_retrieveAll 5 = .ok (.lload_n 1, 1) := by decide +kernel
theorem dX8_retrieveAll_6 : decode cX8_retrieveAll 6 = .ok (.invokevirtual 251, 3) := by decide +kernel
theorem dX8_retrieveAll_9 : decode cX8_retrieveAll 9 = .ok (.ifCond .ne 5, 3) := by decide +kernel
theorem dX8_retrieveAll_12 : decode cX8_retrieveAll 12 = .ok (.iconst 0, 1) := by decide +kernel
theorem dX8_retrieveAll_13 : decode cX8_retrieveAll 13 = .ok (.ireturn, 1) := by decide +kernel
theorem dX8_retrieveAll_14 : decode cX8_retrieveAll 14 = .ok (.aload_n 0, 1) := by decide +kernel
theorem dX8_retrieveAll_15 : decode cX8_retrieveAll 15 = .ok (.invokevirtual 255, 3) := by decide +kernel
theorem dX8_retrieveAll_18 : decode cX8_retrieveAll 18 = .ok (.ifCond .ne 9, 3) := by decide +kernel
theorem dX8_retrieveAll_21 : decode cX8_retrieveAll 21 = .ok (.aload_n 0, 1) := by decide +kernel
theorem dX8_retrieveAll_22 : decode cX8_retrieveAll 22 = .ok (.iconst 3, 1) := by decide +kernel
theorem dX8_retrieveAll_23 : decode cX8_retrieveAll 23 = .ok (.invokevirtual 177, 3) := by decide +kernel
theorem dX8_retrieveAll_26 : decode cX8_retrieveAll 26 = .ok (.ireturn, 1) := by decide +kernel
theorem dX8_retrieveAll_27 : decode cX8_retrieveAll 27 = .ok (.iconst 0, 1) := by decide +kernel
theorem dX8_retrieveAll_28 : decode cX8_retrieveAll 28 = .ok (.istore_n 3, 1) := by decide +kernel
theorem dX8_retrieveAll_29 : decode cX8_retrieveAll 29 = .ok (.iload_n 3, 1) := by decide +kernel
theorem dX8_retrieveAll_30 : decode cX8_retrieveAll 30 = .ok (.aload_n 0, 1) := by decide +kernel
theorem dX8_retrieveAll_31 : decode cX8_retrieveAll 31 = .ok (.getfield 60, 3) := by decide +kernel
theorem dX8_retrieveAll_34 : decode cX8_retrieveAll 34 = .ok (.if_icmp .ge 21, 3) := by decide +kernel
theorem dX8_retrieveAll_37 : decode cX8_retrieveAll 37 = .ok (.aload_n 0, 1) := by decide +kernel
theorem dX8_retrieveAll_38 : decode cX8_retrieveAll 38 = .ok (.getfield 54, 3) := by decide +kernel
theorem dX8_retrieveAll_41 : decode cX8_retrieveAll 41 = .ok (.iload_n 3, 1) := by decide +kernel
theorem dX8_retrieveAll_42 : decode cX8_retrieveAll 42 = .ok (.aload_n 0, 1) := by decide +kernel
theorem dX8_retrieveAll_43 : decode cX8_retrieveAll 43 = .ok (.getfield 57, 3) := by decide +kernel
theorem dX8_retrieveAll_46 : decode cX8_retrieveAll 46 = .ok (.iload_n 3, 1) := by decide +kernel
theorem dX8_retrieveAll_47 : decode cX8_retrieveAll 47 = .ok (.iaload, 1) := by decide +kernel
theorem dX8_retrieveAll_48 : decode cX8_retrieveAll 48 = .ok (.iastore, 1) := by decide +kernel
theorem dX8_retrieveAll_49 : decode cX8_retrieveAll 49 = .ok (.iinc 3 1, 3) := by decide +kernel
theorem dX8_retrieveAll_52 : decode cX8_retrieveAll 52 = .ok (.goto (-23), 3) := by decide +kernel
theorem dX8_retrieveAll_55 : decode cX8_retrieveAll 55 = .ok (.aload_n 0, 1) := by decide +kernel
theorem dX8_retrieveAll_56 : decode cX8_retrieveAll 56 = .ok (.invokevirtual 247, 3) := by decide +kernel
theorem dX8_retrieveAll_59 : decode cX8_retrieveAll 59 = .ok (.istore_n 3, 1) := by decide +kernel
theorem dX8_retrieveAll_60 : decode cX8_retrieveAll 60 = .ok (.aload_n 0, 1) := by decide +kernel
theorem dX8_retrieveAll_61 : decode cX8_retrieveAll 61 = .ok (.aload_n 0, 1) := by decide +kernel
theorem dX8_retrieveAll_62 : decode cX8_retrieveAll 62 = .ok (.getfield 72, 3) := by decide +kernel
theorem dX8_retrieveAll_65 : decode cX8_retrieveAll 65 = .ok (.invokevirtual 194, 3) := by decide +kernel
theorem dX8_retrieveAll_68 : decode cX8_retrieveAll 68 = .ok (.ireturn, 1) := by decide +kernel
theorem dX8_isWrong_0 : decode cX8_isWrong 0 = .ok (.aload_n 0, 1) := by decide +kernel
theorem dX8_isWrong_1 : decode cX8_isWrong 1 = .ok (.iload_n 1, 1) := by decide +kernel
theorem dX8_isWrong_2 : decode cX8_isWrong 2 = .ok (.invokevirtual 104, 3) := by decide +kernel
theorem dX8_isWrong_5 : decode cX8_isWrong 5 = .ok (.ifCond .ne 48, 3) := by decide +kernel
theorem dX8_isWrong_8 : decode cX8_isWrong 8 = .ok (.aload_n 0, 1) := by decide +kernel
theorem dX8_isWrong_9 : decode cX8_isWrong 9 = .ok (.iload_n 1, 1) := by decide +kernel
theorem dX8_isWrong_10 : decode cX8_isWrong 10 = .ok (.iconst 1, 1) := by decide +kernel
theorem dX8_isWrong_11 : decode cX8_isWrong 11 = .ok (.isub, 1) := by decide +kernel
theorem dX8_isWrong_12 : decode cX8_isWrong 12 = .ok (.invokevirtual 104, 3) := by decide +kernel
theorem dX8_isWrong_15 : decode cX8_isWrong 15 = .ok (.ifCond .ne 38, 3) := by decide +kernel
theorem dX8_isWrong_18 : decode cX8_isWrong 18 = .ok (.aload_n 0, 1) := by decide +kernel
theorem dX8_isWrong_19 : decode cX8_isWrong 19 = .ok (.aload_n 0, 1) := by decide +kernel
theorem dX8_isWrong_20 : decode cX8_isWrong 20 = .ok (.getfield 13, 3) := by decide +kernel
theorem dX8_isWrong_23 : decode cX8_isWrong 23 = .ok (.bipush 79, 2) := by decide +kernel
theorem dX8_isWrong_25 : decode cX8_isWrong 25 = .ok (.iload_n 1, 1) := by decide +kernel
theorem dX8_isWrong_26 : decode cX8_isWrong 26 = .ok (.iadd, 1) := by decide +kernel
theorem dX8_isWrong_27 : decode cX8_isWrong 27 = .ok (.iaload, 1) := by decide +kernel
theorem dX8_isWrong_28 : decode cX8_isWrong 28 = .ok (.invokevirtual 119, 3) := by decide +kernel
theorem dX8_isWrong_31 : decode cX8_isWrong 31 = .ok (.aload_n 0, 1) := by decide +kernel
theorem dX8_isWrong_32 : decode cX8_isWrong 32 = .ok (.aload_n 0, 1) := by decide +kernel
theorem dX8_isWrong_33 : decode cX8_isWrong 33 = .ok (.getfield 13, 3) := by decide +kernel
theorem dX8_isWrong_36 : decode cX8_isWrong 36 = .ok (.bipush 79, 2) := by decide +kernel
theorem dX8_isWrong_38 : decode cX8_isWrong 38 = .ok (.iload_n 1, 1) := by decide +kernel
theorem dX8_isWrong_39 : decode cX8_isWrong 39 = .ok (.iadd, 1) := by decide +kernel
theorem dX8_isWrong_40 : decode cX8_isWrong 40 = .ok (.iconst 1, 1) := by decide +kernel
theorem dX8_isWrong_41 : decode cX8_isWrong 41 = .ok (.isub, 1) := by decide +kernel
theorem dX8_isWrong_42 : decode cX8_isWrong 42 = .ok (.iaload, 1) := by decide +kernel
theorem dX8_isWrong_43 : decode cX8_isWrong 43 = .ok (.invokevirtual 119, 3) := by decide +kernel
theorem dX8_isWrong_46 : decode cX8_isWrong 46 = .ok (.if_icmp .ge 7, 3) := by decide +kernel
theorem dX8_isWrong_49 : decode cX8_isWrong 49 = .ok (.iconst 1, 1) := by decide +kernel
theorem dX8_isWrong_50 : decode cX8_isWrong 50 = .ok (.goto 4, 3) := by decide +kernel
theorem dX8_isWrong_53 : decode cX8_isWrong 53 = .ok (.iconst 0, 1) := by decide +kernel
theorem dX8_isWrong_54 : decode cX8_isWrong 54 = .ok (.ireturn, 1) := by decide +kernel
theorem dX8_isAhead_0 : decode cX8_isAhead 0 = .ok (.aload_n 0, 1) := by decide +kernel
theorem dX8_isAhead_1 : decode cX8_isAhead 1 = .ok (.getfield 13, 3) := by decide +kernel
theorem dX8_isAhead_4 : decode cX8_isAhead 4 = .ok (.bipush 79, 2) := by decide +kernel
theorem dX8_isAhead_6 : decode cX8_isAhead 6 = .ok (.iload_n 1, 1) := by decide +kernel
theorem dX8_isAhead_7 : decode cX8_isAhead 7 = .ok (.iadd, 1) := by decide +kernel
theorem dX8_isAhead_8 : decode cX8_isAhead 8 = .ok (.iaload, 1) := by decide +kernel
theorem dX8_isAhead_9 : decode cX8_isAhead 9 = .ok (.istore_n 3, 1) := by decide +kernel
theorem dX8_isAhead_10 : decode cX8_isAhead 10 = .ok (.aload_n 0, 1) := by decide +kernel
theorem dX8_isAhead_11 : decode cX8_isAhead 11 = .ok (.getfield 13, 3) := by decide +kernel
theorem dX8_isAhead_14 : decode cX8_isAhead 14 = .ok (.bipush 79, 2) := by decide +kernel
theorem dX8_isAhead_16 : decode cX8_isAhead 16 = .ok (.iload_n 2, 1) := by decide +kernel
theorem dX8_isAhead_17 : decode cX8_isAhead 17 = .ok (.iadd, 1) := by decide +kernel
theorem dX8_isAhead_18 : decode cX8_isAhead 18 = .ok (.iaload, 1) := by decide +kernel
theorem dX8_isAhead_19 : decode cX8_isAhead 19 = .ok (.istore 4, 2) := by decide +kernel
theorem dX8_isAhead_21 : decode cX8_isAhead 21 = .ok (.aload_n 0, 1) := by decide +kernel
theorem dX8_isAhead_22 : decode cX8_isAhead 22 = .ok (.iload_n 3, 1) := by decide +kernel
theorem dX8_isAhead_23 : decode cX8_isAhead 23 = .ok (.invokevirtual 119, 3) := by decide +kernel
theorem dX8_isAhead_26 : decode cX8_isAhead 26 = .ok (.aload_n 0, 1) := by decide +kernel
theorem dX8_isAhead_27 : decode cX8_isAhead 27 = .ok (.iload 4, 2) := by decide +kernel
theorem dX8_isAhead_29 : decode cX8_isAhead 29 = .ok (.invokevirtual 119, 3) := by decide +kernel
theorem dX8_isAhead_32 : decode cX8_isAhead 32 = .ok (.if_icmp .eq 25, 3) := by decide +kernel
theorem dX8_isAhead_35 : decode cX8_isAhead 35 = .ok (.aload_n 0, 1) := by decide +kernel
theorem dX8_isAhead_36 : decode cX8_isAhead 36 = .ok (.iload_n 3, 1) := by decide +kernel
theorem dX8_isAhead_37 : decode cX8_isAhead 37 = .ok (.invokevirtual 119, 3) := by decide +kernel
theorem dX8_isAhead_40 : decode cX8_isAhead 40 = .ok (.aload_n 0, 1) := by decide +kernel
theorem dX8_isAhead_41 : decode cX8_isAhead 41 = .ok (.iload 4, 2) := by decide +kernel
theorem dX8_isAhead_43 : decode cX8_isAhead 43 = .ok (.invokevirtual 119, 3) := by decide +kernel
theorem dX8_isAhead_46 : decode cX8_isAhead 46 = .ok (.if_icmp .ge 7, 3) := by decide +kernel
theorem dX8_isAhead_49 : decode cX8_isAhead 49 = .ok (.iconst 1, 1) := by decide +kernel
theorem dX8_isAhead_50 : decode cX8_isAhead 50 = .ok (.goto 18, 3) := by decide +kernel
theorem dX8_isAhead_53 : decode cX8_isAhead 53 = .ok (.iconst 0, 1) := by decide +kernel
theorem dX8_isAhead_54 : decode cX8_isAhead 54 = .ok (.goto 14, 3) := by decide +kernel
theorem dX8_isAhead_57 : decode cX8_isAhead 57 = .ok (.iload_n 3, 1) := by decide +kernel
theorem dX8_isAhead_58 : decode cX8_isAhead 58 = .ok (.iload 4, 2) := by decide +kernel
theorem dX8_isAhead_60 : decode cX8_isAhead 60 = .ok (.if_icmp .ge 7, 3) := by decide +kernel
theorem dX8_isAhead_63 : decode cX8_isAhead 63 = .ok (.iconst 1, 1) := by decide +kernel
theorem dX8_isAhead_64 : decode cX8_isAhead 64 = .ok (.goto 4, 3) := by decide +kernel
theorem dX8_isAhead_67 : decode cX8_isAhead 67 = .ok (.iconst 0, 1) := by decide +kernel
theorem dX8_isAhead_68 : decode cX8_isAhead 68 = .ok (.ireturn, 1) := by decide +kernel
theorem dX8_tidy_0 : decode cX8_tidy 0 = .ok (.aload_n 0, 1) := by decide +kernel
theorem dX8_tidy_1 : decode cX8_tidy 1 = .ok (.invokevirtual 188, 3) := by decide +kernel
theorem dX8_tidy_4 : decode cX8_tidy 4 = .ok (.iconst 0, 1) := by decide +kernel
theorem dX8_tidy_5 : decode cX8_tidy 5 = .ok (.istore_n 1, 1) := by decide +kernel
theorem dX8_tidy_6 : decode cX8_tidy 6 = .ok (.iconst 1, 1) := by decide +kernel
theorem dX8_tidy_7 : decode cX8_tidy 7 = .ok (.istore_n 2, 1) := by decide +kernel
theorem dX8_tidy_8 : decode cX8_tidy 8 = .ok (.iload_n 2, 1) := by decide +kernel
theorem dX8_tidy_9 : decode cX8_tidy 9 = .ok (.bipush 60, 2) := by decide +kernel
theorem dX8_tidy_11 : decode cX8_tidy 11 = .ok (.if_icmp .ge 72, 3) := by decide +kernel
theorem dX8_tidy_14 : decode cX8_tidy 14 = .ok (.aload_n 0, 1) := by decide +kernel
theorem dX8_tidy_15 : decode cX8_tidy 15 = .ok (.iload_n 2, 1) := by decide +kernel
theorem dX8_tidy_16 : decode cX8_tidy 16 = .ok (.invokevirtual 258, 3) := by decide +kernel
theorem dX8_tidy_19 : decode cX8_tidy 19 = .ok (.ifCond .ne 6, 3) := by decide +kernel
theorem dX8_tidy_22 : decode cX8_tidy 22 = .ok (.goto 55, 3) := by decide +kernel
theorem dX8_tidy_25 : decode cX8_tidy 25 = .ok (.iload_n 1, 1) := by decide +kernel
theorem dX8_tidy_26 : decode cX8_tidy 26 = .ok (.istore_n 3, 1) := by decide +kernel
theorem dX8_tidy_27 : decode cX8_tidy 27 = .ok (.iload_n 3, 1) := by decide +kernel
theorem dX8_tidy_28 : decode cX8_tidy 28 = .ok (.ifCond .le 39, 3) := by decide +kernel
theorem dX8_tidy_31 : decode cX8_tidy 31 = .ok (.aload_n 0, 1) := by decide +kernel
theorem dX8_tidy_32 : decode cX8_tidy 32 = .ok (.iload_n 2, 1) := by decide +kernel
theorem dX8_tidy_33 : decode cX8_tidy 33 = .ok (.aload_n 0, 1) := by decide +kernel
theorem dX8_tidy_34 : decode cX8_tidy 34 = .ok (.getfield 75, 3) := by decide +kernel
theorem dX8_tidy_37 : decode cX8_tidy 37 = .ok (.iload_n 3, 1) := by decide +kernel
theorem dX8_tidy_38 : decode cX8_tidy 38 = .ok (.iconst 1, 1) := by decide +kernel
theorem dX8_tidy_39 : decode cX8_tidy 39 = .ok (.isub, 1) := by decide +kernel
theorem dX8_tidy_40 : decode cX8_tidy 40 = .ok (.iaload, 1) := by decide +kernel
theorem dX8_tidy_41 : decode cX8_tidy 41 = .ok (.invokevirtual 261, 3) := by decide +kernel
theorem dX8_tidy_44 : decode cX8_tidy 44 = .ok (.ifCond .eq 23, 3) := by decide +kernel
theorem dX8_tidy_47 : decode cX8_tidy 47 = .ok (.aload_n 0, 1) := by decide +kernel
theorem dX8_tidy_48 : decode cX8_tidy 48 = .ok (.getfield 75, 3) := by decide +kernel
theorem dX8_tidy_51 : decode cX8_tidy 51 = .ok (.iload_n 3, 1) := by decide +kernel
theorem dX8_tidy_52 : decode cX8_tidy 52 = .ok (.aload_n 0, 1) := by decide +kernel
theorem dX8_tidy_53 : decode cX8_tidy 53 = .ok (.getfield 75, 3) := by decide +kernel
theorem dX8_tidy_56 : decode cX8_tidy 56 = .ok (.iload_n 3, 1) := by decide +kernel
theorem dX8_tidy_57 : decode cX8_tidy 57 = .ok (.iconst 1, 1) := by decide +kernel
theorem dX8_tidy_58 : decode cX8_tidy 58 = .ok (.isub, 1) := by decide +kernel
theorem dX8_tidy_59 : decode cX8_tidy 59 = .ok (.iaload, 1) := by decide +kernel
theorem dX8_tidy_60 : decode cX8_tidy 60 = .ok (.iastore, 1) := by decide +kernel
theorem dX8_tidy_61 : decode cX8_tidy 61 = .ok (.iinc 3 (-1), 3) := by decide +kernel
theorem dX8_tidy_64 : decode cX8_tidy 64 = .ok (.goto (-37), 3) := by decide +kernel
theorem dX8_tidy_67 : decode cX8_tidy 67 = .ok (.aload_n 0, 1) := by decide +kernel
theorem dX8_tidy_68 : decode cX8_tidy 68 = .ok (.getfield 75, 3) := by decide +kernel
theorem dX8_tidy_71 : decode cX8_tidy 71 = .ok (.iload_n 3, 1) := by decide +kernel
theorem dX8_tidy_72 : decode cX8_tidy 72 = .ok (.iload_n 2, 1) := by decide +kernel
theorem dX8_tidy_73 : decode cX8_tidy 73 = .ok (.iastore, 1) := by decide +kernel
theorem dX8_tidy_74 : decode cX8_tidy 74 = .ok (.iinc 1 1, 3) := by decide +kernel
theorem dX8_tidy_77 : decode cX8_tidy 77 = .ok (.iinc 2 2, 3) := by decide +kernel
theorem dX8_tidy_80 : decode cX8_tidy 80 = .ok (.goto (-72), 3) := by decide +kernel
theorem dX8_tidy_83 : decode cX8_tidy 83 = .ok (.iconst 0, 1) := by decide +kernel
theorem dX8_tidy_84 : decode cX8_tidy 84 = .ok (.istore_n 2, 1) := by decide +kernel
theorem dX8_tidy_85 : decode cX8_tidy 85 = .ok (.iconst 0, 1) := by decide +kernel
theorem dX8_tidy_86 : decode cX8_tidy 86 = .ok (.istore_n 3, 1) := by decide +kernel
theorem dX8_tidy_87 : decode cX8_tidy 87 = .ok (.iload_n 3, 1) := by decide +kernel
theorem dX8_tidy_88 : decode cX8_tidy 88 = .ok (.iload_n 1, 1) := by decide +kernel
theorem dX8_tidy_89 : decode cX8_tidy 89 = .ok (.if_icmp .ge 102, 3) := by decide +kernel
theorem dX8_tidy_92 : decode cX8_tidy 92 = .ok (.aload_n 0, 1) := by decide +kernel
theorem dX8_tidy_93 : decode cX8_tidy 93 = .ok (.aload_n 0, 1) := by decide +kernel
theorem dX8_tidy_94 : decode cX8_tidy 94 = .ok (.getfield 75, 3) := by decide +kernel
theorem dX8_tidy_97 : decode cX8_tidy 97 = .ok (.iload_n 3, 1) := by decide +kernel
theorem dX8_tidy_98 : decode cX8_tidy 98 = .ok (.iaload, 1) := by decide +kernel
theorem dX8_tidy_99 : decode cX8_tidy 99 = .ok (.invokevirtual 258, 3) := by decide +kernel
theorem dX8_tidy_102 : decode cX8_tidy 102 = .ok (.ifCond .ne 6, 3) := by decide +kernel
theorem dX8_tidy_105 : decode cX8_tidy 105 = .ok (.goto 80, 3) := by decide +kernel
theorem dX8_tidy_108 : decode cX8_tidy 108 = .ok (.aload_n 0, 1) := by decide +kernel
theorem dX8_tidy_109 : decode cX8_tidy 109 = .ok (.getfield 13, 3) := by decide +kernel
theorem dX8_tidy_112 : decode cX8_tidy 112 = .ok (.bipush 79, 2) := by decide +kernel
theorem dX8_tidy_114 : decode cX8_tidy 114 = .ok (.aload_n 0, 1) := by decide +kernel
theorem dX8_tidy_115 : decode cX8_tidy 115 = .ok (.getfield 75, 3) := by decide +kernel
theorem dX8_tidy_118 : decode cX8_tidy 118 = .ok (.iload_n 3, 1) := by decide +kernel
theorem dX8_tidy_119 : decode cX8_tidy 119 = .ok (.iaload, 1) := by decide +kernel
theorem dX8_tidy_120 : decode cX8_tidy 120 = .ok (.iadd, 1) := by decide +kernel
theorem dX8_tidy_121 : decode cX8_tidy 121 = .ok (.iconst 1, 1) := by decide +kernel
theorem dX8_tidy_122 : decode cX8_tidy 122 = .ok (.isub, 1) := by decide +kernel
theorem dX8_tidy_123 : decode cX8_tidy 123 = .ok (.iaload, 1) := by decide +kernel
theorem dX8_tidy_124 : decode cX8_tidy 124 = .ok (.istore 4, 2) := by decide +kernel
theorem dX8_tidy_126 : decode cX8_tidy 126 = .ok (.aload_n 0, 1) := by decide +kernel
theorem dX8_tidy_127 : decode cX8_tidy 127 = .ok (.aload_n 0, 1) := by decide +kernel
theorem dX8_tidy_128 : decode cX8_tidy 128 = .ok (.iload 4, 2) := by decide +kernel
theorem dX8_tidy_130 : decode cX8_tidy 130 = .ok (.iconst 0, 1) := by decide +kernel
theorem dX8_tidy_131 : decode cX8_tidy 131 = .ok (.invokevirtual 108, 3) := by decide +kernel
theorem dX8_tidy_134 : decode cX8_tidy 134 = .ok (.aload_n 0, 1) := by decide +kernel
theorem dX8_tidy_135 : decode cX8_tidy 135 = .ok (.iload 4, 2) := by decide +kernel
theorem dX8_tidy_137 : decode cX8_tidy 137 = .ok (.invokevirtual 119, 3) := by decide +kernel
theorem dX8_tidy_140 : decode cX8_tidy 140 = .ok (.aload_n 0, 1) := by decide +kernel
theorem dX8_tidy_141 : decode cX8_tidy 141 = .ok (.iload 4, 2) := by decide +kernel
theorem dX8_tidy_143 : decode cX8_tidy 143 = .ok (.invokevirtual 116, 3) := by decide +kernel
theorem dX8_tidy_146 : decode cX8_tidy 146 = .ok (.invokevirtual 180, 3) := by decide +kernel
theorem dX8_tidy_149 : decode cX8_tidy 149 = .ok (.istore 5, 2) := by decide +kernel
theorem dX8_tidy_151 : decode cX8_tidy 151 = .ok (.iload 5, 2) := by decide +kernel
theorem dX8_tidy_153 : decode cX8_tidy 153 = .ok (.ifCond .lt 32, 3) := by decide +kernel
theorem dX8_tidy_156 : decode cX8_tidy 156 = .ok (.aload_n 0, 1) := by decide +kernel
theorem dX8_tidy_157 : decode cX8_tidy 157 = .ok (.iload 5, 2) := by decide +kernel
theorem dX8_tidy_159 : decode cX8_tidy 159 = .ok (.aload_n 0, 1) := by decide +kernel
theorem dX8_tidy_160 : decode cX8_tidy 160 = .ok (.iload 4, 2) := by decide +kernel
theorem dX8_tidy_162 : decode cX8_tidy 162 = .ok (.invokevirtual 119, 3) := by decide +kernel
theorem dX8_tidy_165 : decode cX8_tidy 165 = .ok (.invokevirtual 139, 3) := by decide +kernel
theorem dX8_tidy_168 : decode cX8_tidy 168 = .ok (.ifCond .eq 6, 3) := by decide +kernel
theorem dX8_tidy_171 : decode cX8_tidy 171 = .ok (.goto 14, 3) := by decide +kernel
theorem dX8_tidy_174 : decode cX8_tidy 174 = .ok (.aload_n 0, 1) := by decide +kernel
theorem dX8_tidy_175 : decode cX8_tidy 175 = .ok (.iload 4, 2) := by decide +kernel
theorem dX8_tidy_177 : decode cX8_tidy 177 = .ok (.iload 5, 2) := by decide +kernel
theorem dX8_tidy_179 : decode cX8_tidy 179 = .ok (.invokevirtual 200, 3) := by decide +kernel
theorem dX8_tidy_182 : decode cX8_tidy 182 = .ok (.iinc 2 1, 3) := by decide +kernel
theorem dX8_tidy_185 : decode cX8_tidy 185 = .ok (.iinc 3 1, 3) := by decide +kernel
theorem dX8_tidy_188 : decode cX8_tidy 188 = .ok (.goto (-101), 3) := by decide +kernel
theorem dX8_tidy_191 : decode cX8_tidy 191 = .ok (.aload_n 0, 1) := by decide +kernel
theorem dX8_tidy_192 : decode cX8_tidy 192 = .ok (.iload_n 2, 1) := by decide +kernel
theorem dX8_tidy_193 : decode cX8_tidy 193 = .ok (.invokevirtual 194, 3) := by decide +kernel
theorem dX8_tidy_196 : decode cX8_tidy 196 = .ok (.ireturn, 1) := by decide +kernel
theorem dX8_passes_0 : decode cX8_passes 0 = .ok (.iload_n 1, 1) := by decide +kernel
theorem dX8_passes_1 : decode cX8_passes 1 = .ok (.iconst 1, 1) := by decide +kernel
theorem dX8_passes_2 : decode cX8_passes 2 = .ok (.sipush 999, 3) := by decide +kernel
theorem dX8_passes_5 : decode cX8_passes 5 = .ok (.invokestatic 112, 3) := by decide +kernel
theorem dX8_passes_8 : decode cX8_passes 8 = .ok (.ifCond .ne 9, 3) := by decide +kernel
theorem dX8_passes_11 : decode cX8_passes 11 = .ok (.aload_n 0, 1) := by decide +kernel
theorem dX8_passes_12 : decode cX8_passes 12 = .ok (.iconst 1, 1) := by decide +kernel
theorem dX8_passes_13 : decode cX8_passes 13 = .ok (.invokevirtual 177, 3) := by decide +kernel
theorem dX8_passes_16 : decode cX8_passes 16 = .ok (.ireturn, 1) := by decide +kernel
theorem dX8_passes_17 : decode cX8_passes 17 = .ok (.aload_n 0, 1) := by decide +kernel
theorem dX8_passes_18 : decode cX8_passes 18 = .ok (.getfield 13, 3) := by decide +kernel
theorem dX8_passes_21 : decode cX8_passes 21 = .ok (.iconst 0, 1) := by decide +kernel
theorem dX8_passes_22 : decode cX8_passes 22 = .ok (.iaload, 1) := by decide +kernel
theorem dX8_passes_23 : decode cX8_passes 23 = .ok (.iload_n 1, 1) := by decide +kernel
theorem dX8_passes_24 : decode cX8_passes 24 = .ok (.iadd, 1) := by decide +kernel
theorem dX8_passes_25 : decode cX8_passes 25 = .ok (.sipush 9999, 3) := by decide +kernel
theorem dX8_passes_28 : decode cX8_passes 28 = .ok (.if_icmp .le 9, 3) := by decide +kernel
theorem dX8_passes_31 : decode cX8_passes 31 = .ok (.aload_n 0, 1) := by decide +kernel
theorem dX8_passes_32 : decode cX8_passes 32 = .ok (.iconst 2, 1) := by decide +kernel
theorem dX8_passes_33 : decode cX8_passes 33 = .ok (.invokevirtual 177, 3) := by decide +kernel
theorem dX8_passes_36 : decode cX8_passes 36 = .ok (.ireturn, 1) := by decide +kernel
theorem dX8_passes_37 : decode cX8_passes 37 = .ok (.aload_n 0, 1) := by decide +kernel
theorem dX8_passes_38 : decode cX8_passes 38 = .ok (.getfield 13, 3) := by decide +kernel
theorem dX8_passes_41 : decode cX8_passes 41 = .ok (.iconst 0, 1) := by decide +kernel
theorem dX8_passes_42 : decode cX8_passes 42 = .ok (.dup2, 1) := by decide +kernel
theorem dX8_passes_43 : decode cX8_passes 43 = .ok (.iaload, 1) := by decide +kernel
theorem dX8_passes_44 : decode cX8_passes 44 = .ok (.iload_n 1, 1) := by decide +kernel
theorem dX8_passes_45 : decode cX8_passes 45 = .ok (.iadd, 1) := by decide +kernel
theorem dX8_passes_46 : decode cX8_passes 46 = .ok (.iastore, 1) := by decide +kernel
theorem dX8_passes_47 : decode cX8_passes 47 = .ok (.aload_n 0, 1) := by decide +kernel
theorem dX8_passes_48 : decode cX8_passes 48 = .ok (.getfield 13, 3) := by decide +kernel
theorem dX8_passes_51 : decode cX8_passes 51 = .ok (.iconst 0, 1) := by decide +kernel
theorem dX8_passes_52 : decode cX8_passes 52 = .ok (.iaload, 1) := by decide +kernel
theorem dX8_passes_53 : decode cX8_passes 53 = .ok (.ireturn, 1) := by decide +kernel
theorem dX8_pass_0 : decode cX8_pass 0 = .ok (.aload_n 0, 1) := by decide +kernel
theorem dX8_pass_1 : decode cX8_pass 1 = .ok (.invokevirtual 188, 3) := by decide +kernel
theorem dX8_pass_4 : decode cX8_pass 4 = .ok (.aload_n 0, 1) := by decide +kernel
theorem dX8_pass_5 : decode cX8_pass 5 = .ok (.aload_n 0, 1) := by decide +kernel
theorem dX8_pass_6 : decode cX8_pass 6 = .ok (.iload_n 1, 1) := by decide +kernel
theorem dX8_pass_7 : decode cX8_pass 7 = .ok (.invokevirtual 264, 3) := by decide +kernel
theorem dX8_pass_10 : decode cX8_pass 10 = .ok (.invokevirtual 194, 3) := by decide +kernel
theorem dX8_pass_13 : decode cX8_pass 13 = .ok (.ireturn, 1) := by decide +kernel
theorem dX8_machine_0 : decode cX8_machine 0 = .ok (.aload_n 0, 1) := by decide +kernel
theorem dX8_machine_1 : decode cX8_machine 1 = .ok (.iconst 0, 1) := by decide +kernel
theorem dX8_machine_2 : decode cX8_machine 2 = .ok (.putfield 3, 3) := by decide +kernel
theorem dX8_machine_5 : decode cX8_machine 5 = .ok (.iload_n 1, 1) := by decide +kernel
theorem dX8_machine_6 : decode cX8_machine 6 = .ok (.iconst 0, 1) := by decide +kernel
theorem dX8_machine_7 : decode cX8_machine 7 = .ok (.iconst 3, 1) := by decide +kernel
theorem dX8_machine_8 : decode cX8_machine 8 = .ok (.invokestatic 112, 3) := by decide +kernel
theorem dX8_machine_11 : decode cX8_machine 11 = .ok (.ifCond .ne 9, 3) := by decide +kernel
theorem dX8_machine_14 : decode cX8_machine 14 = .ok (.aload_n 0, 1) := by decide +kernel
theorem dX8_machine_15 : decode cX8_machine 15 = .ok (.iconst 1, 1) := by decide +kernel
theorem dX8_machine_16 : decode cX8_machine 16 = .ok (.invokevirtual 177, 3) := by decide +kernel
theorem dX8_machine_19 : decode cX8_machine 19 = .ok (.ireturn, 1) := by decide +kernel
theorem dX8_machine_20 : decode cX8_machine 20 = .ok (.iload_n 2, 1) := by decide +kernel
theorem dX8_machine_21 : decode cX8_machine 21 = .ok (.iconst 0, 1) := by decide +kernel
theorem dX8_machine_22 : decode cX8_machine 22 = .ok (.iconst 2, 1) := by decide +kernel
theorem dX8_machine_23 : decode cX8_machine 23 = .ok (.invokestatic 112, 3) := by decide +kernel
theorem dX8_machine_26 : decode cX8_machine 26 = .ok (.ifCond .eq 19, 3) := by decide +kernel
theorem dX8_machine_29 : decode cX8_machine 29 = .ok (.aload_n 0, 1) := by decide +kernel
theorem dX8_machine_30 : decode cX8_machine 30 = .ok (.getfield 13, 3) := by decide +kernel
theorem dX8_machine_33 : decode cX8_machine 33 = .ok (.bipush 7, 2) := by decide +kernel
theorem dX8_machine_35 : decode cX8_machine 35 = .ok (.iconst 3, 1) := by decide +kernel
theorem dX8_machine_36 : decode cX8_machine 36 = .ok (.iload_n 1, 1) := by decide +kernel
theorem dX8_machine_37 : decode cX8_machine 37 = .ok (.imul, 1) := by decide +kernel
theorem dX8_machine_38 : decode cX8_machine 38 = .ok (.iadd, 1) := by decide +kernel
theorem dX8_machine_39 : decode cX8_machine 39 = .ok (.iload_n 2, 1) := by decide +kernel
theorem dX8_machine_40 : decode cX8_machine 40 = .ok (.iadd, 1) := by decide +kernel
theorem dX8_machine_41 : decode cX8_machine 41 = .ok (.iaload, 1) := by decide +kernel
theorem dX8_machine_42 : decode cX8_machine 42 = .ok (.goto 8, 3) := by decide +kernel
theorem dX8_machine_45 : decode cX8_machine 45 = .ok (.aload_n 0, 1) := by decide +kernel
theorem dX8_machine_46 : decode cX8_machine 46 = .ok (.iconst 2, 1) := by decide +kernel
theorem dX8_machine_47 : decode cX8_machine 47 = .ok (.invokevirtual 177, 3) := by decide +kernel
theorem dX8_machine_50 : decode cX8_machine 50 = .ok (.ireturn, 1) := by decide +kernel
theorem dX8_jobs_0 : decode cX8_jobs 0 = .ok (.aload_n 0, 1) := by decide +kernel
theorem dX8_jobs_1 : decode cX8_jobs 1 = .ok (.getfield 13, 3) := by decide +kernel
theorem dX8_jobs_4 : decode cX8_jobs 4 = .ok (.bipush 6, 2) := by decide +kernel
theorem dX8_jobs_6 : decode cX8_jobs 6 = .ok (.iaload, 1) := by decide +kernel
theorem dX8_jobs_7 : decode cX8_jobs 7 = .ok (.ireturn, 1) := by decide +kernel
theorem dX8_job_0 : decode cX8_job 0 = .ok (.aload_n 0, 1) := by decide +kernel
theorem dX8_job_1 : decode cX8_job 1 = .ok (.iconst 0, 1) := by decide +kernel
theorem dX8_job_2 : decode cX8_job 2 = .ok (.putfield 3, 3) := by decide +kernel
theorem dX8_job_5 : decode cX8_job 5 = .ok (.iload_n 1, 1) := by decide +kernel
theorem dX8_job_6 : decode cX8_job 6 = .ok (.iconst 0, 1) := by decide +kernel
theorem dX8_job_7 : decode cX8_job 7 = .ok (.aload_n 0, 1) := by decide +kernel
theorem dX8_job_8 : decode cX8_job 8 = .ok (.getfield 13, 3) := by decide +kernel
theorem dX8_job_11 : decode cX8_job 11 = .ok (.bipush 6, 2) := by decide +kernel
theorem dX8_job_13 : decode cX8_job 13 = .ok (.iaload, 1) := by decide +kernel
theorem dX8_job_14 : decode cX8_job 14 = .ok (.iconst 1, 1) := by decide +kernel
theorem dX8_job_15 : decode cX8_job 15 = .ok (.isub, 1) := by decide +kernel
theorem dX8_job_16 : decode cX8_job 16 = .ok (.invokestatic 112, 3) := by decide +kernel
theorem dX8_job_19 : decode cX8_job 19 = .ok (.ifCond .ne 9, 3) := by decide +kernel
theorem dX8_job_22 : decode cX8_job 22 = .ok (.aload_n 0, 1) := by decide +kernel
theorem dX8_job_23 : decode cX8_job 23 = .ok (.iconst 1, 1) := by decide +kernel
theorem dX8_job_24 : decode cX8_job 24 = .ok (.invokevirtual 177, 3) := by decide +kernel
theorem dX8_job_27 : decode cX8_job 27 = .ok (.ireturn, 1) := by decide +kernel
theorem dX8_job_28 : decode cX8_job 28 = .ok (.iload_n 2, 1) := by decide +kernel
theorem dX8_job_29 : decode cX8_job 29 = .ok (.iconst 0, 1) := by decide +kernel
theorem dX8_job_30 : decode cX8_job 30 = .ok (.iconst 4, 1) := by decide +kernel
theorem dX8_job_31 : decode cX8_job 31 = .ok (.invokestatic 112, 3) := by decide +kernel
theorem dX8_job_34 : decode cX8_job 34 = .ok (.ifCond .eq 20, 3) := by decide +kernel
theorem dX8_job_37 : decode cX8_job 37 = .ok (.aload_n 0, 1) := by decide +kernel
theorem dX8_job_38 : decode cX8_job 38 = .ok (.getfield 13, 3) := by decide +kernel
theorem dX8_job_41 : decode cX8_job 41 = .ok (.sipush 299, 3) := by decide +kernel
theorem dX8_job_44 : decode cX8_job 44 = .ok (.iconst 5, 1) := by decide +kernel
theorem dX8_job_45 : decode cX8_job 45 = .ok (.iload_n 1, 1) := by decide +kernel
theorem dX8_job_46 : decode cX8_job 46 = .ok (.imul, 1) := by decide +kernel
theorem dX8_job_47 : decode cX8_job 47 = .ok (.iadd, 1) := by decide +kernel
theorem dX8_job_48 : decode cX8_job 48 = .ok (.iload_n 2, 1) := by decide +kernel
theorem dX8_job_49 : decode cX8_job 49 = .ok (.iadd, 1) := by decide +kernel
theorem dX8_job_50 : decode cX8_job 50 = .ok (.iaload, 1) := by decide +kernel
theorem dX8_job_51 : decode cX8_job 51 = .ok (.goto 8, 3) := by decide +kernel
theorem dX8_job_54 : decode cX8_job 54 = .ok (.aload_n 0, 1) := by decide +kernel
theorem dX8_job_55 : decode cX8_job 55 = .ok (.iconst 2, 1) := by decide +kernel
theorem dX8_job_56 : decode cX8_job 56 = .ok (.invokevirtual 177, 3) := by decide +kernel
theorem dX8_job_59 : decode cX8_job 59 = .ok (.ireturn, 1) := by decide +kernel
theorem dX8_account_0 : decode cX8_account 0 = .ok (.aload_n 0, 1) := by decide +kernel
theorem dX8_account_1 : decode cX8_account 1 = .ok (.iconst 0, 1) := by decide +kernel
theorem dX8_account_2 : decode cX8_account 2 = .ok (.putfield 3, 3) := by decide +kernel
theorem dX8_account_5 : decode cX8_account 5 = .ok (.iload_n 1, 1) := by decide +kernel
theorem dX8_account_6 : decode cX8_account 6 = .ok (.iconst 0, 1) := by decide +kernel
theorem dX8_account_7 : decode cX8_account 7 = .ok (.iconst 5, 1) := by decide +kernel
theorem dX8_account_8 : decode cX8_account 8 = .ok (.invokestatic 112, 3) := by decide +kernel
theorem dX8_account_11 : decode cX8_account 11 = .ok (.ifCond .eq 14, 3) := by decide +kernel
theorem dX8_account_14 : decode cX8_account 14 = .ok (.aload_n 0, 1) := by decide +kernel
theorem dX8_account_15 : decode cX8_account 15 = .ok (.getfield 13, 3) := by decide +kernel
theorem dX8_account_18 : decode cX8_account 18 = .ok (.iconst 0, 1) := by decide +kernel
theorem dX8_account_19 : decode cX8_account 19 = .ok (.iload_n 1, 1) := by decide +kernel
theorem dX8_account_20 : decode cX8_account 20 = .ok (.iadd, 1) := by decide +kernel
theorem dX8_account_21 : decode cX8_account 21 = .ok (.iaload, 1) := by decide +kernel
theorem dX8_account_22 : decode cX8_account 22 = .ok (.goto 8, 3) := by decide +kernel
theorem dX8_account_25 : decode cX8_account 25 = .ok (.aload_n 0, 1) := by decide +kernel
theorem dX8_account_26 : decode cX8_account 26 = .ok (.iconst 1, 1) := by decide +kernel
theorem dX8_account_27 : decode cX8_account 27 = .ok (.invokevirtual 177, 3) := by decide +kernel
theorem dX8_account_30 : decode cX8_account 30 = .ok (.ireturn, 1) := by decide +kernel
theorem dX8_load_0 : decode cX8_load 0 = .ok (.aload_n 0, 1) := by decide +kernel
theorem dX8_load_1 : decode cX8_load 1 = .ok (.iconst 0, 1) := by decide +kernel
theorem dX8_load_2 : decode cX8_load 2 = .ok (.putfield 3, 3) := by decide +kernel
theorem dX8_load_5 : decode cX8_load 5 = .ok (.iload_n 1, 1) := by decide +kernel
theorem dX8_load_6 : decode cX8_load 6 = .ok (.iconst 0, 1) := by decide +kernel
theorem dX8_load_7 : decode cX8_load 7 = .ok (.iconst 3, 1) := by decide +kernel
theorem dX8_load_8 : decode cX8_load 8 = .ok (.invokestatic 112, 3) := by decide +kernel
theorem dX8_load_11 : decode cX8_load 11 = .ok (.ifCond .ne 10, 3) := by decide +kernel
theorem dX8_load_14 : decode cX8_load 14 = .ok (.aload_n 0, 1) := by decide +kernel
theorem dX8_load_15 : decode cX8_load 15 = .ok (.iconst 1, 1) := by decide +kernel
theorem dX8_load_16 : decode cX8_load 16 = .ok (.invokevirtual 177, 3) := by decide +kernel
theorem dX8_load_19 : decode cX8_load 19 = .ok (.i2f, 1) := by decide +kernel
theorem dX8_load_20 : decode cX8_load 20 = .ok (.freturn, 1) := by decide +kernel
theorem dX8_load_21 : decode cX8_load 21 = .ok (.aload_n 0, 1) := by decide +kernel
theorem dX8_load_22 : decode cX8_load 22 = .ok (.getfield 13, 3) := by decide +kernel
theorem dX8_load_25 : decode cX8_load 25 = .ok (.bipush 7, 2) := by decide +kernel
theorem dX8_load_27 : decode cX8_load 27 = .ok (.iconst 3, 1) := by decide +kernel
theorem dX8_load_28 : decode cX8_load 28 = .ok (.iload_n 1, 1) := by decide +kernel
theorem dX8_load_29 : decode cX8_load 29 = .ok (.imul, 1) := by decide +kernel
theorem dX8_load_30 : decode cX8_load 30 = .ok (.iadd, 1) := by decide +kernel
theorem dX8_load_31 : decode cX8_load 31 = .ok (.iconst 1, 1) := by decide +kernel
theorem dX8_load_32 : decode cX8_load 32 = .ok (.iadd, 1) := by decide +kernel
theorem dX8_load_33 : decode cX8_load 33 = .ok (.iaload, 1) := by decide +kernel
theorem dX8_load_34 : decode cX8_load 34 = .ok (.istore_n 2, 1) := by decide +kernel
theorem dX8_load_35 : decode cX8_load 35 = .ok (.iload_n 2, 1) := by decide +kernel
theorem dX8_load_36 : decode cX8_load 36 = .ok (.ifCond .ne 12, 3) := by decide +kernel
theorem dX8_load_39 : decode cX8_load 39 = .ok (.aload_n 0, 1) := by decide +kernel
theorem dX8_load_40 : decode cX8_load 40 = .ok (.iconst 2, 1) := by decide +kernel
theorem dX8_load_41 : decode cX8_load 41 = .ok (.invokevirtual 177, 3) := by decide +kernel
theorem dX8_load_44 : decode cX8_load 44 = .ok (.i2f, 1) := by decide +kernel
theorem dX8_load_45 : decode cX8_load 45 = .ok (.goto 20, 3) := by decide +kernel
theorem dX8_load_48 : decode cX8_load 48 = .ok (.aload_n 0, 1) := by decide +kernel
theorem dX8_load_49 : decode cX8_load 49 = .ok (.getfield 13, 3) := by decide +kernel
theorem dX8_load_52 : decode cX8_load 52 = .ok (.bipush 7, 2) := by decide +kernel
theorem dX8_load_54 : decode cX8_load 54 = .ok (.iconst 3, 1) := by decide +kernel
theorem dX8_load_55 : decode cX8_load 55 = .ok (.iload_n 1, 1) := by decide +kernel
theorem dX8_load_56 : decode cX8_load 56 = .ok (.imul, 1) := by decide +kernel
theorem dX8_load_57 : decode cX8_load 57 = .ok (.iadd, 1) := by decide +kernel
theorem dX8_load_58 : decode cX8_load 58 = .ok (.iconst 2, 1) := by decide +kernel
theorem dX8_load_59 : decode cX8_load 59 = .ok (.iadd, 1) := by decide +kernel
theorem dX8_load_60 : decode cX8_load 60 = .ok (.iaload, 1) := by decide +kernel
theorem dX8_load_61 : decode cX8_load 61 = .ok (.i2f, 1) := by decide +kernel
theorem dX8_load_62 : decode cX8_load 62 = .ok (.iload_n 2, 1) := by decide +kernel
theorem dX8_load_63 : decode cX8_load 63 = .ok (.i2f, 1) := by decide +kernel
theorem dX8_load_64 : decode cX8_load 64 = .ok (.fdiv, 1) := by decide +kernel
theorem dX8_load_65 : decode cX8_load 65 = .ok (.freturn, 1) := by decide +kernel
theorem dX8_meanJob_0 : decode cX8_meanJob 0 = .ok (.aload_n 0, 1) := by decide +kernel
theorem dX8_meanJob_1 : decode cX8_meanJob 1 = .ok (.iconst 0, 1) := by decide +kernel
theorem dX8_meanJob_2 : decode cX8_meanJob 2 = .ok (.putfield 3, 3) := by decide +kernel
theorem dX8_meanJob_5 : decode cX8_meanJob 5 = .ok (.aload_n 0, 1) := by decide +kernel
theorem dX8_meanJob_6 : decode cX8_meanJob 6 = .ok (.getfield 13, 3) := by decide +kernel
theorem dX8_meanJob_9 : decode cX8_meanJob 9 = .ok (.iconst 1, 1) := by decide +kernel
theorem dX8_meanJob_10 : decode cX8_meanJob 10 = .ok (.iaload, 1) := by decide +kernel
theorem dX8_meanJob_11 : decode cX8_meanJob 11 = .ok (.aload_n 0, 1) := by decide +kernel
theorem dX8_meanJob_12 : decode cX8_meanJob 12 = .ok (.getfield 13, 3) := by decide +kernel
theorem dX8_meanJob_15 : decode cX8_meanJob 15 = .ok (.iconst 2, 1) := by decide +kernel
theorem dX8_meanJob_16 : decode cX8_meanJob 16 = .ok (.iaload, 1) := by decide +kernel
theorem dX8_meanJob_17 : decode cX8_meanJob 17 = .ok (.iadd, 1) := by decide +kernel
theorem dX8_meanJob_18 : decode cX8_meanJob 18 = .ok (.aload_n 0, 1) := by decide +kernel
theorem dX8_meanJob_19 : decode cX8_meanJob 19 = .ok (.getfield 13, 3) := by decide +kernel
theorem dX8_meanJob_22 : decode cX8_meanJob 22 = .ok (.iconst 3, 1) := by decide +kernel
theorem dX8_meanJob_23 : decode cX8_meanJob 23 = .ok (.iaload, 1) := by decide +kernel
theorem dX8_meanJob_24 : decode cX8_meanJob 24 = .ok (.iadd, 1) := by decide +kernel
theorem dX8_meanJob_25 : decode cX8_meanJob 25 = .ok (.istore_n 1, 1) := by decide +kernel
theorem dX8_meanJob_26 : decode cX8_meanJob 26 = .ok (.iload_n 1, 1) := by decide +kernel
theorem dX8_meanJob_27 : decode cX8_meanJob 27 = .ok (.ifCond .ne 12, 3) := by decide +kernel
theorem dX8_meanJob_30 : decode cX8_meanJob 30 = .ok (.aload_n 0, 1) := by decide +kernel
theorem dX8_meanJob_31 : decode cX8_meanJob 31 = .ok (.iconst 1, 1) := by decide +kernel
theorem dX8_meanJob_32 : decode cX8_meanJob 32 = .ok (.invokevirtual 177, 3) := by decide +kernel
theorem dX8_meanJob_35 : decode cX8_meanJob 35 = .ok (.i2d, 1) := by decide +kernel
theorem dX8_meanJob_36 : decode cX8_meanJob 36 = .ok (.goto 13, 3) := by decide +kernel
theorem dX8_meanJob_39 : decode cX8_meanJob 39 = .ok (.aload_n 0, 1) := by decide +kernel
theorem dX8_meanJob_40 : decode cX8_meanJob 40 = .ok (.getfield 13, 3) := by decide +kernel
theorem dX8_meanJob_43 : decode cX8_meanJob 43 = .ok (.iconst 4, 1) := by decide +kernel
theorem dX8_meanJob_44 : decode cX8_meanJob 44 = .ok (.iaload, 1) := by decide +kernel
theorem dX8_meanJob_45 : decode cX8_meanJob 45 = .ok (.i2d, 1) := by decide +kernel
theorem dX8_meanJob_46 : decode cX8_meanJob 46 = .ok (.iload_n 1, 1) := by decide +kernel
theorem dX8_meanJob_47 : decode cX8_meanJob 47 = .ok (.i2d, 1) := by decide +kernel
theorem dX8_meanJob_48 : decode cX8_meanJob 48 = .ok (.ddiv, 1) := by decide +kernel
theorem dX8_meanJob_49 : decode cX8_meanJob 49 = .ok (.dreturn, 1) := by decide +kernel
theorem dX8_report_0 : decode cX8_report 0 = .ok (.aload_n 0, 1) := by decide +kernel
theorem dX8_report_1 : decode cX8_report 1 = .ok (.iconst 0, 1) := by decide +kernel
theorem dX8_report_2 : decode cX8_report 2 = .ok (.putfield 3, 3) := by decide +kernel
theorem dX8_report_5 : decode cX8_report 5 = .ok (.aload_n 0, 1) := by decide +kernel
theorem dX8_report_6 : decode cX8_report 6 = .ok (.getfield 42, 3) := by decide +kernel
theorem dX8_report_9 : decode cX8_report 9 = .ok (.ifCond .lt 12, 3) := by decide +kernel
theorem dX8_report_12 : decode cX8_report 12 = .ok (.iload_n 1, 1) := by decide +kernel
theorem dX8_report_13 : decode cX8_report 13 = .ok (.iconst 0, 1) := by decide +kernel
theorem dX8_report_14 : decode cX8_report 14 = .ok (.iconst 2, 1) := by decide +kernel
theorem dX8_report_15 : decode cX8_report 15 = .ok (.invokestatic 112, 3) := by decide +kernel
theorem dX8_report_18 : decode cX8_report 18 = .ok (.ifCond .ne 9, 3) := by decide +kernel
theorem dX8_report_21 : decode cX8_report 21 = .ok (.aload_n 0, 1) := by decide +kernel
theorem dX8_report_22 : decode cX8_report 22 = .ok (.iconst 1, 1) := by decide +kernel
theorem dX8_report_23 : decode cX8_report 23 = .ok (.invokevirtual 177, 3) := by decide +kernel
theorem dX8_report_26 : decode cX8_report 26 = .ok (.ireturn, 1) := by decide +kernel
theorem dX8_report_27 : decode cX8_report 27 = .ok (.iload_n 2, 1) := by decide +kernel
theorem dX8_report_28 : decode cX8_report 28 = .ok (.iconst 0, 1) := by decide +kernel
theorem dX8_report_29 : decode cX8_report 29 = .ok (.iconst 1, 1) := by decide +kernel
theorem dX8_report_30 : decode cX8_report 30 = .ok (.invokestatic 112, 3) := by decide +kernel
theorem dX8_report_33 : decode cX8_report 33 = .ok (.ifCond .ne 9, 3) := by decide +kernel
theorem dX8_report_36 : decode cX8_report 36 = .ok (.aload_n 0, 1) := by decide +kernel
theorem dX8_report_37 : decode cX8_report 37 = .ok (.iconst 2, 1) := by decide +kernel
theorem dX8_report_38 : decode cX8_report 38 = .ok (.invokevirtual 177, 3) := by decide +kernel
theorem dX8_report_41 : decode cX8_report 41 = .ok (.ireturn, 1) := by decide +kernel
theorem dX8_report_42 : decode cX8_report 42 = .ok (.iload_n 2, 1) := by decide +kernel
theorem dX8_report_43 : decode cX8_report 43 = .ok (.ifCond .ne 9, 3) := by decide +kernel
theorem dX8_report_46 : decode cX8_report 46 = .ok (.iconst 1, 1) := by decide +kernel
theorem dX8_report_47 : decode cX8_report 47 = .ok (.iload_n 1, 1) := by decide +kernel
theorem dX8_report_48 : decode cX8_report 48 = .ok (.iadd, 1) := by decide +kernel
theorem dX8_report_49 : decode cX8_report 49 = .ok (.goto 30, 3) := by decide +kernel
theorem dX8_report_52 : decode cX8_report 52 = .ok (.iload_n 1, 1) := by decide +kernel
theorem dX8_report_53 : decode cX8_report 53 = .ok (.ifCond .ne 10, 3) := by decide +kernel
theorem dX8_report_56 : decode cX8_report 56 = .ok (.aload_n 0, 1) := by decide +kernel
theorem dX8_report_57 : decode cX8_report 57 = .ok (.getfield 42, 3) := by decide +kernel
theorem dX8_report_60 : decode cX8_report 60 = .ok (.goto 19, 3) := by decide +kernel
theorem dX8_report_63 : decode cX8_report 63 = .ok (.iload_n 1, 1) := by decide +kernel
theorem dX8_report_64 : decode cX8_report 64 = .ok (.iconst 1, 1) := by decide +kernel
theorem dX8_report_65 : decode cX8_report 65 = .ok (.if_icmp .ne 10, 3) := by decide +kernel
theorem dX8_report_68 : decode cX8_report 68 = .ok (.aload_n 0, 1) := by decide +kernel
theorem dX8_report_69 : decode cX8_report 69 = .ok (.getfield 45, 3) := by decide +kernel
theorem dX8_report_72 : decode cX8_report 72 = .ok (.goto 7, 3) := by decide +kernel
theorem dX8_report_75 : decode cX8_report 75 = .ok (.aload_n 0, 1) := by decide +kernel
theorem dX8_report_76 : decode cX8_report 76 = .ok (.getfield 48, 3) := by decide +kernel
theorem dX8_report_79 : decode cX8_report 79 = .ok (.ireturn, 1) := by decide +kernel
theorem dX8_feed_0 : decode cX8_feed 0 = .ok (.aload_n 0, 1) := by decide +kernel
theorem dX8_feed_1 : decode cX8_feed 1 = .ok (.iconst 0, 1) := by decide +kernel
theorem dX8_feed_2 : decode cX8_feed 2 = .ok (.putfield 3, 3) := by decide +kernel
theorem dX8_feed_5 : decode cX8_feed 5 = .ok (.aload_n 0, 1) := by decide +kernel
theorem dX8_feed_6 : decode cX8_feed 6 = .ok (.getfield 84, 3) := by decide +kernel
theorem dX8_feed_9 : decode cX8_feed 9 = .ok (.bipush 60, 2) := by decide +kernel
theorem dX8_feed_11 : decode cX8_feed 11 = .ok (.if_icmp .ne 9, 3) := by decide +kernel
theorem dX8_feed_14 : decode cX8_feed 14 = .ok (.aload_n 0, 1) := by decide +kernel
theorem dX8_feed_15 : decode cX8_feed 15 = .ok (.iconst 1, 1) := by decide +kernel
theorem dX8_feed_16 : decode cX8_feed 16 = .ok (.invokevirtual 177, 3) := by decide +kernel
theorem dX8_feed_19 : decode cX8_feed 19 = .ok (.ireturn, 1) := by decide +kernel
theorem dX8_feed_20 : decode cX8_feed 20 = .ok (.aload_n 0, 1) := by decide +kernel
theorem dX8_feed_21 : decode cX8_feed 21 = .ok (.getfield 78, 3) := by decide +kernel
theorem dX8_feed_24 : decode cX8_feed 24 = .ok (.aload_n 0, 1) := by decide +kernel
theorem dX8_feed_25 : decode cX8_feed 25 = .ok (.getfield 84, 3) := by decide +kernel
theorem dX8_feed_28 : decode cX8_feed 28 = .ok (.iload_n 1, 1) := by decide +kernel
theorem dX8_feed_29 : decode cX8_feed 29 = .ok (.iastore, 1) := by decide +kernel
theorem dX8_feed_30 : decode cX8_feed 30 = .ok (.aload_n 0, 1) := by decide +kernel
theorem dX8_feed_31 : decode cX8_feed 31 = .ok (.dup, 1) := by decide +kernel
theorem dX8_feed_32 : decode cX8_feed 32 = .ok (.getfield 84, 3) := by decide +kernel
theorem dX8_feed_35 : decode cX8_feed 35 = .ok (.iconst 1, 1) := by decide +kernel
theorem dX8_feed_36 : decode cX8_feed 36 = .ok (.iadd, 1) := by decide +kernel
theorem dX8_feed_37 : decode cX8_feed 37 = .ok (.putfield 84, 3) := by decide +kernel
theorem dX8_feed_40 : decode cX8_feed 40 = .ok (.aload_n 0, 1) := by decide +kernel
theorem dX8_feed_41 : decode cX8_feed 41 = .ok (.getfield 84, 3) := by decide +kernel
theorem dX8_feed_44 : decode cX8_feed 44 = .ok (.ireturn, 1) := by decide +kernel
theorem dX8_sign_0 : decode cX8_sign 0 = .ok (.aload_n 0, 1) := by decide +kernel
theorem dX8_sign_1 : decode cX8_sign 1 = .ok (.getfield 90, 3) := by decide +kernel
theorem dX8_sign_4 : decode cX8_sign 4 = .ok (.ifCond .ne 26, 3) := by decide +kernel
theorem dX8_sign_7 : decode cX8_sign 7 = .ok (.aload_n 0, 1) := by decide +kernel
theorem dX8_sign_8 : decode cX8_sign 8 = .ok (.getfield 87, 3) := by decide +kernel
theorem dX8_sign_11 : decode cX8_sign 11 = .ok (.aload_n 0, 1) := by decide +kernel
theorem dX8_sign_12 : decode cX8_sign 12 = .ok (.getfield 84, 3) := by decide +kernel
theorem dX8_sign_15 : decode cX8_sign 15 = .ok (.if_icmp .ge 15, 3) := by decide +kernel
theorem dX8_sign_18 : decode cX8_sign 18 = .ok (.aload_n 0, 1) := by decide +kernel
theorem dX8_sign_19 : decode cX8_sign 19 = .ok (.getfield 78, 3) := by decide +kernel
theorem dX8_sign_22 : decode cX8_sign 22 = .ok (.aload_n 0, 1) := by decide +kernel
theorem dX8_sign_23 : decode cX8_sign 23 = .ok (.getfield 87, 3) := by decide +kernel
theorem dX8_sign_26 : decode cX8_sign 26 = .ok (.iaload, 1) := by decide +kernel
theorem dX8_sign_27 : decode cX8_sign 27 = .ok (.goto 4, 3) := by decide +kernel
theorem dX8_sign_30 : decode cX8_sign 30 = .ok (.iconst (-1), 1) := by decide +kernel
theorem dX8_sign_31 : decode cX8_sign 31 = .ok (.ireturn, 1) := by decide +kernel
theorem dX8_number_0 : decode cX8_number 0 = .ok (.iconst 0, 1) := by decide +kernel
theorem dX8_number_1 : decode cX8_number 1 = .ok (.istore_n 3, 1) := by decide +kernel
theorem dX8_number_2 : decode cX8_number 2 = .ok (.iconst 0, 1) := by decide +kernel
theorem dX8_number_3 : decode cX8_number 3 = .ok (.istore 4, 2) := by decide +kernel
theorem dX8_number_5 : decode cX8_number 5 = .ok (.iload 4, 2) := by decide +kernel
theorem dX8_number_7 : decode cX8_number 7 = .ok (.iload_n 1, 1) := by decide +kernel
theorem dX8_number_8 : decode cX8_number 8 = .ok (.if_icmp .ge 45, 3) := by decide +kernel
theorem dX8_number_11 : decode cX8_number 11 = .ok (.aload_n 0, 1) := by decide +kernel
theorem dX8_number_12 : decode cX8_number 12 = .ok (.invokevirtual 267, 3) := by decide +kernel
theorem dX8_number_15 : decode cX8_number 15 = .ok (.bipush 48, 2) := by decide +kernel
theorem dX8_number_17 : decode cX8_number 17 = .ok (.iload_n 2, 1) := by decide +kernel
theorem dX8_number_18 : decode cX8_number 18 = .ok (.invokestatic 112, 3) := by decide +kernel
theorem dX8_number_21 : decode cX8_number 21 = .ok (.ifCond .eq 32, 3) := by decide +kernel
theorem dX8_number_24 : decode cX8_number 24 = .ok (.bipush 10, 2) := by decide +kernel
theorem dX8_number_26 : decode cX8_number 26 = .ok (.iload_n 3, 1) := by decide +kernel
theorem dX8_number_27 : decode cX8_number 27 = .ok (.imul, 1) := by decide +kernel
theorem dX8_number_28 : decode cX8_number 28 = .ok (.aload_n 0, 1) := by decide +kernel
theorem dX8_number_29 : decode cX8_number 29 = .ok (.invokevirtual 267, 3) := by decide +kernel
theorem dX8_number_32 : decode cX8_number 32 = .ok (.iadd, 1) := by decide +kernel
theorem dX8_number_33 : decode cX8_number 33 = .ok (.bipush 48, 2) := by decide +kernel
theorem dX8_number_35 : decode cX8_number 35 = .ok (.isub, 1) := by decide +kernel
theorem dX8_number_36 : decode cX8_number 36 = .ok (.istore_n 3, 1) := by decide +kernel
theorem dX8_number_37 : decode cX8_number 37 = .ok (.aload_n 0, 1) := by decide +kernel
theorem dX8_number_38 : decode cX8_number 38 = .ok (.dup, 1) := by decide +kernel
theorem dX8_number_39 : decode cX8_number 39 = .ok (.getfield 87, 3) := by decide +kernel
theorem dX8_number_42 : decode cX8_number 42 = .ok (.iconst 1, 1) := by decide +kernel
theorem dX8_number_43 : decode cX8_number 43 = .ok (.iadd, 1) := by decide +kernel
theorem dX8_number_44 : decode cX8_number 44 = .ok (.putfield 87, 3) := by decide +kernel
theorem dX8_number_47 : decode cX8_number 47 = .ok (.iinc 4 1, 3) := by decide +kernel
theorem dX8_number_50 : decode cX8_number 50 = .ok (.goto (-45), 3) := by decide +kernel
theorem dX8_number_53 : decode cX8_number 53 = .ok (.aload_n 0, 1) := by decide +kernel
theorem dX8_number_54 : decode cX8_number 54 = .ok (.dup, 1) := by decide +kernel
theorem dX8_number_55 : decode cX8_number 55 = .ok (.getfield 90, 3) := by decide +kernel
theorem dX8_number_58 : decode cX8_number 58 = .ok (.iload 4, 2) := by decide +kernel
theorem dX8_number_60 : decode cX8_number 60 = .ok (.ifCond .ne 7, 3) := by decide +kernel
theorem dX8_number_63 : decode cX8_number 63 = .ok (.iconst 1, 1) := by decide +kernel
theorem dX8_number_64 : decode cX8_number 64 = .ok (.goto 4, 3) := by decide +kernel
theorem dX8_number_67 : decode cX8_number 67 = .ok (.iconst 0, 1) := by decide +kernel
theorem dX8_number_68 : decode cX8_number 68 = .ok (.ior, 1) := by decide +kernel
theorem dX8_number_69 : decode cX8_number 69 = .ok (.putfield 90, 3) := by decide +kernel
theorem dX8_number_72 : decode cX8_number 72 = .ok (.iload_n 3, 1) := by decide +kernel
theorem dX8_number_73 : decode cX8_number 73 = .ok (.ireturn, 1) := by decide +kernel
theorem dX8_takes_0 : decode cX8_takes 0 = .ok (.aload_n 0, 1) := by decide +kernel
theorem dX8_takes_1 : decode cX8_takes 1 = .ok (.invokevirtual 267, 3) := by decide +kernel
theorem dX8_takes_4 : decode cX8_takes 4 = .ok (.iload_n 1, 1) := by decide +kernel
theorem dX8_takes_5 : decode cX8_takes 5 = .ok (.if_icmp .ne 16, 3) := by decide +kernel
theorem dX8_takes_8 : decode cX8_takes 8 = .ok (.aload_n 0, 1) := by decide +kernel
theorem dX8_takes_9 : decode cX8_takes 9 = .ok (.dup, 1) := by decide +kernel
theorem dX8_takes_10 : decode cX8_takes 10 = .ok (.getfield 87, 3) := by decide +kernel
theorem dX8_takes_13 : decode cX8_takes 13 = .ok (.iconst 1, 1) := by decide +kernel
theorem dX8_takes_14 : decode cX8_takes 14 = .ok (.iadd, 1) := by decide +kernel
theorem dX8_takes_15 : decode cX8_takes 15 = .ok (.putfield 87, 3) := by decide +kernel
theorem dX8_takes_18 : decode cX8_takes 18 = .ok (.goto 8, 3) := by decide +kernel
theorem dX8_takes_21 : decode cX8_takes 21 = .ok (.aload_n 0, 1) := by decide +kernel
theorem dX8_takes_22 : decode cX8_takes 22 = .ok (.iconst 1, 1) := by decide +kernel
theorem dX8_takes_23 : decode cX8_takes 23 = .ok (.putfield 90, 3) := by decide +kernel
theorem dX8_takes_26 : decode cX8_takes 26 = .ok (.return_, 1) := by decide +kernel
theorem dX8_command_0 : decode cX8_command 0 = .ok (.aload_n 0, 1) := by decide +kernel
theorem dX8_command_1 : decode cX8_command 1 = .ok (.invokevirtual 267, 3) := by decide +kernel
theorem dX8_command_4 : decode cX8_command 4 = .ok (.istore_n 1, 1) := by decide +kernel
theorem dX8_command_5 : decode cX8_command 5 = .ok (.aload_n 0, 1) := by decide +kernel
theorem dX8_command_6 : decode cX8_command 6 = .ok (.dup, 1) := by decide +kernel
theorem dX8_command_7 : decode cX8_command 7 = .ok (.getfield 90, 3) := by decide +kernel
theorem dX8_command_10 : decode cX8_command 10 = .ok (.iload_n 1, 1) := by decide +kernel
theorem dX8_command_11 : decode cX8_command 11 = .ok (.bipush 115, 2) := by decide +kernel
theorem dX8_command_13 : decode cX8_command 13 = .ok (.if_icmp .eq 31, 3) := by decide +kernel
theorem dX8_command_16 : decode cX8_command 16 = .ok (.iload_n 1, 1) := by decide +kernel
theorem dX8_command_17 : decode cX8_command 17 = .ok (.bipush 114, 2) := by decide +kernel
theorem dX8_command_19 : decode cX8_command 19 = .ok (.if_icmp .eq 25, 3) := by decide +kernel
theorem dX8_command_22 : decode cX8_command 22 = .ok (.iload_n 1, 1) := by decide +kernel
theorem dX8_command_23 : decode cX8_command 23 = .ok (.bipush 116, 2) := by decide +kernel
theorem dX8_command_25 : decode cX8_command 25 = .ok (.if_icmp .eq 19, 3) := by decide +kernel
theorem dX8_command_28 : decode cX8_command 28 = .ok (.iload_n 1, 1) := by decide +kernel
theorem dX8_command_29 : decode cX8_command 29 = .ok (.bipush 99, 2) := by decide +kernel
theorem dX8_command_31 : decode cX8_command 31 = .ok (.if_icmp .eq 13, 3) := by decide +kernel
theorem dX8_command_34 : decode cX8_command 34 = .ok (.iload_n 1, 1) := by decide +kernel
theorem dX8_command_35 : decode cX8_command 35 = .ok (.bipush 111, 2) := by decide +kernel
theorem dX8_command_37 : decode cX8_command 37 = .ok (.if_icmp .eq 7, 3) := by decide +kernel
theorem dX8_command_40 : decode cX8_command 40 = .ok (.iconst 1, 1) := by decide +kernel
theorem dX8_command_41 : decode cX8_command 41 = .ok (.goto 4, 3) := by decide +kernel
theorem dX8_command_44 : decode cX8_command 44 = .ok (.iconst 0, 1) := by decide +kernel
theorem dX8_command_45 : decode cX8_command 45 = .ok (.ior, 1) := by decide +kernel
theorem dX8_command_46 : decode cX8_command 46 = .ok (.putfield 90, 3) := by decide +kernel
theorem dX8_command_49 : decode cX8_command 49 = .ok (.aload_n 0, 1) := by decide +kernel
theorem dX8_command_50 : decode cX8_command 50 = .ok (.getfield 90, 3) := by decide +kernel
theorem dX8_command_53 : decode cX8_command 53 = .ok (.ifCond .eq 5, 3) := by decide +kernel
theorem dX8_command_56 : decode cX8_command 56 = .ok (.iconst (-1), 1) := by decide +kernel
theorem dX8_command_57 : decode cX8_command 57 = .ok (.ireturn, 1) := by decide +kernel
theorem dX8_command_58 : decode cX8_command 58 = .ok (.aload_n 0, 1) := by decide +kernel
theorem dX8_command_59 : decode cX8_command 59 = .ok (.dup, 1) := by decide +kernel
theorem dX8_command_60 : decode cX8_command 60 = .ok (.getfield 87, 3) := by decide +kernel
theorem dX8_command_63 : decode cX8_command 63 = .ok (.iconst 1, 1) := by decide +kernel
theorem dX8_command_64 : decode cX8_command 64 = .ok (.iadd, 1) := by decide +kernel
theorem dX8_command_65 : decode cX8_command 65 = .ok (.putfield 87, 3) := by decide +kernel
theorem dX8_command_68 : decode cX8_command 68 = .ok (.iload_n 1, 1) := by decide +kernel
theorem dX8_command_69 : decode cX8_command 69 = .ok (.bipush 115, 2) := by decide +kernel
theorem dX8_command_71 : decode cX8_command 71 = .ok (.if_icmp .ne 22, 3) := by decide +kernel
theorem dX8_command_74 : decode cX8_command 74 = .ok (.aload_n 0, 1) := by decide +kernel
theorem dX8_command_75 : decode cX8_command 75 = .ok (.getfield 81, 3) := by decide +kernel
theorem dX8_command_78 : decode cX8_command 78 = .ok (.iconst 1, 1) := by decide +kernel
theorem dX8_command_79 : decode cX8_command 79 = .ok (.aload_n 0, 1) := by decide +kernel
theorem dX8_command_80 : decode cX8_command 80 = .ok (.iconst 1, 1) := by decide +kernel
theorem dX8_command_81 : decode cX8_command 81 = .ok (.bipush 49, 2) := by decide +kernel
theorem dX8_command_83 : decode cX8_command 83 = .ok (.invokevirtual 270, 3) := by decide +kernel
theorem dX8_command_86 : decode cX8_command 86 = .ok (.iastore, 1) := by decide +kernel
theorem dX8_command_87 : decode cX8_command 87 = .ok (.aload_n 0, 1) := by decide +kernel
theorem dX8_command_88 : decode cX8_command 88 = .ok (.bipush 44, 2) := by decide +kernel
theorem dX8_command_90 : decode cX8_command 90 = .ok (.invokevirtual 273, 3) := by decide +kernel
theorem dX8_command_93 : decode cX8_command 93 = .ok (.aload_n 0, 1) := by decide +kernel
theorem dX8_command_94 : decode cX8_command 94 = .ok (.getfield 81, 3) := by decide +kernel
theorem dX8_command_97 : decode cX8_command 97 = .ok (.iconst 0, 1) := by decide +kernel
theorem dX8_command_98 : decode cX8_command 98 = .ok (.aload_n 0, 1) := by decide +kernel
theorem dX8_command_99 : decode cX8_command 99 = .ok (.getfield 90, 3) := by decide +kernel
theorem dX8_command_102 : decode cX8_command 102 = .ok (.ifCond .eq 7, 3) := by decide +kernel
theorem dX8_command_105 : decode cX8_command 105 = .ok (.iconst 0, 1) := by decide +kernel
theorem dX8_command_106 : decode cX8_command 106 = .ok (.goto 10, 3) := by decide +kernel
theorem dX8_command_109 : decode cX8_command 109 = .ok (.aload_n 0, 1) := by decide +kernel
theorem dX8_command_110 : decode cX8_command 110 = .ok (.iconst 4, 1) := by decide +kernel
theorem dX8_command_111 : decode cX8_command 111 = .ok (.bipush 57, 2) := by decide +kernel
theorem dX8_command_113 : decode cX8_command 113 = .ok (.invokevirtual 270, 3) := by decide +kernel
theorem dX8_command_116 : decode cX8_command 116 = .ok (.iastore, 1) := by decide +kernel
theorem dX8_command_117 : decode cX8_command 117 = .ok (.aload_n 0, 1) := by decide +kernel
theorem dX8_command_118 : decode cX8_command 118 = .ok (.bipush 59, 2) := by decide +kernel
theorem dX8_command_120 : decode cX8_command 120 = .ok (.invokevirtual 273, 3) := by decide +kernel
theorem dX8_command_123 : decode cX8_command 123 = .ok (.iload_n 1, 1) := by decide +kernel
theorem dX8_command_124 : decode cX8_command 124 = .ok (.ireturn, 1) := by decide +kernel
theorem dX8_carriesOut_0 : decode cX8_carriesOut 0 = .ok (.iload_n 1, 1) := by decide +kernel
theorem dX8_carriesOut_1 : decode cX8_carriesOut 1 = .ok (.tableswitch 66 114 116 #[44, 27, 55], 27) := by decide +kernel
theorem dX8_carriesOut_28 : decode cX8_carriesOut 28 = .ok (.aload_n 0, 1) := by decide +kernel
theorem dX8_carriesOut_29 : decode cX8_carriesOut 29 = .ok (.aload_n 0, 1) := by decide +kernel
theorem dX8_carriesOut_30 : decode cX8_carriesOut 30 = .ok (.getfield 81, 3) := by decide +kernel
theorem dX8_carriesOut_33 : decode cX8_carriesOut 33 = .ok (.iconst 1, 1) := by decide +kernel
theorem dX8_carriesOut_34 : decode cX8_carriesOut 34 = .ok (.iaload, 1) := by decide +kernel
theorem dX8_carriesOut_35 : decode cX8_carriesOut 35 = .ok (.aload_n 0, 1) := by decide +kernel
theorem dX8_carriesOut_36 : decode cX8_carriesOut 36 = .ok (.getfield 81, 3) := by decide +kernel
theorem dX8_carriesOut_39 : decode cX8_carriesOut 39 = .ok (.iconst 0, 1) := by decide +kernel
theorem dX8_carriesOut_40 : decode cX8_carriesOut 40 = .ok (.iaload, 1) := by decide +kernel
theorem dX8_carriesOut_41 : decode cX8_carriesOut 41 = .ok (.invokevirtual 191, 3) := by decide +kernel
theorem dX8_carriesOut_44 : decode cX8_carriesOut 44 = .ok (.ireturn, 1) := by decide +kernel
theorem dX8_carriesOut_45 : decode cX8_carriesOut 45 = .ok (.aload_n 0, 1) := by decide +kernel
theorem dX8_carriesOut_46 : decode cX8_carriesOut 46 = .ok (.aload_n 0, 1) := by decide +kernel
theorem dX8_carriesOut_47 : decode cX8_carriesOut 47 = .ok (.getfield 81, 3) := by decide +kernel
theorem dX8_carriesOut_50 : decode cX8_carriesOut 50 = .ok (.iconst 0, 1) := by decide +kernel
theorem dX8_carriesOut_51 : decode cX8_carriesOut 51 = .ok (.iaload, 1) := by decide +kernel
theorem dX8_carriesOut_52 : decode cX8_carriesOut 52 = .ok (.invokevirtual 217, 3) := by decide +kernel
theorem dX8_carriesOut_55 : decode cX8_carriesOut 55 = .ok (.ireturn, 1) := by decide +kernel
theorem dX8_carriesOut_56 : decode cX8_carriesOut 56 = .ok (.aload_n 0, 1) := by decide +kernel
theorem dX8_carriesOut_57 : decode cX8_carriesOut 57 = .ok (.aload_n 0, 1) := by decide +kernel
theorem dX8_carriesOut_58 : decode cX8_carriesOut 58 = .ok (.getfield 81, 3) := by decide +kernel
theorem dX8_carriesOut_61 : decode cX8_carriesOut 61 = .ok (.iconst 0, 1) := by decide +kernel
theorem dX8_carriesOut_62 : decode cX8_carriesOut 62 = .ok (.iaload, 1) := by decide +kernel
theorem dX8_carriesOut_63 : decode cX8_carriesOut 63 = .ok (.invokevirtual 264, 3) := by decide +kernel
theorem dX8_carriesOut_66 : decode cX8_carriesOut 66 = .ok (.ireturn, 1) := by decide +kernel
theorem dX8_carriesOut_67 : decode cX8_carriesOut 67 = .ok (.aload_n 0, 1) := by decide +kernel
theorem dX8_carriesOut_68 : decode cX8_carriesOut 68 = .ok (.aload_n 0, 1) := by decide +kernel
theorem dX8_carriesOut_69 : decode cX8_carriesOut 69 = .ok (.getfield 81, 3) := by decide +kernel
theorem dX8_carriesOut_72 : decode cX8_carriesOut 72 = .ok (.iconst 0, 1) := by decide +kernel
theorem dX8_carriesOut_73 : decode cX8_carriesOut 73 = .ok (.iaload, 1) := by decide +kernel
theorem dX8_carriesOut_74 : decode cX8_carriesOut 74 = .ok (.iload_n 1, 1) := by decide +kernel
theorem dX8_carriesOut_75 : decode cX8_carriesOut 75 = .ok (.bipush 99, 2) := by decide +kernel
theorem dX8_carriesOut_77 : decode cX8_carriesOut 77 = .ok (.if_icmp .ne 7, 3) := by decide +kernel
theorem dX8_carriesOut_80 : decode cX8_carriesOut 80 = .ok (.iconst 1, 1) := by decide +kernel
theorem dX8_carriesOut_81 : decode cX8_carriesOut 81 = .ok (.goto 4, 3) := by decide +kernel
theorem dX8_carriesOut_84 : decode cX8_carriesOut 84 = .ok (.iconst 0, 1) := by decide +kernel
theorem dX8_carriesOut_85 : decode cX8_carriesOut 85 = .ok (.invokevirtual 226, 3) := by decide +kernel
theorem dX8_carriesOut_88 : decode cX8_carriesOut 88 = .ok (.ireturn, 1) := by decide +kernel
theorem dX8_perform_0 : decode cX8_perform 0 = .ok (.aload_n 0, 1) := by decide +kernel
theorem dX8_perform_1 : decode cX8_perform 1 = .ok (.invokevirtual 188, 3) := by decide +kernel
theorem dX8_perform_4 : decode cX8_perform 4 = .ok (.aload_n 0, 1) := by decide +kernel
theorem dX8_perform_5 : decode cX8_perform 5 = .ok (.iconst 0, 1) := by decide +kernel
theorem dX8_perform_6 : decode cX8_perform 6 = .ok (.putfield 87, 3) := by decide +kernel
theorem dX8_perform_9 : decode cX8_perform 9 = .ok (.aload_n 0, 1) := by decide +kernel
theorem dX8_perform_10 : decode cX8_perform 10 = .ok (.iconst 0, 1) := by decide +kernel
theorem dX8_perform_11 : decode cX8_perform 11 = .ok (.putfield 90, 3) := by decide +kernel
theorem dX8_perform_14 : decode cX8_perform 14 = .ok (.aload_n 0, 1) := by decide +kernel
theorem dX8_perform_15 : decode cX8_perform 15 = .ok (.invokevirtual 276, 3) := by decide +kernel
theorem dX8_perform_18 : decode cX8_perform 18 = .ok (.istore_n 1, 1) := by decide +kernel
theorem dX8_perform_19 : decode cX8_perform 19 = .ok (.aload_n 0, 1) := by decide +kernel
theorem dX8_perform_20 : decode cX8_perform 20 = .ok (.getfield 90, 3) := by decide +kernel
theorem dX8_perform_23 : decode cX8_perform 23 = .ok (.ifCond .ne 22, 3) := by decide +kernel
theorem dX8_perform_26 : decode cX8_perform 26 = .ok (.aload_n 0, 1) := by decide +kernel
theorem dX8_perform_27 : decode cX8_perform 27 = .ok (.getfield 87, 3) := by decide +kernel
theorem dX8_perform_30 : decode cX8_perform 30 = .ok (.aload_n 0, 1) := by decide +kernel
theorem dX8_perform_31 : decode cX8_perform 31 = .ok (.getfield 84, 3) := by decide +kernel
theorem dX8_perform_34 : decode cX8_perform 34 = .ok (.if_icmp .ge 11, 3) := by decide +kernel
theorem dX8_perform_37 : decode cX8_perform 37 = .ok (.aload_n 0, 1) := by decide +kernel
theorem dX8_perform_38 : decode cX8_perform 38 = .ok (.invokevirtual 276, 3) := by decide +kernel
theorem dX8_perform_41 : decode cX8_perform 41 = .ok (.istore_n 1, 1) := by decide +kernel
theorem dX8_perform_42 : decode cX8_perform 42 = .ok (.goto (-23), 3) := by decide +kernel
theorem dX8_perform_45 : decode cX8_perform 45 = .ok (.aload_n 0, 1) := by decide +kernel
theorem dX8_perform_46 : decode cX8_perform 46 = .ok (.getfield 90, 3) := by decide +kernel
theorem dX8_perform_49 : decode cX8_perform 49 = .ok (.ifCond .eq 16, 3) := by decide +kernel
theorem dX8_perform_52 : decode cX8_perform 52 = .ok (.aload_n 0, 1) := by decide +kernel
theorem dX8_perform_53 : decode cX8_perform 53 = .ok (.iconst 0, 1) := by decide +kernel
theorem dX8_perform_54 : decode cX8_perform 54 = .ok (.putfield 84, 3) := by decide +kernel
theorem dX8_perform_57 : decode cX8_perform 57 = .ok (.bipush (-100), 2) := by decide +kernel
theorem dX8_perform_59 : decode cX8_perform 59 = .ok (.aload_n 0, 1) := by decide +kernel
theorem dX8_perform_60 : decode cX8_perform 60 = .ok (.getfield 87, 3) := by decide +kernel
theorem dX8_perform_63 : decode cX8_perform 63 = .ok (.isub, 1) := by decide +kernel
theorem dX8_perform_64 : decode cX8_perform 64 = .ok (.ireturn, 1) := by decide +kernel
theorem dX8_perform_65 : decode cX8_perform 65 = .ok (.aload_n 0, 1) := by decide +kernel
theorem dX8_perform_66 : decode cX8_perform 66 = .ok (.iconst 0, 1) := by decide +kernel
theorem dX8_perform_67 : decode cX8_perform 67 = .ok (.putfield 87, 3) := by decide +kernel
theorem dX8_perform_70 : decode cX8_perform 70 = .ok (.iconst 0, 1) := by decide +kernel
theorem dX8_perform_71 : decode cX8_perform 71 = .ok (.istore_n 2, 1) := by decide +kernel
theorem dX8_perform_72 : decode cX8_perform 72 = .ok (.aload_n 0, 1) := by decide +kernel
theorem dX8_perform_73 : decode cX8_perform 73 = .ok (.getfield 87, 3) := by decide +kernel
theorem dX8_perform_76 : decode cX8_perform 76 = .ok (.aload_n 0, 1) := by decide +kernel
theorem dX8_perform_77 : decode cX8_perform 77 = .ok (.getfield 84, 3) := by decide +kernel
theorem dX8_perform_80 : decode cX8_perform 80 = .ok (.if_icmp .ge 51, 3) := by decide +kernel
theorem dX8_perform_83 : decode cX8_perform 83 = .ok (.aload_n 0, 1) := by decide +kernel
theorem dX8_perform_84 : decode cX8_perform 84 = .ok (.invokevirtual 276, 3) := by decide +kernel
theorem dX8_perform_87 : decode cX8_perform 87 = .ok (.istore_n 1, 1) := by decide +kernel
theorem dX8_perform_88 : decode cX8_perform 88 = .ok (.aload_n 0, 1) := by decide +kernel
theorem dX8_perform_89 : decode cX8_perform 89 = .ok (.iload_n 1, 1) := by decide +kernel
theorem dX8_perform_90 : decode cX8_perform 90 = .ok (.invokevirtual 279, 3) := by decide +kernel
theorem dX8_perform_93 : decode cX8_perform 93 = .ok (.istore_n 3, 1) := by decide +kernel
theorem dX8_perform_94 : decode cX8_perform 94 = .ok (.aload_n 0, 1) := by decide +kernel
theorem dX8_perform_95 : decode cX8_perform 95 = .ok (.getfield 3, 3) := by decide +kernel
theorem dX8_perform_98 : decode cX8_perform 98 = .ok (.ifCond .eq 27, 3) := by decide +kernel
theorem dX8_perform_101 : decode cX8_perform 101 = .ok (.aload_n 0, 1) := by decide +kernel
theorem dX8_perform_102 : decode cX8_perform 102 = .ok (.getfield 17, 3) := by decide +kernel
theorem dX8_perform_105 : decode cX8_perform 105 = .ok (.iconst 0, 1) := by decide +kernel
theorem dX8_perform_106 : decode cX8_perform 106 = .ok (.aload_n 0, 1) := by decide +kernel
theorem dX8_perform_107 : decode cX8_perform 107 = .ok (.getfield 13, 3) := by decide +kernel
theorem dX8_perform_110 : decode cX8_perform 110 = .ok (.iconst 0, 1) := by decide +kernel
theorem dX8_perform_111 : decode cX8_perform 111 = .ok (.invokestatic 93, 3) := by decide +kernel
theorem dX8_perform_114 : decode cX8_perform 114 = .ok (.aload_n 0, 1) := by decide +kernel
theorem dX8_perform_115 : decode cX8_perform 115 = .ok (.iconst 0, 1) := by decide +kernel
theorem dX8_perform_116 : decode cX8_perform 116 = .ok (.putfield 84, 3) := by decide +kernel
theorem dX8_perform_119 : decode cX8_perform 119 = .ok (.aload_n 0, 1) := by decide +kernel
theorem dX8_perform_120 : decode cX8_perform 120 = .ok (.iconst 1, 1) := by decide +kernel
theorem dX8_perform_121 : decode cX8_perform 121 = .ok (.invokevirtual 177, 3) := by decide +kernel
theorem dX8_perform_124 : decode cX8_perform 124 = .ok (.ireturn, 1) := by decide +kernel
theorem dX8_perform_125 : decode cX8_perform 125 = .ok (.iinc 2 1, 3) := by decide +kernel
theorem dX8_perform_128 : decode cX8_perform 128 = .ok (.goto (-56), 3) := by decide +kernel
theorem dX8_perform_131 : decode cX8_perform 131 = .ok (.aload_n 0, 1) := by decide +kernel
theorem dX8_perform_132 : decode cX8_perform 132 = .ok (.iconst 0, 1) := by decide +kernel
theorem dX8_perform_133 : decode cX8_perform 133 = .ok (.putfield 84, 3) := by decide +kernel
theorem dX8_perform_136 : decode cX8_perform 136 = .ok (.aload_n 0, 1) := by decide +kernel
theorem dX8_perform_137 : decode cX8_perform 137 = .ok (.iload_n 2, 1) := by decide +kernel
theorem dX8_perform_138 : decode cX8_perform 138 = .ok (.invokevirtual 194, 3) := by decide +kernel
theorem dX8_perform_141 : decode cX8_perform 141 = .ok (.ireturn, 1) := by decide +kernel
theorem dX8_stored_0 : decode cX8_stored 0 = .ok (.aload_n 0, 1) := by decide +kernel
theorem dX8_stored_1 : decode cX8_stored 1 = .ok (.getfield 13, 3) := by decide +kernel
theorem dX8_stored_4 : decode cX8_stored 4 = .ok (.iconst 1, 1) := by decide +kernel
theorem dX8_stored_5 : decode cX8_stored 5 = .ok (.iaload, 1) := by decide +kernel
theorem dX8_stored_6 : decode cX8_stored 6 = .ok (.aload_n 0, 1) := by decide +kernel
theorem dX8_stored_7 : decode cX8_stored 7 = .ok (.getfield 13, 3) := by decide +kernel
theorem dX8_stored_10 : decode cX8_stored 10 = .ok (.iconst 2, 1) := by decide +kernel
theorem dX8_stored_11 : decode cX8_stored 11 = .ok (.iaload, 1) := by decide +kernel
theorem dX8_stored_12 : decode cX8_stored 12 = .ok (.isub, 1) := by decide +kernel
theorem dX8_stored_13 : decode cX8_stored 13 = .ok (.ireturn, 1) := by decide +kernel
theorem dX8_undo_0 : decode cX8_undo 0 = .ok (.aload_n 0, 1) := by decide +kernel
theorem dX8_undo_1 : decode cX8_undo 1 = .ok (.iconst 0, 1) := by decide +kernel
theorem dX8_undo_2 : decode cX8_undo 2 = .ok (.putfield 3, 3) := by decide +kernel
theorem dX8_undo_5 : decode cX8_undo 5 = .ok (.aload_n 0, 1) := by decide +kernel
theorem dX8_undo_6 : decode cX8_undo 6 = .ok (.getfield 29, 3) := by decide +kernel
theorem dX8_undo_9 : decode cX8_undo 9 = .ok (.ifCond .ne 9, 3) := by decide +kernel
theorem dX8_undo_12 : decode cX8_undo 12 = .ok (.aload_n 0, 1) := by decide +kernel
theorem dX8_undo_13 : decode cX8_undo 13 = .ok (.iconst 1, 1) := by decide +kernel
theorem dX8_undo_14 : decode cX8_undo 14 = .ok (.invokevirtual 177, 3) := by decide +kernel
theorem dX8_undo_17 : decode cX8_undo 17 = .ok (.ireturn, 1) := by decide +kernel
theorem dX8_undo_18 : decode cX8_undo 18 = .ok (.aload_n 0, 1) := by decide +kernel
theorem dX8_undo_19 : decode cX8_undo 19 = .ok (.dup, 1) := by decide +kernel
theorem dX8_undo_20 : decode cX8_undo 20 = .ok (.getfield 29, 3) := by decide +kernel
theorem dX8_undo_23 : decode cX8_undo 23 = .ok (.iconst 1, 1) := by decide +kernel
theorem dX8_undo_24 : decode cX8_undo 24 = .ok (.isub, 1) := by decide +kernel
theorem dX8_undo_25 : decode cX8_undo 25 = .ok (.putfield 29, 3) := by decide +kernel
theorem dX8_undo_28 : decode cX8_undo 28 = .ok (.aload_n 0, 1) := by decide +kernel
theorem dX8_undo_29 : decode cX8_undo 29 = .ok (.getfield 26, 3) := by decide +kernel
theorem dX8_undo_32 : decode cX8_undo 32 = .ok (.sipush 399, 3) := by decide +kernel
theorem dX8_undo_35 : decode cX8_undo 35 = .ok (.aload_n 0, 1) := by decide +kernel
theorem dX8_undo_36 : decode cX8_undo 36 = .ok (.getfield 29, 3) := by decide +kernel
theorem dX8_undo_39 : decode cX8_undo 39 = .ok (.imul, 1) := by decide +kernel
theorem dX8_undo_40 : decode cX8_undo 40 = .ok (.aload_n 0, 1) := by decide +kernel
theorem dX8_undo_41 : decode cX8_undo 41 = .ok (.getfield 13, 3) := by decide +kernel
theorem dX8_undo_44 : decode cX8_undo 44 = .ok (.iconst 0, 1) := by decide +kernel
theorem dX8_undo_45 : decode cX8_undo 45 = .ok (.invokestatic 93, 3) := by decide +kernel
theorem dX8_undo_48 : decode cX8_undo 48 = .ok (.aload_n 0, 1) := by decide +kernel
theorem dX8_undo_49 : decode cX8_undo 49 = .ok (.getfield 29, 3) := by decide +kernel
theorem dX8_undo_52 : decode cX8_undo 52 = .ok (.ireturn, 1) := by decide +kernel
theorem dX8_save_0 : decode cX8_save 0 = .ok (.aload_n 0, 1) := by decide +kernel
theorem dX8_save_1 : decode cX8_save 1 = .ok (.getfield 13, 3) := by decide +kernel
theorem dX8_save_4 : decode cX8_save 4 = .ok (.iconst 0, 1) := by decide +kernel
theorem dX8_save_5 : decode cX8_save 5 = .ok (.aload_n 0, 1) := by decide +kernel
theorem dX8_save_6 : decode cX8_save 6 = .ok (.getfield 23, 3) := by decide +kernel
theorem dX8_save_9 : decode cX8_save 9 = .ok (.iconst 0, 1) := by decide +kernel
theorem dX8_save_10 : decode cX8_save 10 = .ok (.invokestatic 93, 3) := by decide +kernel
theorem dX8_save_13 : decode cX8_save 13 = .ok (.aload_n 0, 1) := by decide +kernel
theorem dX8_save_14 : decode cX8_save 14 = .ok (.iconst 1, 1) := by decide +kernel
theorem dX8_save_15 : decode cX8_save 15 = .ok (.putfield 32, 3) := by decide +kernel
theorem dX8_save_18 : decode cX8_save 18 = .ok (.aload_n 0, 1) := by decide +kernel
theorem dX8_save_19 : decode cX8_save 19 = .ok (.invokevirtual 282, 3) := by decide +kernel
theorem dX8_save_22 : decode cX8_save 22 = .ok (.ireturn, 1) := by decide +kernel
theorem dX8_restore_0 : decode cX8_restore 0 = .ok (.aload_n 0, 1) := by decide +kernel
theorem dX8_restore_1 : decode cX8_restore 1 = .ok (.iconst 0, 1) := by decide +kernel
theorem dX8_restore_2 : decode cX8_restore 2 = .ok (.putfield 3, 3) := by decide +kernel
theorem dX8_restore_5 : decode cX8_restore 5 = .ok (.aload_n 0, 1) := by decide +kernel
theorem dX8_restore_6 : decode cX8_restore 6 = .ok (.getfield 32, 3) := by decide +kernel
theorem dX8_restore_9 : decode cX8_restore 9 = .ok (.ifCond .ne 9, 3) := by decide +kernel
theorem dX8_restore_12 : decode cX8_restore 12 = .ok (.aload_n 0, 1) := by decide +kernel
theorem dX8_restore_13 : decode cX8_restore 13 = .ok (.iconst 1, 1) := by decide +kernel
theorem dX8_restore_14 : decode cX8_restore 14 = .ok (.invokevirtual 177, 3) := by decide +kernel
theorem dX8_restore_17 : decode cX8_restore 17 = .ok (.ireturn, 1) := by decide +kernel
theorem dX8_restore_18 : decode cX8_restore 18 = .ok (.aload_n 0, 1) := by decide +kernel
theorem dX8_restore_19 : decode cX8_restore 19 = .ok (.getfield 23, 3) := by decide +kernel
theorem dX8_restore_22 : decode cX8_restore 22 = .ok (.iconst 0, 1) := by decide +kernel
theorem dX8_restore_23 : decode cX8_restore 23 = .ok (.aload_n 0, 1) := by decide +kernel
theorem dX8_restore_24 : decode cX8_restore 24 = .ok (.getfield 13, 3) := by decide +kernel
theorem dX8_restore_27 : decode cX8_restore 27 = .ok (.iconst 0, 1) := by decide +kernel
theorem dX8_restore_28 : decode cX8_restore 28 = .ok (.invokestatic 93, 3) := by decide +kernel
theorem dX8_restore_31 : decode cX8_restore 31 = .ok (.aload_n 0, 1) := by decide +kernel
theorem dX8_restore_32 : decode cX8_restore 32 = .ok (.iconst 0, 1) := by decide +kernel
theorem dX8_restore_33 : decode cX8_restore 33 = .ok (.putfield 29, 3) := by decide +kernel
theorem dX8_restore_36 : decode cX8_restore 36 = .ok (.aload_n 0, 1) := by decide +kernel
theorem dX8_restore_37 : decode cX8_restore 37 = .ok (.invokevirtual 282, 3) := by decide +kernel
theorem dX8_restore_40 : decode cX8_restore 40 = .ok (.ireturn, 1) := by decide +kernel
