theorem dX7_init_0 : decode cX7_init 0 = .ok (.aload_n 0, 1) := by decide +kernel
theorem dX7_init_1 : decode cX7_init 1 = .ok (.invokespecial 1, 3) := by decide +kernel
theorem dX7_init_4 : decode cX7_init 4 = .ok (.aload_n 0, 1) := by decide +kernel
theorem dX7_init_5 : decode cX7_init 5 = .ok (.bipush 40, 2) := by decide +kernel
theorem dX7_init_7 : decode cX7_init 7 = .ok (.newarray .int, 2) := by decide +kernel
theorem dX7_init_9 : decode cX7_init 9 = .ok (.putfield 9, 3) := by decide +kernel
theorem dX7_init_12 : decode cX7_init 12 = .ok (.aload_n 0, 1) := by decide +kernel
theorem dX7_init_13 : decode cX7_init 13 = .ok (.sipush 2560, 3) := by decide +kernel
theorem dX7_init_16 : decode cX7_init 16 = .ok (.newarray .long, 2) := by decide +kernel
theorem dX7_init_18 : decode cX7_init 18 = .ok (.putfield 13, 3) := by decide +kernel
theorem dX7_init_21 : decode cX7_init 21 = .ok (.aload_n 0, 1) := by decide +kernel
theorem dX7_init_22 : decode cX7_init 22 = .ok (.sipush 2560, 3) := by decide +kernel
theorem dX7_init_25 : decode cX7_init 25 = .ok (.newarray .int, 2) := by decide +kernel
theorem dX7_init_27 : decode cX7_init 27 = .ok (.putfield 17, 3) := by decide +kernel
theorem dX7_init_30 : decode cX7_init 30 = .ok (.aload_n 0, 1) := by decide +kernel
theorem dX7_init_31 : decode cX7_init 31 = .ok (.sipush 2560, 3) := by decide +kernel
theorem dX7_init_34 : decode cX7_init 34 = .ok (.newarray .int, 2) := by decide +kernel
theorem dX7_init_36 : decode cX7_init 36 = .ok (.putfield 20, 3) := by decide +kernel
theorem dX7_init_39 : decode cX7_init 39 = .ok (.aload_n 0, 1) := by decide +kernel
theorem dX7_init_40 : decode cX7_init 40 = .ok (.bipush 8, 2) := by decide +kernel
theorem dX7_init_42 : decode cX7_init 42 = .ok (.newarray .int, 2) := by decide +kernel
theorem dX7_init_44 : decode cX7_init 44 = .ok (.putfield 23, 3) := by decide +kernel
theorem dX7_init_47 : decode cX7_init 47 = .ok (.aload_n 0, 1) := by decide +kernel
theorem dX7_init_48 : decode cX7_init 48 = .ok (.bipush 8, 2) := by decide +kernel
theorem dX7_init_50 : decode cX7_init 50 = .ok (.newarray .long, 2) := by decide +kernel
theorem dX7_init_52 : decode cX7_init 52 = .ok (.putfield 26, 3) := by decide +kernel
theorem dX7_init_55 : decode cX7_init 55 = .ok (.aload_n 0, 1) := by decide +kernel
theorem dX7_init_56 : decode cX7_init 56 = .ok (.bipush 100, 2) := by decide +kernel
theorem dX7_init_58 : decode cX7_init 58 = .ok (.newarray .int, 2) := by decide +kernel
theorem dX7_init_60 : decode cX7_init 60 = .ok (.putfield 29, 3) := by decide +kernel
theorem dX7_init_63 : decode cX7_init 63 = .ok (.aload_n 0, 1) := by decide +kernel
theorem dX7_init_64 : decode cX7_init 64 = .ok (.bipush 100, 2) := by decide +kernel
theorem dX7_init_66 : decode cX7_init 66 = .ok (.newarray .boolean, 2) := by decide +kernel
theorem dX7_init_68 : decode cX7_init 68 = .ok (.putfield 32, 3) := by decide +kernel
theorem dX7_init_71 : decode cX7_init 71 = .ok (.aload_n 0, 1) := by decide +kernel
theorem dX7_init_72 : decode cX7_init 72 = .ok (.bipush 100, 2) := by decide +kernel
theorem dX7_init_74 : decode cX7_init 74 = .ok (.newarray .int, 2) := by decide +kernel
theorem dX7_init_76 : decode cX7_init 76 = .ok (.putfield 36, 3) := by decide +kernel
theorem dX7_init_79 : decode cX7_init 79 = .ok (.aload_n 0, 1) := by decide +kernel
theorem dX7_init_80 : decode cX7_init 80 = .ok (.bipush 100, 2) := by decide +kernel
theorem dX7_init_82 : decode cX7_init 82 = .ok (.newarray .int, 2) := by decide +kernel
theorem dX7_init_84 : decode cX7_init 84 = .ok (.putfield 39, 3) := by decide +kernel
theorem dX7_init_87 : decode cX7_init 87 = .ok (.aload_n 0, 1) := by decide +kernel
theorem dX7_init_88 : decode cX7_init 88 = .ok (.bipush 100, 2) := by decide +kernel
theorem dX7_init_90 : decode cX7_init 90 = .ok (.newarray .int, 2) := by decide +kernel
theorem dX7_init_92 : decode cX7_init 92 = .ok (.putfield 42, 3) := by decide +kernel
theorem dX7_init_95 : decode cX7_init 95 = .ok (.aload_n 0, 1) := by decide +kernel
theorem dX7_init_96 : decode cX7_init 96 = .ok (.iconst 4, 1) := by decide +kernel
theorem dX7_init_97 : decode cX7_init 97 = .ok (.newarray .int, 2) := by decide +kernel
theorem dX7_init_99 : decode cX7_init 99 = .ok (.putfield 45, 3) := by decide +kernel
theorem dX7_init_102 : decode cX7_init 102 = .ok (.aload_n 0, 1) := by decide +kernel
theorem dX7_init_103 : decode cX7_init 103 = .ok (.bipush 10, 2) := by decide +kernel
theorem dX7_init_105 : decode cX7_init 105 = .ok (.newarray .int, 2) := by decide +kernel
theorem dX7_init_107 : decode cX7_init 107 = .ok (.putfield 48, 3) := by decide +kernel
theorem dX7_init_110 : decode cX7_init 110 = .ok (.aload_n 0, 1) := by decide +kernel
theorem dX7_init_111 : decode cX7_init 111 = .ok (.bipush 40, 2) := by decide +kernel
theorem dX7_init_113 : decode cX7_init 113 = .ok (.newarray .int, 2) := by decide +kernel
theorem dX7_init_115 : decode cX7_init 115 = .ok (.putfield 51, 3) := by decide +kernel
theorem dX7_init_118 : decode cX7_init 118 = .ok (.aload_n 0, 1) := by decide +kernel
theorem dX7_init_119 : decode cX7_init 119 = .ok (.sipush 2560, 3) := by decide +kernel
theorem dX7_init_122 : decode cX7_init 122 = .ok (.newarray .long, 2) := by decide +kernel
theorem dX7_init_124 : decode cX7_init 124 = .ok (.putfield 54, 3) := by decide +kernel
theorem dX7_init_127 : decode cX7_init 127 = .ok (.aload_n 0, 1) := by decide +kernel
theorem dX7_init_128 : decode cX7_init 128 = .ok (.sipush 2560, 3) := by decide +kernel
theorem dX7_init_131 : decode cX7_init 131 = .ok (.newarray .int, 2) := by decide +kernel
theorem dX7_init_133 : decode cX7_init 133 = .ok (.putfield 57, 3) := by decide +kernel
theorem dX7_init_136 : decode cX7_init 136 = .ok (.aload_n 0, 1) := by decide +kernel
theorem dX7_init_137 : decode cX7_init 137 = .ok (.sipush 2560, 3) := by decide +kernel
theorem dX7_init_140 : decode cX7_init 140 = .ok (.newarray .int, 2) := by decide +kernel
theorem dX7_init_142 : decode cX7_init 142 = .ok (.putfield 60, 3) := by decide +kernel
theorem dX7_init_145 : decode cX7_init 145 = .ok (.aload_n 0, 1) := by decide +kernel
theorem dX7_init_146 : decode cX7_init 146 = .ok (.bipush 8, 2) := by decide +kernel
theorem dX7_init_148 : decode cX7_init 148 = .ok (.newarray .int, 2) := by decide +kernel
theorem dX7_init_150 : decode cX7_init 150 = .ok (.putfield 63, 3) := by decide +kernel
theorem dX7_init_153 : decode cX7_init 153 = .ok (.aload_n 0, 1) := by decide +kernel
theorem dX7_init_154 : decode cX7_init 154 = .ok (.bipush 8, 2) := by decide +kernel
theorem dX7_init_156 : decode cX7_init 156 = .ok (.newarray .long, 2) := by decide +kernel
theorem dX7_init_158 : decode cX7_init 158 = .ok (.putfield 66, 3) := by decide +kernel
theorem dX7_init_161 : decode cX7_init 161 = .ok (.aload_n 0, 1) := by decide +kernel
theorem dX7_init_162 : decode cX7_init 162 = .ok (.bipush 100, 2) := by decide +kernel
theorem dX7_init_164 : decode cX7_init 164 = .ok (.newarray .int, 2) := by decide +kernel
theorem dX7_init_166 : decode cX7_init 166 = .ok (.putfield 69, 3) := by decide +kernel
theorem dX7_init_169 : decode cX7_init 169 = .ok (.aload_n 0, 1) := by decide +kernel
theorem dX7_init_170 : decode cX7_init 170 = .ok (.bipush 100, 2) := by decide +kernel
theorem dX7_init_172 : decode cX7_init 172 = .ok (.newarray .boolean, 2) := by decide +kernel
theorem dX7_init_174 : decode cX7_init 174 = .ok (.putfield 72, 3) := by decide +kernel
theorem dX7_init_177 : decode cX7_init 177 = .ok (.aload_n 0, 1) := by decide +kernel
theorem dX7_init_178 : decode cX7_init 178 = .ok (.bipush 100, 2) := by decide +kernel
theorem dX7_init_180 : decode cX7_init 180 = .ok (.newarray .int, 2) := by decide +kernel
theorem dX7_init_182 : decode cX7_init 182 = .ok (.putfield 75, 3) := by decide +kernel
theorem dX7_init_185 : decode cX7_init 185 = .ok (.aload_n 0, 1) := by decide +kernel
theorem dX7_init_186 : decode cX7_init 186 = .ok (.bipush 100, 2) := by decide +kernel
theorem dX7_init_188 : decode cX7_init 188 = .ok (.newarray .int, 2) := by decide +kernel
theorem dX7_init_190 : decode cX7_init 190 = .ok (.putfield 78, 3) := by decide +kernel
theorem dX7_init_193 : decode cX7_init 193 = .ok (.aload_n 0, 1) := by decide +kernel
theorem dX7_init_194 : decode cX7_init 194 = .ok (.bipush 100, 2) := by decide +kernel
theorem dX7_init_196 : decode cX7_init 196 = .ok (.newarray .int, 2) := by decide +kernel
theorem dX7_init_198 : decode cX7_init 198 = .ok (.putfield 81, 3) := by decide +kernel
theorem dX7_init_201 : decode cX7_init 201 = .ok (.aload_n 0, 1) := by decide +kernel
theorem dX7_init_202 : decode cX7_init 202 = .ok (.iconst 4, 1) := by decide +kernel
theorem dX7_init_203 : decode cX7_init 203 = .ok (.newarray .int, 2) := by decide +kernel
theorem dX7_init_205 : decode cX7_init 205 = .ok (.putfield 84, 3) := by decide +kernel
theorem dX7_init_208 : decode cX7_init 208 = .ok (.aload_n 0, 1) := by decide +kernel
theorem dX7_init_209 : decode cX7_init 209 = .ok (.sipush 2000, 3) := by decide +kernel
theorem dX7_init_212 : decode cX7_init 212 = .ok (.newarray .long, 2) := by decide +kernel
theorem dX7_init_214 : decode cX7_init 214 = .ok (.putfield 87, 3) := by decide +kernel
theorem dX7_init_217 : decode cX7_init 217 = .ok (.return_, 1) := by decide +kernel
theorem dX7_answer_0 : decode cX7_answer 0 = .ok (.iload_n 1, 1) := by decide +kernel
theorem dX7_answer_1 : decode cX7_answer 1 = .ok (.ifCond .ge 14, 3) := by decide +kernel
theorem dX7_answer_4 : decode cX7_answer 4 = .ok (.aload_n 0, 1) := by decide +kernel
theorem dX7_answer_5 : decode cX7_answer 5 = .ok (.getfield 48, 3) := by decide +kernel
theorem dX7_answer_8 : decode cX7_answer 8 = .ok (.iload_n 1, 1) := by decide +kernel
theorem dX7_answer_9 : decode cX7_answer 9 = .ok (.ineg, 1) := by decide +kernel
theorem dX7_answer_10 : decode cX7_answer 10 = .ok (.dup2, 1) := by decide +kernel
theorem dX7_answer_11 : decode cX7_answer 11 = .ok (.iaload, 1) := by decide +kernel
theorem dX7_answer_12 : decode cX7_answer 12 = .ok (.iconst 1, 1) := by decide +kernel
theorem dX7_answer_13 : decode cX7_answer 13 = .ok (.iadd, 1) := by decide +kernel
theorem dX7_answer_14 : decode cX7_answer 14 = .ok (.iastore, 1) := by decide +kernel
theorem dX7_answer_15 : decode cX7_answer 15 = .ok (.iload_n 1, 1) := by decide +kernel
theorem dX7_answer_16 : decode cX7_answer 16 = .ok (.ireturn, 1) := by decide +kernel
theorem dX7_open_0 : decode cX7_open 0 = .ok (.iload_n 1, 1) := by decide +kernel
theorem dX7_open_1 : decode cX7_open 1 = .ok (.ifCond .lt 9, 3) := by decide +kernel
theorem dX7_open_4 : decode cX7_open 4 = .ok (.iload_n 1, 1) := by decide +kernel
theorem dX7_open_5 : decode cX7_open 5 = .ok (.bipush 40, 2) := by decide +kernel
theorem dX7_open_7 : decode cX7_open 7 = .ok (.if_icmp .le 18, 3) := by decide +kernel
theorem dX7_open_10 : decode cX7_open 10 = .ok (.aload_n 0, 1) := by decide +kernel
theorem dX7_open_11 : decode cX7_open 11 = .ok (.iload_n 1, 1) := by decide +kernel
theorem dX7_open_12 : decode cX7_open 12 = .ok (.ifCond .ge 8, 3) := by decide +kernel
theorem dX7_open_15 : decode cX7_open 15 = .ok (.bipush (-3), 2) := by decide +kernel
theorem dX7_open_17 : decode cX7_open 17 = .ok (.goto 4, 3) := by decide +kernel
theorem dX7_open_20 : decode cX7_open 20 = .ok (.iconst (-1), 1) := by decide +kernel
theorem dX7_open_21 : decode cX7_open 21 = .ok (.invokevirtual 90, 3) := by decide +kernel
theorem dX7_open_24 : decode cX7_open 24 = .ok (.ireturn, 1) := by decide +kernel
theorem dX7_open_25 : decode cX7_open 25 = .ok (.aload_n 0, 1) := by decide +kernel
theorem dX7_open_26 : decode cX7_open 26 = .ok (.iload_n 1, 1) := by decide +kernel
theorem dX7_open_27 : decode cX7_open 27 = .ok (.putfield 94, 3) := by decide +kernel
theorem dX7_open_30 : decode cX7_open 30 = .ok (.iconst 0, 1) := by decide +kernel
theorem dX7_open_31 : decode cX7_open 31 = .ok (.istore_n 2, 1) := by decide +kernel
theorem dX7_open_32 : decode cX7_open 32 = .ok (.iload_n 2, 1) := by decide +kernel
theorem dX7_open_33 : decode cX7_open 33 = .ok (.bipush 40, 2) := by decide +kernel
theorem dX7_open_35 : decode cX7_open 35 = .ok (.if_icmp .ge 16, 3) := by decide +kernel
theorem dX7_open_38 : decode cX7_open 38 = .ok (.aload_n 0, 1) := by decide +kernel
theorem dX7_open_39 : decode cX7_open 39 = .ok (.getfield 9, 3) := by decide +kernel
theorem dX7_open_42 : decode cX7_open 42 = .ok (.iload_n 2, 1) := by decide +kernel
theorem dX7_open_43 : decode cX7_open 43 = .ok (.iconst (-1), 1) := by decide +kernel
theorem dX7_open_44 : decode cX7_open 44 = .ok (.iastore, 1) := by decide +kernel
theorem dX7_open_45 : decode cX7_open 45 = .ok (.iinc 2 1, 3) := by decide +kernel
theorem dX7_open_48 : decode cX7_open 48 = .ok (.goto (-16), 3) := by decide +kernel
theorem dX7_open_51 : decode cX7_open 51 = .ok (.iconst 0, 1) := by decide +kernel
theorem dX7_open_52 : decode cX7_open 52 = .ok (.istore_n 2, 1) := by decide +kernel
theorem dX7_open_53 : decode cX7_open 53 = .ok (.iload_n 2, 1) := by decide +kernel
theorem dX7_open_54 : decode cX7_open 54 = .ok (.sipush 2560, 3) := by decide +kernel
theorem dX7_open_57 : decode cX7_open 57 = .ok (.if_icmp .ge 30, 3) := by decide +kernel
theorem dX7_open_60 : decode cX7_open 60 = .ok (.aload_n 0, 1) := by decide +kernel
theorem dX7_open_61 : decode cX7_open 61 = .ok (.getfield 13, 3) := by decide +kernel
theorem dX7_open_64 : decode cX7_open 64 = .ok (.iload_n 2, 1) := by decide +kernel
theorem dX7_open_65 : decode cX7_open 65 = .ok (.lconst 0, 1) := by decide +kernel
theorem dX7_open_66 : decode cX7_open 66 = .ok (.lastore, 1) := by decide +kernel
theorem dX7_open_67 : decode cX7_open 67 = .ok (.aload_n 0, 1) := by decide +kernel
theorem dX7_open_68 : decode cX7_open 68 = .ok (.getfield 17, 3) := by decide +kernel
theorem dX7_open_71 : decode cX7_open 71 = .ok (.iload_n 2, 1) := by decide +kernel
theorem dX7_open_72 : decode cX7_open 72 = .ok (.iconst 0, 1) := by decide +kernel
theorem dX7_open_73 : decode cX7_open 73 = .ok (.iastore, 1) := by decide +kernel
theorem dX7_open_74 : decode cX7_open 74 = .ok (.aload_n 0, 1) := by decide +kernel
theorem dX7_open_75 : decode cX7_open 75 = .ok (.getfield 20, 3) := by decide +kernel
theorem dX7_open_78 : decode cX7_open 78 = .ok (.iload_n 2, 1) := by decide +kernel
theorem dX7_open_79 : decode cX7_open 79 = .ok (.iconst (-1), 1) := by decide +kernel
theorem dX7_open_80 : decode cX7_open 80 = .ok (.iastore, 1) := by decide +kernel
theorem dX7_open_81 : decode cX7_open 81 = .ok (.iinc 2 1, 3) := by decide +kernel
theorem dX7_open_84 : decode cX7_open 84 = .ok (.goto (-31), 3) := by decide +kernel
theorem dX7_open_87 : decode cX7_open 87 = .ok (.aload_n 0, 1) := by decide +kernel
theorem dX7_open_88 : decode cX7_open 88 = .ok (.iconst 0, 1) := by decide +kernel
theorem dX7_open_89 : decode cX7_open 89 = .ok (.putfield 98, 3) := by decide +kernel
theorem dX7_open_92 : decode cX7_open 92 = .ok (.iconst 0, 1) := by decide +kernel
theorem dX7_open_93 : decode cX7_open 93 = .ok (.istore_n 2, 1) := by decide +kernel
theorem dX7_open_94 : decode cX7_open 94 = .ok (.iload_n 2, 1) := by decide +kernel
theorem dX7_open_95 : decode cX7_open 95 = .ok (.bipush 100, 2) := by decide +kernel
theorem dX7_open_97 : decode cX7_open 97 = .ok (.if_icmp .ge 23, 3) := by decide +kernel
theorem dX7_open_100 : decode cX7_open 100 = .ok (.aload_n 0, 1) := by decide +kernel
theorem dX7_open_101 : decode cX7_open 101 = .ok (.getfield 29, 3) := by decide +kernel
theorem dX7_open_104 : decode cX7_open 104 = .ok (.iload_n 2, 1) := by decide +kernel
theorem dX7_open_105 : decode cX7_open 105 = .ok (.iconst 0, 1) := by decide +kernel
theorem dX7_open_106 : decode cX7_open 106 = .ok (.iastore, 1) := by decide +kernel
theorem dX7_open_107 : decode cX7_open 107 = .ok (.aload_n 0, 1) := by decide +kernel
theorem dX7_open_108 : decode cX7_open 108 = .ok (.getfield 32, 3) := by decide +kernel
theorem dX7_open_111 : decode cX7_open 111 = .ok (.iload_n 2, 1) := by decide +kernel
theorem dX7_open_112 : decode cX7_open 112 = .ok (.iconst 0, 1) := by decide +kernel
theorem dX7_open_113 : decode cX7_open 113 = .ok (.bastore, 1) := by decide +kernel
theorem dX7_open_114 : decode cX7_open 114 = .ok (.iinc 2 1, 3) := by decide +kernel
theorem dX7_open_117 : decode cX7_open 117 = .ok (.goto (-23), 3) := by decide +kernel
theorem dX7_open_120 : decode cX7_open 120 = .ok (.aload_n 0, 1) := by decide +kernel
theorem dX7_open_121 : decode cX7_open 121 = .ok (.iconst 0, 1) := by decide +kernel
theorem dX7_open_122 : decode cX7_open 122 = .ok (.putfield 101, 3) := by decide +kernel
theorem dX7_open_125 : decode cX7_open 125 = .ok (.iconst 0, 1) := by decide +kernel
theorem dX7_open_126 : decode cX7_open 126 = .ok (.istore_n 2, 1) := by decide +kernel
theorem dX7_open_127 : decode cX7_open 127 = .ok (.iload_n 2, 1) := by decide +kernel
theorem dX7_open_128 : decode cX7_open 128 = .ok (.iconst 4, 1) := by decide +kernel
theorem dX7_open_129 : decode cX7_open 129 = .ok (.if_icmp .ge 16, 3) := by decide +kernel
theorem dX7_open_132 : decode cX7_open 132 = .ok (.aload_n 0, 1) := by decide +kernel
theorem dX7_open_133 : decode cX7_open 133 = .ok (.getfield 45, 3) := by decide +kernel
theorem dX7_open_136 : decode cX7_open 136 = .ok (.iload_n 2, 1) := by decide +kernel
theorem dX7_open_137 : decode cX7_open 137 = .ok (.iconst 0, 1) := by decide +kernel
theorem dX7_open_138 : decode cX7_open 138 = .ok (.iastore, 1) := by decide +kernel
theorem dX7_open_139 : decode cX7_open 139 = .ok (.iinc 2 1, 3) := by decide +kernel
theorem dX7_open_142 : decode cX7_open 142 = .ok (.goto (-15), 3) := by decide +kernel
theorem dX7_open_145 : decode cX7_open 145 = .ok (.aload_n 0, 1) := by decide +kernel
theorem dX7_open_146 : decode cX7_open 146 = .ok (.lconst 0, 1) := by decide +kernel
theorem dX7_open_147 : decode cX7_open 147 = .ok (.putfield 104, 3) := by decide +kernel
theorem dX7_open_150 : decode cX7_open 150 = .ok (.iload_n 1, 1) := by decide +kernel
theorem dX7_open_151 : decode cX7_open 151 = .ok (.ireturn, 1) := by decide +kernel
theorem dX7_page_0 : decode cX7_page 0 = .ok (.iload_n 1, 1) := by decide +kernel
theorem dX7_page_1 : decode cX7_page 1 = .ok (.ifCond .lt 20, 3) := by decide +kernel
theorem dX7_page_4 : decode cX7_page 4 = .ok (.iload_n 1, 1) := by decide +kernel
theorem dX7_page_5 : decode cX7_page 5 = .ok (.aload_n 0, 1) := by decide +kernel
theorem dX7_page_6 : decode cX7_page 6 = .ok (.getfield 94, 3) := by decide +kernel
theorem dX7_page_9 : decode cX7_page 9 = .ok (.if_icmp .ge 12, 3) := by decide +kernel
theorem dX7_page_12 : decode cX7_page 12 = .ok (.aload_n 0, 1) := by decide +kernel
theorem dX7_page_13 : decode cX7_page 13 = .ok (.getfield 9, 3) := by decide +kernel
theorem dX7_page_16 : decode cX7_page 16 = .ok (.iload_n 1, 1) := by decide +kernel
theorem dX7_page_17 : decode cX7_page 17 = .ok (.iaload, 1) := by decide +kernel
theorem dX7_page_18 : decode cX7_page 18 = .ok (.ifCond .lt 26, 3) := by decide +kernel
theorem dX7_page_21 : decode cX7_page 21 = .ok (.aload_n 0, 1) := by decide +kernel
theorem dX7_page_22 : decode cX7_page 22 = .ok (.iload_n 1, 1) := by decide +kernel
theorem dX7_page_23 : decode cX7_page 23 = .ok (.ifCond .lt 11, 3) := by decide +kernel
theorem dX7_page_26 : decode cX7_page 26 = .ok (.iload_n 1, 1) := by decide +kernel
theorem dX7_page_27 : decode cX7_page 27 = .ok (.aload_n 0, 1) := by decide +kernel
theorem dX7_page_28 : decode cX7_page 28 = .ok (.getfield 94, 3) := by decide +kernel
theorem dX7_page_31 : decode cX7_page 31 = .ok (.if_icmp .lt 7, 3) := by decide +kernel
theorem dX7_page_34 : decode cX7_page 34 = .ok (.iconst (-1), 1) := by decide +kernel
theorem dX7_page_35 : decode cX7_page 35 = .ok (.goto 5, 3) := by decide +kernel
theorem dX7_page_38 : decode cX7_page 38 = .ok (.bipush (-7), 2) := by decide +kernel
theorem dX7_page_40 : decode cX7_page 40 = .ok (.invokevirtual 90, 3) := by decide +kernel
theorem dX7_page_43 : decode cX7_page 43 = .ok (.ireturn, 1) := by decide +kernel
theorem dX7_page_44 : decode cX7_page 44 = .ok (.iload_n 2, 1) := by decide +kernel
theorem dX7_page_45 : decode cX7_page 45 = .ok (.ifCond .eq 7, 3) := by decide +kernel
theorem dX7_page_48 : decode cX7_page 48 = .ok (.iconst (-1), 1) := by decide +kernel
theorem dX7_page_49 : decode cX7_page 49 = .ok (.goto 5, 3) := by decide +kernel
theorem dX7_page_52 : decode cX7_page 52 = .ok (.bipush (-2), 2) := by decide +kernel
theorem dX7_page_54 : decode cX7_page 54 = .ok (.istore_n 3, 1) := by decide +kernel
theorem dX7_page_55 : decode cX7_page 55 = .ok (.aload_n 0, 1) := by decide +kernel
theorem dX7_page_56 : decode cX7_page 56 = .ok (.getfield 9, 3) := by decide +kernel
theorem dX7_page_59 : decode cX7_page 59 = .ok (.iload_n 1, 1) := by decide +kernel
theorem dX7_page_60 : decode cX7_page 60 = .ok (.iaload, 1) := by decide +kernel
theorem dX7_page_61 : decode cX7_page 61 = .ok (.iload_n 3, 1) := by decide +kernel
theorem dX7_page_62 : decode cX7_page 62 = .ok (.if_icmp .ne 7, 3) := by decide +kernel
theorem dX7_page_65 : decode cX7_page 65 = .ok (.iconst 0, 1) := by decide +kernel
theorem dX7_page_66 : decode cX7_page 66 = .ok (.goto 4, 3) := by decide +kernel
theorem dX7_page_69 : decode cX7_page 69 = .ok (.iconst 1, 1) := by decide +kernel
theorem dX7_page_70 : decode cX7_page 70 = .ok (.istore 4, 2) := by decide +kernel
theorem dX7_page_72 : decode cX7_page 72 = .ok (.aload_n 0, 1) := by decide +kernel
theorem dX7_page_73 : decode cX7_page 73 = .ok (.getfield 9, 3) := by decide +kernel
theorem dX7_page_76 : decode cX7_page 76 = .ok (.iload_n 1, 1) := by decide +kernel
theorem dX7_page_77 : decode cX7_page 77 = .ok (.iload_n 3, 1) := by decide +kernel
theorem dX7_page_78 : decode cX7_page 78 = .ok (.iastore, 1) := by decide +kernel
theorem dX7_page_79 : decode cX7_page 79 = .ok (.iload 4, 2) := by decide +kernel
theorem dX7_page_81 : decode cX7_page 81 = .ok (.ireturn, 1) := by decide +kernel
theorem dX7_zone_0 : decode cX7_zone 0 = .ok (.iload_n 1, 1) := by decide +kernel
theorem dX7_zone_1 : decode cX7_zone 1 = .ok (.ifCond .lt 8, 3) := by decide +kernel
theorem dX7_zone_4 : decode cX7_zone 4 = .ok (.iload_n 1, 1) := by decide +kernel
theorem dX7_zone_5 : decode cX7_zone 5 = .ok (.iconst 5, 1) := by decide +kernel
theorem dX7_zone_6 : decode cX7_zone 6 = .ok (.if_icmp .le 10, 3) := by decide +kernel
theorem dX7_zone_9 : decode cX7_zone 9 = .ok (.aload_n 0, 1) := by decide +kernel
theorem dX7_zone_10 : decode cX7_zone 10 = .ok (.bipush (-9), 2) := by decide +kernel
theorem dX7_zone_12 : decode cX7_zone 12 = .ok (.invokevirtual 90, 3) := by decide +kernel
theorem dX7_zone_15 : decode cX7_zone 15 = .ok (.ireturn, 1) := by decide +kernel
theorem dX7_zone_16 : decode cX7_zone 16 = .ok (.iload_n 1, 1) := by decide +kernel
theorem dX7_zone_17 : decode cX7_zone 17 = .ok (.ifCond .ne 23, 3) := by decide +kernel
theorem dX7_zone_20 : decode cX7_zone 20 = .ok (.lload_n 2, 1) := by decide +kernel
theorem dX7_zone_21 : decode cX7_zone 21 = .ok (.lconst 1, 1) := by decide +kernel
theorem dX7_zone_22 : decode cX7_zone 22 = .ok (.lcmp, 1) := by decide +kernel
theorem dX7_zone_23 : decode cX7_zone 23 = .ok (.ifCond .lt 11, 3) := by decide +kernel
theorem dX7_zone_26 : decode cX7_zone 26 = .ok (.lload_n 2, 1) := by decide +kernel
theorem dX7_zone_27 : decode cX7_zone 27 = .ok (.ldc2_w 108, 3) := by decide +kernel
theorem dX7_zone_30 : decode cX7_zone 30 = .ok (.lcmp, 1) := by decide +kernel
theorem dX7_zone_31 : decode cX7_zone 31 = .ok (.ifCond .le 9, 3) := by decide +kernel
theorem dX7_zone_34 : decode cX7_zone 34 = .ok (.aload_n 0, 1) := by decide +kernel
theorem dX7_zone_35 : decode cX7_zone 35 = .ok (.iconst (-1), 1) := by decide +kernel
theorem dX7_zone_36 : decode cX7_zone 36 = .ok (.invokevirtual 90, 3) := by decide +kernel
theorem dX7_zone_39 : decode cX7_zone 39 = .ok (.ireturn, 1) := by decide +kernel
theorem dX7_zone_40 : decode cX7_zone 40 = .ok (.aload_n 0, 1) := by decide +kernel
theorem dX7_zone_41 : decode cX7_zone 41 = .ok (.getfield 98, 3) := by decide +kernel
theorem dX7_zone_44 : decode cX7_zone 44 = .ok (.bipush 8, 2) := by decide +kernel
theorem dX7_zone_46 : decode cX7_zone 46 = .ok (.if_icmp .ne 10, 3) := by decide +kernel
theorem dX7_zone_49 : decode cX7_zone 49 = .ok (.aload_n 0, 1) := by decide +kernel
theorem dX7_zone_50 : decode cX7_zone 50 = .ok (.bipush (-6), 2) := by decide +kernel
theorem dX7_zone_52 : decode cX7_zone 52 = .ok (.invokevirtual 90, 3) := by decide +kernel
theorem dX7_zone_55 : decode cX7_zone 55 = .ok (.ireturn, 1) := by decide +kernel
theorem dX7_zone_56 : decode cX7_zone 56 = .ok (.aload_n 0, 1) := by decide +kernel
theorem dX7_zone_57 : decode cX7_zone 57 = .ok (.getfield 23, 3) := by decide +kernel
theorem dX7_zone_60 : decode cX7_zone 60 = .ok (.aload_n 0, 1) := by decide +kernel
theorem dX7_zone_61 : decode cX7_zone 61 = .ok (.getfield 98, 3) := by decide +kernel
theorem dX7_zone_64 : decode cX7_zone 64 = .ok (.iload_n 1, 1) := by decide +kernel
theorem dX7_zone_65 : decode cX7_zone 65 = .ok (.iastore, 1) := by decide +kernel
theorem dX7_zone_66 : decode cX7_zone 66 = .ok (.aload_n 0, 1) := by decide +kernel
theorem dX7_zone_67 : decode cX7_zone 67 = .ok (.getfield 26, 3) := by decide +kernel
theorem dX7_zone_70 : decode cX7_zone 70 = .ok (.aload_n 0, 1) := by decide +kernel
theorem dX7_zone_71 : decode cX7_zone 71 = .ok (.getfield 98, 3) := by decide +kernel
theorem dX7_zone_74 : decode cX7_zone 74 = .ok (.lload_n 2, 1) := by decide +kernel
theorem dX7_zone_75 : decode cX7_zone 75 = .ok (.lastore, 1) := by decide +kernel
theorem dX7_zone_76 : decode cX7_zone 76 = .ok (.aload_n 0, 1) := by decide +kernel
theorem dX7_zone_77 : decode cX7_zone 77 = .ok (.dup, 1) := by decide +kernel
theorem dX7_zone_78 : decode cX7_zone 78 = .ok (.getfield 98, 3) := by decide +kernel
theorem dX7_zone_81 : decode cX7_zone 81 = .ok (.iconst 1, 1) := by decide +kernel
theorem dX7_zone_82 : decode cX7_zone 82 = .ok (.iadd, 1) := by decide +kernel
theorem dX7_zone_83 : decode cX7_zone 83 = .ok (.putfield 98, 3) := by decide +kernel
theorem dX7_zone_86 : decode cX7_zone 86 = .ok (.aload_n 0, 1) := by decide +kernel
theorem dX7_zone_87 : decode cX7_zone 87 = .ok (.getfield 98, 3) := by decide +kernel
theorem dX7_zone_90 : decode cX7_zone 90 = .ok (.iconst 1, 1) := by decide +kernel
theorem dX7_zone_91 : decode cX7_zone 91 = .ok (.isub, 1) := by decide +kernel
theorem dX7_zone_92 : decode cX7_zone 92 = .ok (.ireturn, 1) := by decide +kernel
theorem dX7_isZone_0 : decode cX7_isZone 0 = .ok (.iload_n 1, 1) := by decide +kernel
theorem dX7_isZone_1 : decode cX7_isZone 1 = .ok (.ifCond .lt 15, 3) := by decide +kernel
theorem dX7_isZone_4 : decode cX7_isZone 4 = .ok (.iload_n 1, 1) := by decide +kernel
theorem dX7_isZone_5 : decode cX7_isZone 5 = .ok (.aload_n 0, 1) := by decide +kernel
theorem dX7_isZone_6 : decode cX7_isZone 6 = .ok (.getfield 98, 3) := by decide +kernel
theorem dX7_isZone_9 : decode cX7_isZone 9 = .ok (.if_icmp .ge 7, 3) := by decide +kernel
theorem dX7_isZone_12 : decode cX7_isZone 12 = .ok (.iconst 1, 1) := by decide +kernel
theorem dX7_isZone_13 : decode cX7_isZone 13 = .ok (.goto 4, 3) := by decide +kernel
theorem dX7_isZone_16 : decode cX7_isZone 16 = .ok (.iconst 0, 1) := by decide +kernel
theorem dX7_isZone_17 : decode cX7_isZone 17 = .ok (.ireturn, 1) := by decide +kernel
theorem dX7_isOf_0 : decode cX7_isOf 0 = .ok (.iload_n 1, 1) := by decide +kernel
theorem dX7_isOf_1 : decode cX7_isOf 1 = .ok (.ifCond .lt 31, 3) := by decide +kernel
theorem dX7_isOf_4 : decode cX7_isOf 4 = .ok (.iload_n 1, 1) := by decide +kernel
theorem dX7_isOf_5 : decode cX7_isOf 5 = .ok (.bipush 64, 2) := by decide +kernel
theorem dX7_isOf_7 : decode cX7_isOf 7 = .ok (.aload_n 0, 1) := by decide +kernel
theorem dX7_isOf_8 : decode cX7_isOf 8 = .ok (.getfield 94, 3) := by decide +kernel
theorem dX7_isOf_11 : decode cX7_isOf 11 = .ok (.imul, 1) := by decide +kernel
theorem dX7_isOf_12 : decode cX7_isOf 12 = .ok (.if_icmp .ge 20, 3) := by decide +kernel
theorem dX7_isOf_15 : decode cX7_isOf 15 = .ok (.aload_n 0, 1) := by decide +kernel
theorem dX7_isOf_16 : decode cX7_isOf 16 = .ok (.getfield 9, 3) := by decide +kernel
theorem dX7_isOf_19 : decode cX7_isOf 19 = .ok (.iload_n 1, 1) := by decide +kernel
theorem dX7_isOf_20 : decode cX7_isOf 20 = .ok (.bipush 64, 2) := by decide +kernel
theorem dX7_isOf_22 : decode cX7_isOf 22 = .ok (.idiv, 1) := by decide +kernel
theorem dX7_isOf_23 : decode cX7_isOf 23 = .ok (.iaload, 1) := by decide +kernel
theorem dX7_isOf_24 : decode cX7_isOf 24 = .ok (.iload_n 2, 1) := by decide +kernel
theorem dX7_isOf_25 : decode cX7_isOf 25 = .ok (.if_icmp .ne 7, 3) := by decide +kernel
theorem dX7_isOf_28 : decode cX7_isOf 28 = .ok (.iconst 1, 1) := by decide +kernel
theorem dX7_isOf_29 : decode cX7_isOf 29 = .ok (.goto 4, 3) := by decide +kernel
theorem dX7_isOf_32 : decode cX7_isOf 32 = .ok (.iconst 0, 1) := by decide +kernel
theorem dX7_isOf_33 : decode cX7_isOf 33 = .ok (.ireturn, 1) := by decide +kernel
theorem dX7_most_0 : decode cX7_most 0 = .ok (.aload_n 0, 1) := by decide +kernel
theorem dX7_most_1 : decode cX7_most 1 = .ok (.getfield 23, 3) := by decide +kernel
theorem dX7_most_4 : decode cX7_most 4 = .ok (.iload_n 1, 1) := by decide +kernel
theorem dX7_most_5 : decode cX7_most 5 = .ok (.iaload, 1) := by decide +kernel
theorem dX7_most_6 : decode cX7_most 6 = .ok (.ifCond .ne 13, 3) := by decide +kernel
theorem dX7_most_9 : decode cX7_most 9 = .ok (.aload_n 0, 1) := by decide +kernel
theorem dX7_most_10 : decode cX7_most 10 = .ok (.getfield 26, 3) := by decide +kernel
theorem dX7_most_13 : decode cX7_most 13 = .ok (.iload_n 1, 1) := by decide +kernel
theorem dX7_most_14 : decode cX7_most 14 = .ok (.laload, 1) := by decide +kernel
theorem dX7_most_15 : decode cX7_most 15 = .ok (.l2i, 1) := by decide +kernel
theorem dX7_most_16 : decode cX7_most 16 = .ok (.goto 21, 3) := by decide +kernel
theorem dX7_most_19 : decode cX7_most 19 = .ok (.aload_n 0, 1) := by decide +kernel
theorem dX7_most_20 : decode cX7_most 20 = .ok (.getfield 23, 3) := by decide +kernel
theorem dX7_most_23 : decode cX7_most 23 = .ok (.iload_n 1, 1) := by decide +kernel
theorem dX7_most_24 : decode cX7_most 24 = .ok (.iaload, 1) := by decide +kernel
theorem dX7_most_25 : decode cX7_most 25 = .ok (.iconst 1, 1) := by decide +kernel
theorem dX7_most_26 : decode cX7_most 26 = .ok (.if_icmp .ne 8, 3) := by decide +kernel
theorem dX7_most_29 : decode cX7_most 29 = .ok (.bipush 64, 2) := by decide +kernel
theorem dX7_most_31 : decode cX7_most 31 = .ok (.goto 6, 3) := by decide +kernel
theorem dX7_most_34 : decode cX7_most 34 = .ok (.sipush 2000, 3) := by decide +kernel
theorem dX7_most_37 : decode cX7_most 37 = .ok (.ireturn, 1) := by decide +kernel
theorem dX7_need_0 : decode cX7_need 0 = .ok (.aload_n 0, 1) := by decide +kernel
theorem dX7_need_1 : decode cX7_need 1 = .ok (.getfield 23, 3) := by decide +kernel
theorem dX7_need_4 : decode cX7_need 4 = .ok (.iload_n 1, 1) := by decide +kernel
theorem dX7_need_5 : decode cX7_need 5 = .ok (.iaload, 1) := by decide +kernel
theorem dX7_need_6 : decode cX7_need 6 = .ok (.iconst 5, 1) := by decide +kernel
theorem dX7_need_7 : decode cX7_need 7 = .ok (.if_icmp .ne 9, 3) := by decide +kernel
theorem dX7_need_10 : decode cX7_need 10 = .ok (.iload_n 2, 1) := by decide +kernel
theorem dX7_need_11 : decode cX7_need 11 = .ok (.iconst 2, 1) := by decide +kernel
theorem dX7_need_12 : decode cX7_need 12 = .ok (.iadd, 1) := by decide +kernel
theorem dX7_need_13 : decode cX7_need 13 = .ok (.goto 4, 3) := by decide +kernel
theorem dX7_need_16 : decode cX7_need 16 = .ok (.iload_n 2, 1) := by decide +kernel
theorem dX7_need_17 : decode cX7_need 17 = .ok (.ireturn, 1) := by decide +kernel
theorem dX7_power_0 : decode cX7_power 0 = .ok (.iconst 1, 1) := by decide +kernel
theorem dX7_power_1 : decode cX7_power 1 = .ok (.istore_n 1, 1) := by decide +kernel
theorem dX7_power_2 : decode cX7_power 2 = .ok (.iload_n 1, 1) := by decide +kernel
theorem dX7_power_3 : decode cX7_power 3 = .ok (.iload_n 0, 1) := by decide +kernel
theorem dX7_power_4 : decode cX7_power 4 = .ok (.if_icmp .ge 10, 3) := by decide +kernel
theorem dX7_power_7 : decode cX7_power 7 = .ok (.iload_n 1, 1) := by decide +kernel
theorem dX7_power_8 : decode cX7_power 8 = .ok (.iconst 2, 1) := by decide +kernel
theorem dX7_power_9 : decode cX7_power 9 = .ok (.imul, 1) := by decide +kernel
theorem dX7_power_10 : decode cX7_power 10 = .ok (.istore_n 1, 1) := by decide +kernel
theorem dX7_power_11 : decode cX7_power 11 = .ok (.goto (-9), 3) := by decide +kernel
theorem dX7_power_14 : decode cX7_power 14 = .ok (.iload_n 1, 1) := by decide +kernel
theorem dX7_power_15 : decode cX7_power 15 = .ok (.ireturn, 1) := by decide +kernel
theorem dX7_isFreeAt_0 : decode cX7_isFreeAt 0 = .ok (.aload_n 0, 1) := by decide +kernel
theorem dX7_isFreeAt_1 : decode cX7_isFreeAt 1 = .ok (.iload_n 1, 1) := by decide +kernel
theorem dX7_isFreeAt_2 : decode cX7_isFreeAt 2 = .ok (.iload_n 2, 1) := by decide +kernel
theorem dX7_isFreeAt_3 : decode cX7_isFreeAt 3 = .ok (.invokevirtual 110, 3) := by decide +kernel
theorem dX7_isFreeAt_6 : decode cX7_isFreeAt 6 = .ok (.ifCond .eq 26, 3) := by decide +kernel
theorem dX7_isFreeAt_9 : decode cX7_isFreeAt 9 = .ok (.aload_n 0, 1) := by decide +kernel
theorem dX7_isFreeAt_10 : decode cX7_isFreeAt 10 = .ok (.getfield 17, 3) := by decide +kernel
theorem dX7_isFreeAt_13 : decode cX7_isFreeAt 13 = .ok (.iload_n 1, 1) := by decide +kernel
theorem dX7_isFreeAt_14 : decode cX7_isFreeAt 14 = .ok (.iaload, 1) := by decide +kernel
theorem dX7_isFreeAt_15 : decode cX7_isFreeAt 15 = .ok (.ifCond .le 17, 3) := by decide +kernel
theorem dX7_isFreeAt_18 : decode cX7_isFreeAt 18 = .ok (.aload_n 0, 1) := by decide +kernel
theorem dX7_isFreeAt_19 : decode cX7_isFreeAt 19 = .ok (.getfield 20, 3) := by decide +kernel
theorem dX7_isFreeAt_22 : decode cX7_isFreeAt 22 = .ok (.iload_n 1, 1) := by decide +kernel
theorem dX7_isFreeAt_23 : decode cX7_isFreeAt 23 = .ok (.iaload, 1) := by decide +kernel
theorem dX7_isFreeAt_24 : decode cX7_isFreeAt 24 = .ok (.iconst (-1), 1) := by decide +kernel
theorem dX7_isFreeAt_25 : decode cX7_isFreeAt 25 = .ok (.if_icmp .ne 7, 3) := by decide +kernel
theorem dX7_isFreeAt_28 : decode cX7_isFreeAt 28 = .ok (.iconst 1, 1) := by decide +kernel
theorem dX7_isFreeAt_29 : decode cX7_isFreeAt 29 = .ok (.goto 4, 3) := by decide +kernel
theorem dX7_isFreeAt_32 : decode cX7_isFreeAt 32 = .ok (.iconst 0, 1) := by decide +kernel
theorem dX7_isFreeAt_33 : decode cX7_isFreeAt 33 = .ok (.ireturn, 1) := by decide +kernel
theorem dX7_freePages_0 : decode cX7_freePages 0 = .ok (.iconst 0, 1) := by decide +kernel
theorem dX7_freePages_1 : decode cX7_freePages 1 = .ok (.istore_n 2, 1) := by decide +kernel
theorem dX7_freePages_2 : decode cX7_freePages 2 = .ok (.iload_n 2, 1) := by decide +kernel
theorem dX7_freePages_3 : decode cX7_freePages 3 = .ok (.iload_n 1, 1) := by decide +kernel
theorem dX7_freePages_4 : decode cX7_freePages 4 = .ok (.iadd, 1) := by decide +kernel
theorem dX7_freePages_5 : decode cX7_freePages 5 = .ok (.aload_n 0, 1) := by decide +kernel
theorem dX7_freePages_6 : decode cX7_freePages 6 = .ok (.getfield 94, 3) := by decide +kernel
theorem dX7_freePages_9 : decode cX7_freePages 9 = .ok (.if_icmp .gt 55, 3) := by decide +kernel
theorem dX7_freePages_12 : decode cX7_freePages 12 = .ok (.iconst 1, 1) := by decide +kernel
theorem dX7_freePages_13 : decode cX7_freePages 13 = .ok (.istore_n 3, 1) := by decide +kernel
theorem dX7_freePages_14 : decode cX7_freePages 14 = .ok (.iload_n 2, 1) := by decide +kernel
theorem dX7_freePages_15 : decode cX7_freePages 15 = .ok (.istore 4, 2) := by decide +kernel
theorem dX7_freePages_17 : decode cX7_freePages 17 = .ok (.iload 4, 2) := by decide +kernel
theorem dX7_freePages_19 : decode cX7_freePages 19 = .ok (.iload_n 2, 1) := by decide +kernel
theorem dX7_freePages_20 : decode cX7_freePages 20 = .ok (.iload_n 1, 1) := by decide +kernel
theorem dX7_freePages_21 : decode cX7_freePages 21 = .ok (.iadd, 1) := by decide +kernel
theorem dX7_freePages_22 : decode cX7_freePages 22 = .ok (.if_icmp .ge 30, 3) := by decide +kernel
theorem dX7_freePages_25 : decode cX7_freePages 25 = .ok (.iload_n 3, 1) := by decide +kernel
theorem dX7_freePages_26 : decode cX7_freePages 26 = .ok (.ifCond .eq 18, 3) := by decide +kernel
theorem dX7_freePages_29 : decode cX7_freePages 29 = .ok (.aload_n 0, 1) := by decide +kernel
theorem dX7_freePages_30 : decode cX7_freePages 30 = .ok (.getfield 9, 3) := by decide +kernel
theorem dX7_freePages_33 : decode cX7_freePages 33 = .ok (.iload 4, 2) := by decide +kernel
theorem dX7_freePages_35 : decode cX7_freePages 35 = .ok (.iaload, 1) := by decide +kernel
theorem dX7_freePages_36 : decode cX7_freePages 36 = .ok (.iconst (-1), 1) := by decide +kernel
theorem dX7_freePages_37 : decode cX7_freePages 37 = .ok (.if_icmp .ne 7, 3) := by decide +kernel
theorem dX7_freePages_40 : decode cX7_freePages 40 = .ok (.iconst 1, 1) := by decide +kernel
theorem dX7_freePages_41 : decode cX7_freePages 41 = .ok (.goto 4, 3) := by decide +kernel
theorem dX7_freePages_44 : decode cX7_freePages 44 = .ok (.iconst 0, 1) := by decide +kernel
theorem dX7_freePages_45 : decode cX7_freePages 45 = .ok (.istore_n 3, 1) := by decide +kernel
theorem dX7_freePages_46 : decode cX7_freePages 46 = .ok (.iinc 4 1, 3) := by decide +kernel
theorem dX7_freePages_49 : decode cX7_freePages 49 = .ok (.goto (-32), 3) := by decide +kernel
theorem dX7_freePages_52 : decode cX7_freePages 52 = .ok (.iload_n 3, 1) := by decide +kernel
theorem dX7_freePages_53 : decode cX7_freePages 53 = .ok (.ifCond .eq 5, 3) := by decide +kernel
theorem dX7_freePages_56 : decode cX7_freePages 56 = .ok (.iload_n 2, 1) := by decide +kernel
theorem dX7_freePages_57 : decode cX7_freePages 57 = .ok (.ireturn, 1) := by decide +kernel
theorem dX7_freePages_58 : decode cX7_freePages 58 = .ok (.iinc 2 1, 3) := by decide +kernel
theorem dX7_freePages_61 : decode cX7_freePages 61 = .ok (.goto (-59), 3) := by decide +kernel
theorem dX7_freePages_64 : decode cX7_freePages 64 = .ok (.iconst (-1), 1) := by decide +kernel
theorem dX7_freePages_65 : decode cX7_freePages 65 = .ok (.ireturn, 1) := by decide +kernel
theorem dX7_named_0 : decode cX7_named 0 = .ok (.iconst (-1), 1) := by decide +kernel
theorem dX7_named_1 : decode cX7_named 1 = .ok (.istore_n 3, 1) := by decide +kernel
theorem dX7_named_2 : decode cX7_named 2 = .ok (.aload_n 0, 1) := by decide +kernel
theorem dX7_named_3 : decode cX7_named 3 = .ok (.getfield 23, 3) := by decide +kernel
theorem dX7_named_6 : decode cX7_named 6 = .ok (.iload_n 1, 1) := by decide +kernel
theorem dX7_named_7 : decode cX7_named 7 = .ok (.iaload, 1) := by decide +kernel
theorem dX7_named_8 : decode cX7_named 8 = .ok (.ifCond .ne 7, 3) := by decide +kernel
theorem dX7_named_11 : decode cX7_named 11 = .ok (.iconst 0, 1) := by decide +kernel
theorem dX7_named_12 : decode cX7_named 12 = .ok (.goto 28, 3) := by decide +kernel
theorem dX7_named_15 : decode cX7_named 15 = .ok (.aload_n 0, 1) := by decide +kernel
theorem dX7_named_16 : decode cX7_named 16 = .ok (.getfield 23, 3) := by decide +kernel
theorem dX7_named_19 : decode cX7_named 19 = .ok (.iload_n 1, 1) := by decide +kernel
theorem dX7_named_20 : decode cX7_named 20 = .ok (.iaload, 1) := by decide +kernel
theorem dX7_named_21 : decode cX7_named 21 = .ok (.iconst 1, 1) := by decide +kernel
theorem dX7_named_22 : decode cX7_named 22 = .ok (.if_icmp .ne 10, 3) := by decide +kernel
theorem dX7_named_25 : decode cX7_named 25 = .ok (.iload_n 2, 1) := by decide +kernel
theorem dX7_named_26 : decode cX7_named 26 = .ok (.invokestatic 114, 3) := by decide +kernel
theorem dX7_named_29 : decode cX7_named 29 = .ok (.goto 11, 3) := by decide +kernel
theorem dX7_named_32 : decode cX7_named 32 = .ok (.aload_n 0, 1) := by decide +kernel
theorem dX7_named_33 : decode cX7_named 33 = .ok (.iload_n 1, 1) := by decide +kernel
theorem dX7_named_34 : decode cX7_named 34 = .ok (.iload_n 2, 1) := by decide +kernel
theorem dX7_named_35 : decode cX7_named 35 = .ok (.invokevirtual 117, 3) := by decide +kernel
theorem dX7_named_38 : decode cX7_named 38 = .ok (.iconst 1, 1) := by decide +kernel
theorem dX7_named_39 : decode cX7_named 39 = .ok (.iadd, 1) := by decide +kernel
theorem dX7_named_40 : decode cX7_named 40 = .ok (.istore 4, 2) := by decide +kernel
theorem dX7_named_42 : decode cX7_named 42 = .ok (.iconst 0, 1) := by decide +kernel
theorem dX7_named_43 : decode cX7_named 43 = .ok (.istore 5, 2) := by decide +kernel
theorem dX7_named_45 : decode cX7_named 45 = .ok (.iload 5, 2) := by decide +kernel
theorem dX7_named_47 : decode cX7_named 47 = .ok (.bipush 64, 2) := by decide +kernel
theorem dX7_named_49 : decode cX7_named 49 = .ok (.aload_n 0, 1) := by decide +kernel
theorem dX7_named_50 : decode cX7_named 50 = .ok (.getfield 94, 3) := by decide +kernel
theorem dX7_named_53 : decode cX7_named 53 = .ok (.imul, 1) := by decide +kernel
theorem dX7_named_54 : decode cX7_named 54 = .ok (.if_icmp .ge 143, 3) := by decide +kernel
theorem dX7_named_57 : decode cX7_named 57 = .ok (.aload_n 0, 1) := by decide +kernel
theorem dX7_named_58 : decode cX7_named 58 = .ok (.iload 5, 2) := by decide +kernel
theorem dX7_named_60 : decode cX7_named 60 = .ok (.iload_n 1, 1) := by decide +kernel
theorem dX7_named_61 : decode cX7_named 61 = .ok (.invokevirtual 121, 3) := by decide +kernel
theorem dX7_named_64 : decode cX7_named 64 = .ok (.ifCond .eq 127, 3) := by decide +kernel
theorem dX7_named_67 : decode cX7_named 67 = .ok (.aload_n 0, 1) := by decide +kernel
theorem dX7_named_68 : decode cX7_named 68 = .ok (.getfield 17, 3) := by decide +kernel
theorem dX7_named_71 : decode cX7_named 71 = .ok (.iload 5, 2) := by decide +kernel
theorem dX7_named_73 : decode cX7_named 73 = .ok (.iaload, 1) := by decide +kernel
theorem dX7_named_74 : decode cX7_named 74 = .ok (.iload 4, 2) := by decide +kernel
theorem dX7_named_76 : decode cX7_named 76 = .ok (.if_icmp .ge 6, 3) := by decide +kernel
theorem dX7_named_79 : decode cX7_named 79 = .ok (.goto 112, 3) := by decide +kernel
theorem dX7_named_82 : decode cX7_named 82 = .ok (.iload_n 3, 1) := by decide +kernel
theorem dX7_named_83 : decode cX7_named 83 = .ok (.ifCond .ge 7, 3) := by decide +kernel
theorem dX7_named_86 : decode cX7_named 86 = .ok (.iconst 1, 1) := by decide +kernel
theorem dX7_named_87 : decode cX7_named 87 = .ok (.goto 4, 3) := by decide +kernel
theorem dX7_named_90 : decode cX7_named 90 = .ok (.iconst 0, 1) := by decide +kernel
theorem dX7_named_91 : decode cX7_named 91 = .ok (.istore 6, 2) := by decide +kernel
theorem dX7_named_93 : decode cX7_named 93 = .ok (.iload 6, 2) := by decide +kernel
theorem dX7_named_95 : decode cX7_named 95 = .ok (.ifCond .ne 46, 3) := by decide +kernel
theorem dX7_named_98 : decode cX7_named 98 = .ok (.aload_n 0, 1) := by decide +kernel
theorem dX7_named_99 : decode cX7_named 99 = .ok (.getfield 23, 3) := by decide +kernel
theorem dX7_named_102 : decode cX7_named 102 = .ok (.iload_n 1, 1) := by decide +kernel
theorem dX7_named_103 : decode cX7_named 103 = .ok (.iaload, 1) := by decide +kernel
theorem dX7_named_104 : decode cX7_named 104 = .ok (.iconst 1, 1) := by decide +kernel
theorem dX7_named_105 : decode cX7_named 105 = .ok (.if_icmp .eq 13, 3) := by decide +kernel
theorem dX7_named_108 : decode cX7_named 108 = .ok (.aload_n 0, 1) := by decide +kernel
theorem dX7_named_109 : decode cX7_named 109 = .ok (.getfield 23, 3) := by decide +kernel
theorem dX7_named_112 : decode cX7_named 112 = .ok (.iload_n 1, 1) := by decide +kernel
theorem dX7_named_113 : decode cX7_named 113 = .ok (.iaload, 1) := by decide +kernel
theorem dX7_named_114 : decode cX7_named 114 = .ok (.iconst 3, 1) := by decide +kernel
theorem dX7_named_115 : decode cX7_named 115 = .ok (.if_icmp .ne 26, 3) := by decide +kernel
theorem dX7_named_118 : decode cX7_named 118 = .ok (.aload_n 0, 1) := by decide +kernel
theorem dX7_named_119 : decode cX7_named 119 = .ok (.getfield 17, 3) := by decide +kernel
theorem dX7_named_122 : decode cX7_named 122 = .ok (.iload 5, 2) := by decide +kernel
theorem dX7_named_124 : decode cX7_named 124 = .ok (.iaload, 1) := by decide +kernel
theorem dX7_named_125 : decode cX7_named 125 = .ok (.aload_n 0, 1) := by decide +kernel
theorem dX7_named_126 : decode cX7_named 126 = .ok (.getfield 17, 3) := by decide +kernel
theorem dX7_named_129 : decode cX7_named 129 = .ok (.iload_n 3, 1) := by decide +kernel
theorem dX7_named_130 : decode cX7_named 130 = .ok (.iaload, 1) := by decide +kernel
theorem dX7_named_131 : decode cX7_named 131 = .ok (.if_icmp .ge 7, 3) := by decide +kernel
theorem dX7_named_134 : decode cX7_named 134 = .ok (.iconst 1, 1) := by decide +kernel
theorem dX7_named_135 : decode cX7_named 135 = .ok (.goto 4, 3) := by decide +kernel
theorem dX7_named_138 : decode cX7_named 138 = .ok (.iconst 0, 1) := by decide +kernel
theorem dX7_named_139 : decode cX7_named 139 = .ok (.istore 6, 2) := by decide +kernel
theorem dX7_named_141 : decode cX7_named 141 = .ok (.iload 6, 2) := by decide +kernel
theorem dX7_named_143 : decode cX7_named 143 = .ok (.ifCond .ne 36, 3) := by decide +kernel
theorem dX7_named_146 : decode cX7_named 146 = .ok (.aload_n 0, 1) := by decide +kernel
theorem dX7_named_147 : decode cX7_named 147 = .ok (.getfield 23, 3) := by decide +kernel
theorem dX7_named_150 : decode cX7_named 150 = .ok (.iload_n 1, 1) := by decide +kernel
theorem dX7_named_151 : decode cX7_named 151 = .ok (.iaload, 1) := by decide +kernel
theorem dX7_named_152 : decode cX7_named 152 = .ok (.iconst 2, 1) := by decide +kernel
theorem dX7_named_153 : decode cX7_named 153 = .ok (.if_icmp .ne 26, 3) := by decide +kernel
theorem dX7_named_156 : decode cX7_named 156 = .ok (.aload_n 0, 1) := by decide +kernel
theorem dX7_named_157 : decode cX7_named 157 = .ok (.getfield 17, 3) := by decide +kernel
theorem dX7_named_160 : decode cX7_named 160 = .ok (.iload 5, 2) := by decide +kernel
theorem dX7_named_162 : decode cX7_named 162 = .ok (.iaload, 1) := by decide +kernel
theorem dX7_named_163 : decode cX7_named 163 = .ok (.aload_n 0, 1) := by decide +kernel
theorem dX7_named_164 : decode cX7_named 164 = .ok (.getfield 17, 3) := by decide +kernel
theorem dX7_named_167 : decode cX7_named 167 = .ok (.iload_n 3, 1) := by decide +kernel
theorem dX7_named_168 : decode cX7_named 168 = .ok (.iaload, 1) := by decide +kernel
theorem dX7_named_169 : decode cX7_named 169 = .ok (.if_icmp .le 7, 3) := by decide +kernel
theorem dX7_named_172 : decode cX7_named 172 = .ok (.iconst 1, 1) := by decide +kernel
theorem dX7_named_173 : decode cX7_named 173 = .ok (.goto 4, 3) := by decide +kernel
theorem dX7_named_176 : decode cX7_named 176 = .ok (.iconst 0, 1) := by decide +kernel
theorem dX7_named_177 : decode cX7_named 177 = .ok (.istore 6, 2) := by decide +kernel
theorem dX7_named_179 : decode cX7_named 179 = .ok (.iload 6, 2) := by decide +kernel
theorem dX7_named_181 : decode cX7_named 181 = .ok (.ifCond .eq 8, 3) := by decide +kernel
theorem dX7_named_184 : decode cX7_named 184 = .ok (.iload 5, 2) := by decide +kernel
theorem dX7_named_186 : decode cX7_named 186 = .ok (.goto 4, 3) := by decide +kernel
theorem dX7_named_189 : decode cX7_named 189 = .ok (.iload_n 3, 1) := by decide +kernel
theorem dX7_named_190 : decode cX7_named 190 = .ok (.istore_n 3, 1) := by decide +kernel
theorem dX7_named_191 : decode cX7_named 191 = .ok (.iinc 5 1, 3) := by decide +kernel
theorem dX7_named_194 : decode cX7_named 194 = .ok (.goto (-149), 3) := by decide +kernel
theorem dX7_named_197 : decode cX7_named 197 = .ok (.iload_n 3, 1) := by decide +kernel
theorem dX7_named_198 : decode cX7_named 198 = .ok (.ireturn, 1) := by decide +kernel
theorem dX7_comePages_0 : decode cX7_comePages 0 = .ok (.iload_n 2, 1) := by decide +kernel
theorem dX7_comePages_1 : decode cX7_comePages 1 = .ok (.istore 4, 2) := by decide +kernel
theorem dX7_comePages_3 : decode cX7_comePages 3 = .ok (.iload 4, 2) := by decide +kernel
theorem dX7_comePages_5 : decode cX7_comePages 5 = .ok (.iload_n 2, 1) := by decide +kernel
theorem dX7_comePages_6 : decode cX7_comePages 6 = .ok (.iload_n 3, 1) := by decide +kernel
theorem dX7_comePages_7 : decode cX7_comePages 7 = .ok (.iadd, 1) := by decide +kernel
theorem dX7_comePages_8 : decode cX7_comePages 8 = .ok (.if_icmp .ge 17, 3) := by decide +kernel
theorem dX7_comePages_11 : decode cX7_comePages 11 = .ok (.aload_n 0, 1) := by decide +kernel
theorem dX7_comePages_12 : decode cX7_comePages 12 = .ok (.getfield 9, 3) := by decide +kernel
theorem dX7_comePages_15 : decode cX7_comePages 15 = .ok (.iload 4, 2) := by decide +kernel
theorem dX7_comePages_17 : decode cX7_comePages 17 = .ok (.iload_n 1, 1) := by decide +kernel
theorem dX7_comePages_18 : decode cX7_comePages 18 = .ok (.iastore, 1) := by decide +kernel
theorem dX7_comePages_19 : decode cX7_comePages 19 = .ok (.iinc 4 1, 3) := by decide +kernel
theorem dX7_comePages_22 : decode cX7_comePages 22 = .ok (.goto (-19), 3) := by decide +kernel
theorem dX7_comePages_25 : decode cX7_comePages 25 = .ok (.bipush 64, 2) := by decide +kernel
theorem dX7_comePages_27 : decode cX7_comePages 27 = .ok (.iload_n 2, 1) := by decide +kernel
theorem dX7_comePages_28 : decode cX7_comePages 28 = .ok (.imul, 1) := by decide +kernel
theorem dX7_comePages_29 : decode cX7_comePages 29 = .ok (.istore 4, 2) := by decide +kernel
theorem dX7_comePages_31 : decode cX7_comePages 31 = .ok (.aload_n 0, 1) := by decide +kernel
theorem dX7_comePages_32 : decode cX7_comePages 32 = .ok (.getfield 23, 3) := by decide +kernel
theorem dX7_comePages_35 : decode cX7_comePages 35 = .ok (.iload_n 1, 1) := by decide +kernel
theorem dX7_comePages_36 : decode cX7_comePages 36 = .ok (.iaload, 1) := by decide +kernel
theorem dX7_comePages_37 : decode cX7_comePages 37 = .ok (.ifCond .ne 59, 3) := by decide +kernel
theorem dX7_comePages_40 : decode cX7_comePages 40 = .ok (.aload_n 0, 1) := by decide +kernel
theorem dX7_comePages_41 : decode cX7_comePages 41 = .ok (.getfield 26, 3) := by decide +kernel
theorem dX7_comePages_44 : decode cX7_comePages 44 = .ok (.iload_n 1, 1) := by decide +kernel
theorem dX7_comePages_45 : decode cX7_comePages 45 = .ok (.laload, 1) := by decide +kernel
theorem dX7_comePages_46 : decode cX7_comePages 46 = .ok (.l2i, 1) := by decide +kernel
theorem dX7_comePages_47 : decode cX7_comePages 47 = .ok (.istore 5, 2) := by decide +kernel
theorem dX7_comePages_49 : decode cX7_comePages 49 = .ok (.iconst 1, 1) := by decide +kernel
theorem dX7_comePages_50 : decode cX7_comePages 50 = .ok (.istore 6, 2) := by decide +kernel
theorem dX7_comePages_52 : decode cX7_comePages 52 = .ok (.iload 6, 2) := by decide +kernel
theorem dX7_comePages_54 : decode cX7_comePages 54 = .ok (.iload 5, 2) := by decide +kernel
theorem dX7_comePages_56 : decode cX7_comePages 56 = .ok (.iadd, 1) := by decide +kernel
theorem dX7_comePages_57 : decode cX7_comePages 57 = .ok (.bipush 64, 2) := by decide +kernel
theorem dX7_comePages_59 : decode cX7_comePages 59 = .ok (.if_icmp .gt 36, 3) := by decide +kernel
theorem dX7_comePages_62 : decode cX7_comePages 62 = .ok (.aload_n 0, 1) := by decide +kernel
theorem dX7_comePages_63 : decode cX7_comePages 63 = .ok (.getfield 17, 3) := by decide +kernel
theorem dX7_comePages_66 : decode cX7_comePages 66 = .ok (.iload 4, 2) := by decide +kernel
theorem dX7_comePages_68 : decode cX7_comePages 68 = .ok (.iload 6, 2) := by decide +kernel
theorem dX7_comePages_70 : decode cX7_comePages 70 = .ok (.iadd, 1) := by decide +kernel
theorem dX7_comePages_71 : decode cX7_comePages 71 = .ok (.iload 5, 2) := by decide +kernel
theorem dX7_comePages_73 : decode cX7_comePages 73 = .ok (.iastore, 1) := by decide +kernel
theorem dX7_comePages_74 : decode cX7_comePages 74 = .ok (.aload_n 0, 1) := by decide +kernel
theorem dX7_comePages_75 : decode cX7_comePages 75 = .ok (.getfield 20, 3) := by decide +kernel
theorem dX7_comePages_78 : decode cX7_comePages 78 = .ok (.iload 4, 2) := by decide +kernel
theorem dX7_comePages_80 : decode cX7_comePages 80 = .ok (.iload 6, 2) := by decide +kernel
theorem dX7_comePages_82 : decode cX7_comePages 82 = .ok (.iadd, 1) := by decide +kernel
theorem dX7_comePages_83 : decode cX7_comePages 83 = .ok (.iconst (-1), 1) := by decide +kernel
theorem dX7_comePages_84 : decode cX7_comePages 84 = .ok (.iastore, 1) := by decide +kernel
theorem dX7_comePages_85 : decode cX7_comePages 85 = .ok (.iload 6, 2) := by decide +kernel
theorem dX7_comePages_87 : decode cX7_comePages 87 = .ok (.iload 5, 2) := by decide +kernel
theorem dX7_comePages_89 : decode cX7_comePages 89 = .ok (.iadd, 1) := by decide +kernel
theorem dX7_comePages_90 : decode cX7_comePages 90 = .ok (.istore 6, 2) := by decide +kernel
theorem dX7_comePages_92 : decode cX7_comePages 92 = .ok (.goto (-40), 3) := by decide +kernel
theorem dX7_comePages_95 : decode cX7_comePages 95 = .ok (.return_, 1) := by decide +kernel
theorem dX7_comePages_96 : decode cX7_comePages 96 = .ok (.aload_n 0, 1) := by decide +kernel
theorem dX7_comePages_97 : decode cX7_comePages 97 = .ok (.getfield 17, 3) := by decide +kernel
theorem dX7_comePages_100 : decode cX7_comePages 100 = .ok (.iload 4, 2) := by decide +kernel
theorem dX7_comePages_102 : decode cX7_comePages 102 = .ok (.bipush 64, 2) := by decide +kernel
theorem dX7_comePages_104 : decode cX7_comePages 104 = .ok (.iload_n 3, 1) := by decide +kernel
theorem dX7_comePages_105 : decode cX7_comePages 105 = .ok (.imul, 1) := by decide +kernel
theorem dX7_comePages_106 : decode cX7_comePages 106 = .ok (.iastore, 1) := by decide +kernel
theorem dX7_comePages_107 : decode cX7_comePages 107 = .ok (.aload_n 0, 1) := by decide +kernel
theorem dX7_comePages_108 : decode cX7_comePages 108 = .ok (.getfield 20, 3) := by decide +kernel
theorem dX7_comePages_111 : decode cX7_comePages 111 = .ok (.iload 4, 2) := by decide +kernel
theorem dX7_comePages_113 : decode cX7_comePages 113 = .ok (.iconst (-1), 1) := by decide +kernel
theorem dX7_comePages_114 : decode cX7_comePages 114 = .ok (.iastore, 1) := by decide +kernel
theorem dX7_comePages_115 : decode cX7_comePages 115 = .ok (.aload_n 0, 1) := by decide +kernel
theorem dX7_comePages_116 : decode cX7_comePages 116 = .ok (.getfield 23, 3) := by decide +kernel
theorem dX7_comePages_119 : decode cX7_comePages 119 = .ok (.iload_n 1, 1) := by decide +kernel
theorem dX7_comePages_120 : decode cX7_comePages 120 = .ok (.iaload, 1) := by decide +kernel
theorem dX7_comePages_121 : decode cX7_comePages 121 = .ok (.iconst 1, 1) := by decide +kernel
theorem dX7_comePages_122 : decode cX7_comePages 122 = .ok (.if_icmp .eq 10, 3) := by decide +kernel
theorem dX7_comePages_125 : decode cX7_comePages 125 = .ok (.aload_n 0, 1) := by decide +kernel
theorem dX7_comePages_126 : decode cX7_comePages 126 = .ok (.iload_n 1, 1) := by decide +kernel
theorem dX7_comePages_127 : decode cX7_comePages 127 = .ok (.iload 4, 2) := by decide +kernel
theorem dX7_comePages_129 : decode cX7_comePages 129 = .ok (.invokevirtual 124, 3) := by decide +kernel
theorem dX7_comePages_132 : decode cX7_comePages 132 = .ok (.return_, 1) := by decide +kernel
theorem dX7_ahead_0 : decode cX7_ahead 0 = .ok (.iload_n 2, 1) := by decide +kernel
theorem dX7_ahead_1 : decode cX7_ahead 1 = .ok (.iconst 1, 1) := by decide +kernel
theorem dX7_ahead_2 : decode cX7_ahead 2 = .ok (.isub, 1) := by decide +kernel
theorem dX7_ahead_3 : decode cX7_ahead 3 = .ok (.istore_n 3, 1) := by decide +kernel
theorem dX7_ahead_4 : decode cX7_ahead 4 = .ok (.iload_n 3, 1) := by decide +kernel
theorem dX7_ahead_5 : decode cX7_ahead 5 = .ok (.ifCond .lt 45, 3) := by decide +kernel
theorem dX7_ahead_8 : decode cX7_ahead 8 = .ok (.aload_n 0, 1) := by decide +kernel
theorem dX7_ahead_9 : decode cX7_ahead 9 = .ok (.iload_n 3, 1) := by decide +kernel
theorem dX7_ahead_10 : decode cX7_ahead 10 = .ok (.iload_n 1, 1) := by decide +kernel
theorem dX7_ahead_11 : decode cX7_ahead 11 = .ok (.invokevirtual 110, 3) := by decide +kernel
theorem dX7_ahead_14 : decode cX7_ahead 14 = .ok (.ifCond .eq 36, 3) := by decide +kernel
theorem dX7_ahead_17 : decode cX7_ahead 17 = .ok (.aload_n 0, 1) := by decide +kernel
theorem dX7_ahead_18 : decode cX7_ahead 18 = .ok (.getfield 17, 3) := by decide +kernel
theorem dX7_ahead_21 : decode cX7_ahead 21 = .ok (.iload_n 3, 1) := by decide +kernel
theorem dX7_ahead_22 : decode cX7_ahead 22 = .ok (.iaload, 1) := by decide +kernel
theorem dX7_ahead_23 : decode cX7_ahead 23 = .ok (.ifCond .le 21, 3) := by decide +kernel
theorem dX7_ahead_26 : decode cX7_ahead 26 = .ok (.iload_n 3, 1) := by decide +kernel
theorem dX7_ahead_27 : decode cX7_ahead 27 = .ok (.aload_n 0, 1) := by decide +kernel
theorem dX7_ahead_28 : decode cX7_ahead 28 = .ok (.getfield 17, 3) := by decide +kernel
theorem dX7_ahead_31 : decode cX7_ahead 31 = .ok (.iload_n 3, 1) := by decide +kernel
theorem dX7_ahead_32 : decode cX7_ahead 32 = .ok (.iaload, 1) := by decide +kernel
theorem dX7_ahead_33 : decode cX7_ahead 33 = .ok (.iadd, 1) := by decide +kernel
theorem dX7_ahead_34 : decode cX7_ahead 34 = .ok (.iload_n 2, 1) := by decide +kernel
theorem dX7_ahead_35 : decode cX7_ahead 35 = .ok (.if_icmp .ne 7, 3) := by decide +kernel
theorem dX7_ahead_38 : decode cX7_ahead 38 = .ok (.iload_n 3, 1) := by decide +kernel
theorem dX7_ahead_39 : decode cX7_ahead 39 = .ok (.goto 4, 3) := by decide +kernel
theorem dX7_ahead_42 : decode cX7_ahead 42 = .ok (.iconst (-1), 1) := by decide +kernel
theorem dX7_ahead_43 : decode cX7_ahead 43 = .ok (.ireturn, 1) := by decide +kernel
theorem dX7_ahead_44 : decode cX7_ahead 44 = .ok (.iinc 3 (-1), 3) := by decide +kernel
theorem dX7_ahead_47 : decode cX7_ahead 47 = .ok (.goto (-43), 3) := by decide +kernel
theorem dX7_ahead_50 : decode cX7_ahead 50 = .ok (.iconst (-1), 1) := by decide +kernel
theorem dX7_ahead_51 : decode cX7_ahead 51 = .ok (.ireturn, 1) := by decide +kernel
theorem dX7_join_0 : decode cX7_join 0 = .ok (.iload_n 2, 1) := by decide +kernel
theorem dX7_join_1 : decode cX7_join 1 = .ok (.aload_n 0, 1) := by decide +kernel
theorem dX7_join_2 : decode cX7_join 2 = .ok (.getfield 17, 3) := by decide +kernel
theorem dX7_join_5 : decode cX7_join 5 = .ok (.iload_n 2, 1) := by decide +kernel
theorem dX7_join_6 : decode cX7_join 6 = .ok (.iaload, 1) := by decide +kernel
theorem dX7_join_7 : decode cX7_join 7 = .ok (.iadd, 1) := by decide +kernel
theorem dX7_join_8 : decode cX7_join 8 = .ok (.istore_n 3, 1) := by decide +kernel
theorem dX7_join_9 : decode cX7_join 9 = .ok (.aload_n 0, 1) := by decide +kernel
theorem dX7_join_10 : decode cX7_join 10 = .ok (.iload_n 3, 1) := by decide +kernel
theorem dX7_join_11 : decode cX7_join 11 = .ok (.iload_n 1, 1) := by decide +kernel
theorem dX7_join_12 : decode cX7_join 12 = .ok (.invokevirtual 121, 3) := by decide +kernel
theorem dX7_join_15 : decode cX7_join 15 = .ok (.ifCond .eq 25, 3) := by decide +kernel
theorem dX7_join_18 : decode cX7_join 18 = .ok (.aload_n 0, 1) := by decide +kernel
theorem dX7_join_19 : decode cX7_join 19 = .ok (.getfield 17, 3) := by decide +kernel
theorem dX7_join_22 : decode cX7_join 22 = .ok (.iload_n 2, 1) := by decide +kernel
theorem dX7_join_23 : decode cX7_join 23 = .ok (.dup2, 1) := by decide +kernel
theorem dX7_join_24 : decode cX7_join 24 = .ok (.iaload, 1) := by decide +kernel
theorem dX7_join_25 : decode cX7_join 25 = .ok (.aload_n 0, 1) := by decide +kernel
theorem dX7_join_26 : decode cX7_join 26 = .ok (.getfield 17, 3) := by decide +kernel
theorem dX7_join_29 : decode cX7_join 29 = .ok (.iload_n 3, 1) := by decide +kernel
theorem dX7_join_30 : decode cX7_join 30 = .ok (.iaload, 1) := by decide +kernel
theorem dX7_join_31 : decode cX7_join 31 = .ok (.iadd, 1) := by decide +kernel
theorem dX7_join_32 : decode cX7_join 32 = .ok (.iastore, 1) := by decide +kernel
theorem dX7_join_33 : decode cX7_join 33 = .ok (.aload_n 0, 1) := by decide +kernel
theorem dX7_join_34 : decode cX7_join 34 = .ok (.getfield 17, 3) := by decide +kernel
theorem dX7_join_37 : decode cX7_join 37 = .ok (.iload_n 3, 1) := by decide +kernel
theorem dX7_join_38 : decode cX7_join 38 = .ok (.iconst 0, 1) := by decide +kernel
theorem dX7_join_39 : decode cX7_join 39 = .ok (.iastore, 1) := by decide +kernel
theorem dX7_join_40 : decode cX7_join 40 = .ok (.aload_n 0, 1) := by decide +kernel
theorem dX7_join_41 : decode cX7_join 41 = .ok (.iload_n 1, 1) := by decide +kernel
theorem dX7_join_42 : decode cX7_join 42 = .ok (.iload_n 2, 1) := by decide +kernel
theorem dX7_join_43 : decode cX7_join 43 = .ok (.invokevirtual 128, 3) := by decide +kernel
theorem dX7_join_46 : decode cX7_join 46 = .ok (.istore 4, 2) := by decide +kernel
theorem dX7_join_48 : decode cX7_join 48 = .ok (.iload 4, 2) := by decide +kernel
theorem dX7_join_50 : decode cX7_join 50 = .ok (.ifCond .lt 37, 3) := by decide +kernel
theorem dX7_join_53 : decode cX7_join 53 = .ok (.aload_n 0, 1) := by decide +kernel
theorem dX7_join_54 : decode cX7_join 54 = .ok (.getfield 20, 3) := by decide +kernel
theorem dX7_join_57 : decode cX7_join 57 = .ok (.iload 4, 2) := by decide +kernel
theorem dX7_join_59 : decode cX7_join 59 = .ok (.iaload, 1) := by decide +kernel
theorem dX7_join_60 : decode cX7_join 60 = .ok (.iconst (-1), 1) := by decide +kernel
theorem dX7_join_61 : decode cX7_join 61 = .ok (.if_icmp .ne 26, 3) := by decide +kernel
theorem dX7_join_64 : decode cX7_join 64 = .ok (.aload_n 0, 1) := by decide +kernel
theorem dX7_join_65 : decode cX7_join 65 = .ok (.getfield 17, 3) := by decide +kernel
theorem dX7_join_68 : decode cX7_join 68 = .ok (.iload 4, 2) := by decide +kernel
theorem dX7_join_70 : decode cX7_join 70 = .ok (.dup2, 1) := by decide +kernel
theorem dX7_join_71 : decode cX7_join 71 = .ok (.iaload, 1) := by decide +kernel
theorem dX7_join_72 : decode cX7_join 72 = .ok (.aload_n 0, 1) := by decide +kernel
theorem dX7_join_73 : decode cX7_join 73 = .ok (.getfield 17, 3) := by decide +kernel
theorem dX7_join_76 : decode cX7_join 76 = .ok (.iload_n 2, 1) := by decide +kernel
theorem dX7_join_77 : decode cX7_join 77 = .ok (.iaload, 1) := by decide +kernel
theorem dX7_join_78 : decode cX7_join 78 = .ok (.iadd, 1) := by decide +kernel
theorem dX7_join_79 : decode cX7_join 79 = .ok (.iastore, 1) := by decide +kernel
theorem dX7_join_80 : decode cX7_join 80 = .ok (.aload_n 0, 1) := by decide +kernel
theorem dX7_join_81 : decode cX7_join 81 = .ok (.getfield 17, 3) := by decide +kernel
theorem dX7_join_84 : decode cX7_join 84 = .ok (.iload_n 2, 1) := by decide +kernel
theorem dX7_join_85 : decode cX7_join 85 = .ok (.iconst 0, 1) := by decide +kernel
theorem dX7_join_86 : decode cX7_join 86 = .ok (.iastore, 1) := by decide +kernel
theorem dX7_join_87 : decode cX7_join 87 = .ok (.return_, 1) := by decide +kernel
theorem dX7_taken_0 : decode cX7_taken 0 = .ok (.aload_n 0, 1) := by decide +kernel
theorem dX7_taken_1 : decode cX7_taken 1 = .ok (.iload_n 1, 1) := by decide +kernel
theorem dX7_taken_2 : decode cX7_taken 2 = .ok (.iload_n 2, 1) := by decide +kernel
theorem dX7_taken_3 : decode cX7_taken 3 = .ok (.invokevirtual 131, 3) := by decide +kernel
theorem dX7_taken_6 : decode cX7_taken 6 = .ok (.istore_n 3, 1) := by decide +kernel
theorem dX7_taken_7 : decode cX7_taken 7 = .ok (.iload_n 3, 1) := by decide +kernel
theorem dX7_taken_8 : decode cX7_taken 8 = .ok (.ifCond .ge 66, 3) := by decide +kernel
theorem dX7_taken_11 : decode cX7_taken 11 = .ok (.aload_n 0, 1) := by decide +kernel
theorem dX7_taken_12 : decode cX7_taken 12 = .ok (.getfield 23, 3) := by decide +kernel
theorem dX7_taken_15 : decode cX7_taken 15 = .ok (.iload_n 1, 1) := by decide +kernel
theorem dX7_taken_16 : decode cX7_taken 16 = .ok (.iaload, 1) := by decide +kernel
theorem dX7_taken_17 : decode cX7_taken 17 = .ok (.iconst 1, 1) := by decide +kernel
theorem dX7_taken_18 : decode cX7_taken 18 = .ok (.if_icmp .gt 7, 3) := by decide +kernel
theorem dX7_taken_21 : decode cX7_taken 21 = .ok (.iconst 1, 1) := by decide +kernel
theorem dX7_taken_22 : decode cX7_taken 22 = .ok (.goto 19, 3) := by decide +kernel
theorem dX7_taken_25 : decode cX7_taken 25 = .ok (.aload_n 0, 1) := by decide +kernel
theorem dX7_taken_26 : decode cX7_taken 26 = .ok (.iload_n 1, 1) := by decide +kernel
theorem dX7_taken_27 : decode cX7_taken 27 = .ok (.iload_n 2, 1) := by decide +kernel
theorem dX7_taken_28 : decode cX7_taken 28 = .ok (.invokevirtual 117, 3) := by decide +kernel
theorem dX7_taken_31 : decode cX7_taken 31 = .ok (.iconst 1, 1) := by decide +kernel
theorem dX7_taken_32 : decode cX7_taken 32 = .ok (.iadd, 1) := by decide +kernel
theorem dX7_taken_33 : decode cX7_taken 33 = .ok (.bipush 64, 2) := by decide +kernel
theorem dX7_taken_35 : decode cX7_taken 35 = .ok (.iadd, 1) := by decide +kernel
theorem dX7_taken_36 : decode cX7_taken 36 = .ok (.iconst 1, 1) := by decide +kernel
theorem dX7_taken_37 : decode cX7_taken 37 = .ok (.isub, 1) := by decide +kernel
theorem dX7_taken_38 : decode cX7_taken 38 = .ok (.bipush 64, 2) := by decide +kernel
theorem dX7_taken_40 : decode cX7_taken 40 = .ok (.idiv, 1) := by decide +kernel
theorem dX7_taken_41 : decode cX7_taken 41 = .ok (.istore 4, 2) := by decide +kernel
theorem dX7_taken_43 : decode cX7_taken 43 = .ok (.aload_n 0, 1) := by decide +kernel
theorem dX7_taken_44 : decode cX7_taken 44 = .ok (.iload 4, 2) := by decide +kernel
theorem dX7_taken_46 : decode cX7_taken 46 = .ok (.invokevirtual 134, 3) := by decide +kernel
theorem dX7_taken_49 : decode cX7_taken 49 = .ok (.istore 5, 2) := by decide +kernel
theorem dX7_taken_51 : decode cX7_taken 51 = .ok (.iload 5, 2) := by decide +kernel
theorem dX7_taken_53 : decode cX7_taken 53 = .ok (.ifCond .ge 5, 3) := by decide +kernel
theorem dX7_taken_56 : decode cX7_taken 56 = .ok (.iconst (-1), 1) := by decide +kernel
theorem dX7_taken_57 : decode cX7_taken 57 = .ok (.ireturn, 1) := by decide +kernel
theorem dX7_taken_58 : decode cX7_taken 58 = .ok (.aload_n 0, 1) := by decide +kernel
theorem dX7_taken_59 : decode cX7_taken 59 = .ok (.iload_n 1, 1) := by decide +kernel
theorem dX7_taken_60 : decode cX7_taken 60 = .ok (.iload 5, 2) := by decide +kernel
theorem dX7_taken_62 : decode cX7_taken 62 = .ok (.iload 4, 2) := by decide +kernel
theorem dX7_taken_64 : decode cX7_taken 64 = .ok (.invokevirtual 137, 3) := by decide +kernel
theorem dX7_taken_67 : decode cX7_taken 67 = .ok (.aload_n 0, 1) := by decide +kernel
theorem dX7_taken_68 : decode cX7_taken 68 = .ok (.iload_n 1, 1) := by decide +kernel
theorem dX7_taken_69 : decode cX7_taken 69 = .ok (.iload_n 2, 1) := by decide +kernel
theorem dX7_taken_70 : decode cX7_taken 70 = .ok (.invokevirtual 131, 3) := by decide +kernel
theorem dX7_taken_73 : decode cX7_taken 73 = .ok (.istore_n 3, 1) := by decide +kernel
theorem dX7_taken_74 : decode cX7_taken 74 = .ok (.aload_n 0, 1) := by decide +kernel
theorem dX7_taken_75 : decode cX7_taken 75 = .ok (.getfield 23, 3) := by decide +kernel
theorem dX7_taken_78 : decode cX7_taken 78 = .ok (.iload_n 1, 1) := by decide +kernel
theorem dX7_taken_79 : decode cX7_taken 79 = .ok (.iaload, 1) := by decide +kernel
theorem dX7_taken_80 : decode cX7_taken 80 = .ok (.iconst 1, 1) := by decide +kernel
theorem dX7_taken_81 : decode cX7_taken 81 = .ok (.if_icmp .ne 64, 3) := by decide +kernel
theorem dX7_taken_84 : decode cX7_taken 84 = .ok (.aload_n 0, 1) := by decide +kernel
theorem dX7_taken_85 : decode cX7_taken 85 = .ok (.getfield 17, 3) := by decide +kernel
theorem dX7_taken_88 : decode cX7_taken 88 = .ok (.iload_n 3, 1) := by decide +kernel
theorem dX7_taken_89 : decode cX7_taken 89 = .ok (.iaload, 1) := by decide +kernel
theorem dX7_taken_90 : decode cX7_taken 90 = .ok (.iconst 2, 1) := by decide +kernel
theorem dX7_taken_91 : decode cX7_taken 91 = .ok (.idiv, 1) := by decide +kernel
theorem dX7_taken_92 : decode cX7_taken 92 = .ok (.iload_n 2, 1) := by decide +kernel
theorem dX7_taken_93 : decode cX7_taken 93 = .ok (.invokestatic 114, 3) := by decide +kernel
theorem dX7_taken_96 : decode cX7_taken 96 = .ok (.if_icmp .lt 71, 3) := by decide +kernel
theorem dX7_taken_99 : decode cX7_taken 99 = .ok (.aload_n 0, 1) := by decide +kernel
theorem dX7_taken_100 : decode cX7_taken 100 = .ok (.getfield 17, 3) := by decide +kernel
theorem dX7_taken_103 : decode cX7_taken 103 = .ok (.iload_n 3, 1) := by decide +kernel
theorem dX7_taken_104 : decode cX7_taken 104 = .ok (.dup2, 1) := by decide +kernel
theorem dX7_taken_105 : decode cX7_taken 105 = .ok (.iaload, 1) := by decide +kernel
theorem dX7_taken_106 : decode cX7_taken 106 = .ok (.iconst 2, 1) := by decide +kernel
theorem dX7_taken_107 : decode cX7_taken 107 = .ok (.idiv, 1) := by decide +kernel
theorem dX7_taken_108 : decode cX7_taken 108 = .ok (.iastore, 1) := by decide +kernel
theorem dX7_taken_109 : decode cX7_taken 109 = .ok (.aload_n 0, 1) := by decide +kernel
theorem dX7_taken_110 : decode cX7_taken 110 = .ok (.getfield 17, 3) := by decide +kernel
theorem dX7_taken_113 : decode cX7_taken 113 = .ok (.iload_n 3, 1) := by decide +kernel
theorem dX7_taken_114 : decode cX7_taken 114 = .ok (.aload_n 0, 1) := by decide +kernel
theorem dX7_taken_115 : decode cX7_taken 115 = .ok (.getfield 17, 3) := by decide +kernel
theorem dX7_taken_118 : decode cX7_taken 118 = .ok (.iload_n 3, 1) := by decide +kernel
theorem dX7_taken_119 : decode cX7_taken 119 = .ok (.iaload, 1) := by decide +kernel
theorem dX7_taken_120 : decode cX7_taken 120 = .ok (.iadd, 1) := by decide +kernel
theorem dX7_taken_121 : decode cX7_taken 121 = .ok (.aload_n 0, 1) := by decide +kernel
theorem dX7_taken_122 : decode cX7_taken 122 = .ok (.getfield 17, 3) := by decide +kernel
theorem dX7_taken_125 : decode cX7_taken 125 = .ok (.iload_n 3, 1) := by decide +kernel
theorem dX7_taken_126 : decode cX7_taken 126 = .ok (.iaload, 1) := by decide +kernel
theorem dX7_taken_127 : decode cX7_taken 127 = .ok (.iastore, 1) := by decide +kernel
theorem dX7_taken_128 : decode cX7_taken 128 = .ok (.aload_n 0, 1) := by decide +kernel
theorem dX7_taken_129 : decode cX7_taken 129 = .ok (.getfield 20, 3) := by decide +kernel
theorem dX7_taken_132 : decode cX7_taken 132 = .ok (.iload_n 3, 1) := by decide +kernel
theorem dX7_taken_133 : decode cX7_taken 133 = .ok (.aload_n 0, 1) := by decide +kernel
theorem dX7_taken_134 : decode cX7_taken 134 = .ok (.getfield 17, 3) := by decide +kernel
theorem dX7_taken_137 : decode cX7_taken 137 = .ok (.iload_n 3, 1) := by decide +kernel
theorem dX7_taken_138 : decode cX7_taken 138 = .ok (.iaload, 1) := by decide +kernel
theorem dX7_taken_139 : decode cX7_taken 139 = .ok (.iadd, 1) := by decide +kernel
theorem dX7_taken_140 : decode cX7_taken 140 = .ok (.iconst (-1), 1) := by decide +kernel
theorem dX7_taken_141 : decode cX7_taken 141 = .ok (.iastore, 1) := by decide +kernel
theorem dX7_taken_142 : decode cX7_taken 142 = .ok (.goto (-58), 3) := by decide +kernel
theorem dX7_taken_145 : decode cX7_taken 145 = .ok (.aload_n 0, 1) := by decide +kernel
theorem dX7_taken_146 : decode cX7_taken 146 = .ok (.getfield 23, 3) := by decide +kernel
theorem dX7_taken_149 : decode cX7_taken 149 = .ok (.iload_n 1, 1) := by decide +kernel
theorem dX7_taken_150 : decode cX7_taken 150 = .ok (.iaload, 1) := by decide +kernel
theorem dX7_taken_151 : decode cX7_taken 151 = .ok (.ifCond .eq 16, 3) := by decide +kernel
theorem dX7_taken_154 : decode cX7_taken 154 = .ok (.aload_n 0, 1) := by decide +kernel
theorem dX7_taken_155 : decode cX7_taken 155 = .ok (.iload_n 3, 1) := by decide +kernel
theorem dX7_taken_156 : decode cX7_taken 156 = .ok (.aload_n 0, 1) := by decide +kernel
theorem dX7_taken_157 : decode cX7_taken 157 = .ok (.iload_n 1, 1) := by decide +kernel
theorem dX7_taken_158 : decode cX7_taken 158 = .ok (.iload_n 2, 1) := by decide +kernel
theorem dX7_taken_159 : decode cX7_taken 159 = .ok (.invokevirtual 117, 3) := by decide +kernel
theorem dX7_taken_162 : decode cX7_taken 162 = .ok (.iconst 1, 1) := by decide +kernel
theorem dX7_taken_163 : decode cX7_taken 163 = .ok (.iadd, 1) := by decide +kernel
theorem dX7_taken_164 : decode cX7_taken 164 = .ok (.invokevirtual 141, 3) := by decide +kernel
theorem dX7_taken_167 : decode cX7_taken 167 = .ok (.iload_n 3, 1) := by decide +kernel
theorem dX7_taken_168 : decode cX7_taken 168 = .ok (.ireturn, 1) := by decide +kernel
theorem dX7_cut_0 : decode cX7_cut 0 = .ok (.aload_n 0, 1) := by decide +kernel
theorem dX7_cut_1 : decode cX7_cut 1 = .ok (.getfield 17, 3) := by decide +kernel
theorem dX7_cut_4 : decode cX7_cut 4 = .ok (.iload_n 1, 1) := by decide +kernel
theorem dX7_cut_5 : decode cX7_cut 5 = .ok (.iaload, 1) := by decide +kernel
theorem dX7_cut_6 : decode cX7_cut 6 = .ok (.iload_n 2, 1) := by decide +kernel
theorem dX7_cut_7 : decode cX7_cut 7 = .ok (.isub, 1) := by decide +kernel
theorem dX7_cut_8 : decode cX7_cut 8 = .ok (.istore_n 3, 1) := by decide +kernel
theorem dX7_cut_9 : decode cX7_cut 9 = .ok (.aload_n 0, 1) := by decide +kernel
theorem dX7_cut_10 : decode cX7_cut 10 = .ok (.getfield 17, 3) := by decide +kernel
theorem dX7_cut_13 : decode cX7_cut 13 = .ok (.iload_n 1, 1) := by decide +kernel
theorem dX7_cut_14 : decode cX7_cut 14 = .ok (.iload_n 2, 1) := by decide +kernel
theorem dX7_cut_15 : decode cX7_cut 15 = .ok (.iastore, 1) := by decide +kernel
theorem dX7_cut_16 : decode cX7_cut 16 = .ok (.iload_n 3, 1) := by decide +kernel
theorem dX7_cut_17 : decode cX7_cut 17 = .ok (.ifCond .le 21, 3) := by decide +kernel
theorem dX7_cut_20 : decode cX7_cut 20 = .ok (.aload_n 0, 1) := by decide +kernel
theorem dX7_cut_21 : decode cX7_cut 21 = .ok (.getfield 17, 3) := by decide +kernel
theorem dX7_cut_24 : decode cX7_cut 24 = .ok (.iload_n 1, 1) := by decide +kernel
theorem dX7_cut_25 : decode cX7_cut 25 = .ok (.iload_n 2, 1) := by decide +kernel
theorem dX7_cut_26 : decode cX7_cut 26 = .ok (.iadd, 1) := by decide +kernel
theorem dX7_cut_27 : decode cX7_cut 27 = .ok (.iload_n 3, 1) := by decide +kernel
theorem dX7_cut_28 : decode cX7_cut 28 = .ok (.iastore, 1) := by decide +kernel
theorem dX7_cut_29 : decode cX7_cut 29 = .ok (.aload_n 0, 1) := by decide +kernel
theorem dX7_cut_30 : decode cX7_cut 30 = .ok (.getfield 20, 3) := by decide +kernel
theorem dX7_cut_33 : decode cX7_cut 33 = .ok (.iload_n 1, 1) := by decide +kernel
theorem dX7_cut_34 : decode cX7_cut 34 = .ok (.iload_n 2, 1) := by decide +kernel
theorem dX7_cut_35 : decode cX7_cut 35 = .ok (.iadd, 1) := by decide +kernel
theorem dX7_cut_36 : decode cX7_cut 36 = .ok (.iconst (-1), 1) := by decide +kernel
theorem dX7_cut_37 : decode cX7_cut 37 = .ok (.iastore, 1) := by decide +kernel
theorem dX7_cut_38 : decode cX7_cut 38 = .ok (.return_, 1) := by decide +kernel
theorem dX7_firstOf_0 : decode cX7_firstOf 0 = .ok (.aload_n 0, 1) := by decide +kernel
theorem dX7_firstOf_1 : decode cX7_firstOf 1 = .ok (.getfield 23, 3) := by decide +kernel
theorem dX7_firstOf_4 : decode cX7_firstOf 4 = .ok (.iload_n 1, 1) := by decide +kernel
theorem dX7_firstOf_5 : decode cX7_firstOf 5 = .ok (.iaload, 1) := by decide +kernel
theorem dX7_firstOf_6 : decode cX7_firstOf 6 = .ok (.iconst 1, 1) := by decide +kernel
theorem dX7_firstOf_7 : decode cX7_firstOf 7 = .ok (.if_icmp .gt 7, 3) := by decide +kernel
theorem dX7_firstOf_10 : decode cX7_firstOf 10 = .ok (.iload_n 2, 1) := by decide +kernel
theorem dX7_firstOf_11 : decode cX7_firstOf 11 = .ok (.goto 22, 3) := by decide +kernel
theorem dX7_firstOf_14 : decode cX7_firstOf 14 = .ok (.aload_n 0, 1) := by decide +kernel
theorem dX7_firstOf_15 : decode cX7_firstOf 15 = .ok (.getfield 23, 3) := by decide +kernel
theorem dX7_firstOf_18 : decode cX7_firstOf 18 = .ok (.iload_n 1, 1) := by decide +kernel
theorem dX7_firstOf_19 : decode cX7_firstOf 19 = .ok (.iaload, 1) := by decide +kernel
theorem dX7_firstOf_20 : decode cX7_firstOf 20 = .ok (.iconst 5, 1) := by decide +kernel
theorem dX7_firstOf_21 : decode cX7_firstOf 21 = .ok (.if_icmp .ne 9, 3) := by decide +kernel
theorem dX7_firstOf_24 : decode cX7_firstOf 24 = .ok (.iload_n 2, 1) := by decide +kernel
theorem dX7_firstOf_25 : decode cX7_firstOf 25 = .ok (.iconst 2, 1) := by decide +kernel
theorem dX7_firstOf_26 : decode cX7_firstOf 26 = .ok (.iadd, 1) := by decide +kernel
theorem dX7_firstOf_27 : decode cX7_firstOf 27 = .ok (.goto 6, 3) := by decide +kernel
theorem dX7_firstOf_30 : decode cX7_firstOf 30 = .ok (.iload_n 2, 1) := by decide +kernel
theorem dX7_firstOf_31 : decode cX7_firstOf 31 = .ok (.iconst 1, 1) := by decide +kernel
theorem dX7_firstOf_32 : decode cX7_firstOf 32 = .ok (.iadd, 1) := by decide +kernel
theorem dX7_firstOf_33 : decode cX7_firstOf 33 = .ok (.ireturn, 1) := by decide +kernel
theorem dX7_have_0 : decode cX7_have 0 = .ok (.aload_n 0, 1) := by decide +kernel
theorem dX7_have_1 : decode cX7_have 1 = .ok (.getfield 20, 3) := by decide +kernel
theorem dX7_have_4 : decode cX7_have 4 = .ok (.iload_n 3, 1) := by decide +kernel
theorem dX7_have_5 : decode cX7_have 5 = .ok (.iload_n 1, 1) := by decide +kernel
theorem dX7_have_6 : decode cX7_have 6 = .ok (.iastore, 1) := by decide +kernel
theorem dX7_have_7 : decode cX7_have 7 = .ok (.aload_n 0, 1) := by decide +kernel
theorem dX7_have_8 : decode cX7_have 8 = .ok (.getfield 39, 3) := by decide +kernel
theorem dX7_have_11 : decode cX7_have 11 = .ok (.iload_n 1, 1) := by decide +kernel
theorem dX7_have_12 : decode cX7_have 12 = .ok (.iload_n 2, 1) := by decide +kernel
theorem dX7_have_13 : decode cX7_have 13 = .ok (.iastore, 1) := by decide +kernel
theorem dX7_have_14 : decode cX7_have 14 = .ok (.aload_n 0, 1) := by decide +kernel
theorem dX7_have_15 : decode cX7_have 15 = .ok (.getfield 42, 3) := by decide +kernel
theorem dX7_have_18 : decode cX7_have 18 = .ok (.iload_n 1, 1) := by decide +kernel
theorem dX7_have_19 : decode cX7_have 19 = .ok (.iload_n 3, 1) := by decide +kernel
theorem dX7_have_20 : decode cX7_have 20 = .ok (.iastore, 1) := by decide +kernel
theorem dX7_have_21 : decode cX7_have 21 = .ok (.aload_n 0, 1) := by decide +kernel
theorem dX7_have_22 : decode cX7_have 22 = .ok (.getfield 36, 3) := by decide +kernel
theorem dX7_have_25 : decode cX7_have 25 = .ok (.iload_n 1, 1) := by decide +kernel
theorem dX7_have_26 : decode cX7_have 26 = .ok (.iload 4, 2) := by decide +kernel
theorem dX7_have_28 : decode cX7_have 28 = .ok (.iastore, 1) := by decide +kernel
theorem dX7_have_29 : decode cX7_have 29 = .ok (.aload_n 0, 1) := by decide +kernel
theorem dX7_have_30 : decode cX7_have 30 = .ok (.iload_n 1, 1) := by decide +kernel
theorem dX7_have_31 : decode cX7_have 31 = .ok (.invokevirtual 144, 3) := by decide +kernel
theorem dX7_have_34 : decode cX7_have 34 = .ok (.return_, 1) := by decide +kernel
theorem dX7_guard_0 : decode cX7_guard 0 = .ok (.aload_n 0, 1) := by decide +kernel
theorem dX7_guard_1 : decode cX7_guard 1 = .ok (.getfield 23, 3) := by decide +kernel
theorem dX7_guard_4 : decode cX7_guard 4 = .ok (.aload_n 0, 1) := by decide +kernel
theorem dX7_guard_5 : decode cX7_guard 5 = .ok (.getfield 39, 3) := by decide +kernel
theorem dX7_guard_8 : decode cX7_guard 8 = .ok (.iload_n 1, 1) := by decide +kernel
theorem dX7_guard_9 : decode cX7_guard 9 = .ok (.iaload, 1) := by decide +kernel
theorem dX7_guard_10 : decode cX7_guard 10 = .ok (.iaload, 1) := by decide +kernel
theorem dX7_guard_11 : decode cX7_guard 11 = .ok (.iconst 5, 1) := by decide +kernel
theorem dX7_guard_12 : decode cX7_guard 12 = .ok (.if_icmp .ne 58, 3) := by decide +kernel
theorem dX7_guard_15 : decode cX7_guard 15 = .ok (.aload_n 0, 1) := by decide +kernel
theorem dX7_guard_16 : decode cX7_guard 16 = .ok (.getfield 13, 3) := by decide +kernel
theorem dX7_guard_19 : decode cX7_guard 19 = .ok (.aload_n 0, 1) := by decide +kernel
theorem dX7_guard_20 : decode cX7_guard 20 = .ok (.getfield 42, 3) := by decide +kernel
theorem dX7_guard_23 : decode cX7_guard 23 = .ok (.iload_n 1, 1) := by decide +kernel
theorem dX7_guard_24 : decode cX7_guard 24 = .ok (.iaload, 1) := by decide +kernel
theorem dX7_guard_25 : decode cX7_guard 25 = .ok (.iconst 1, 1) := by decide +kernel
theorem dX7_guard_26 : decode cX7_guard 26 = .ok (.iadd, 1) := by decide +kernel
theorem dX7_guard_27 : decode cX7_guard 27 = .ok (.aload_n 0, 1) := by decide +kernel
theorem dX7_guard_28 : decode cX7_guard 28 = .ok (.getfield 26, 3) := by decide +kernel
theorem dX7_guard_31 : decode cX7_guard 31 = .ok (.aload_n 0, 1) := by decide +kernel
theorem dX7_guard_32 : decode cX7_guard 32 = .ok (.getfield 39, 3) := by decide +kernel
theorem dX7_guard_35 : decode cX7_guard 35 = .ok (.iload_n 1, 1) := by decide +kernel
theorem dX7_guard_36 : decode cX7_guard 36 = .ok (.iaload, 1) := by decide +kernel
theorem dX7_guard_37 : decode cX7_guard 37 = .ok (.laload, 1) := by decide +kernel
theorem dX7_guard_38 : decode cX7_guard 38 = .ok (.lastore, 1) := by decide +kernel
theorem dX7_guard_39 : decode cX7_guard 39 = .ok (.aload_n 0, 1) := by decide +kernel
theorem dX7_guard_40 : decode cX7_guard 40 = .ok (.getfield 13, 3) := by decide +kernel
theorem dX7_guard_43 : decode cX7_guard 43 = .ok (.aload_n 0, 1) := by decide +kernel
theorem dX7_guard_44 : decode cX7_guard 44 = .ok (.getfield 42, 3) := by decide +kernel
theorem dX7_guard_47 : decode cX7_guard 47 = .ok (.iload_n 1, 1) := by decide +kernel
theorem dX7_guard_48 : decode cX7_guard 48 = .ok (.iaload, 1) := by decide +kernel
theorem dX7_guard_49 : decode cX7_guard 49 = .ok (.iconst 2, 1) := by decide +kernel
theorem dX7_guard_50 : decode cX7_guard 50 = .ok (.iadd, 1) := by decide +kernel
theorem dX7_guard_51 : decode cX7_guard 51 = .ok (.aload_n 0, 1) := by decide +kernel
theorem dX7_guard_52 : decode cX7_guard 52 = .ok (.getfield 36, 3) := by decide +kernel
theorem dX7_guard_55 : decode cX7_guard 55 = .ok (.iload_n 1, 1) := by decide +kernel
theorem dX7_guard_56 : decode cX7_guard 56 = .ok (.iaload, 1) := by decide +kernel
theorem dX7_guard_57 : decode cX7_guard 57 = .ok (.iadd, 1) := by decide +kernel
theorem dX7_guard_58 : decode cX7_guard 58 = .ok (.aload_n 0, 1) := by decide +kernel
theorem dX7_guard_59 : decode cX7_guard 59 = .ok (.getfield 26, 3) := by decide +kernel
theorem dX7_guard_62 : decode cX7_guard 62 = .ok (.aload_n 0, 1) := by decide +kernel
theorem dX7_guard_63 : decode cX7_guard 63 = .ok (.getfield 39, 3) := by decide +kernel
theorem dX7_guard_66 : decode cX7_guard 66 = .ok (.iload_n 1, 1) := by decide +kernel
theorem dX7_guard_67 : decode cX7_guard 67 = .ok (.iaload, 1) := by decide +kernel
theorem dX7_guard_68 : decode cX7_guard 68 = .ok (.laload, 1) := by decide +kernel
theorem dX7_guard_69 : decode cX7_guard 69 = .ok (.lastore, 1) := by decide +kernel
theorem dX7_guard_70 : decode cX7_guard 70 = .ok (.return_, 1) := by decide +kernel
theorem dX7_release_0 : decode cX7_release 0 = .ok (.iload_n 2, 1) := by decide +kernel
theorem dX7_release_1 : decode cX7_release 1 = .ok (.istore_n 3, 1) := by decide +kernel
theorem dX7_release_2 : decode cX7_release 2 = .ok (.iload_n 3, 1) := by decide +kernel
theorem dX7_release_3 : decode cX7_release 3 = .ok (.iload_n 2, 1) := by decide +kernel
theorem dX7_release_4 : decode cX7_release 4 = .ok (.aload_n 0, 1) := by decide +kernel
theorem dX7_release_5 : decode cX7_release 5 = .ok (.getfield 17, 3) := by decide +kernel
theorem dX7_release_8 : decode cX7_release 8 = .ok (.iload_n 2, 1) := by decide +kernel
theorem dX7_release_9 : decode cX7_release 9 = .ok (.iaload, 1) := by decide +kernel
theorem dX7_release_10 : decode cX7_release 10 = .ok (.iadd, 1) := by decide +kernel
theorem dX7_release_11 : decode cX7_release 11 = .ok (.if_icmp .ge 16, 3) := by decide +kernel
theorem dX7_release_14 : decode cX7_release 14 = .ok (.aload_n 0, 1) := by decide +kernel
theorem dX7_release_15 : decode cX7_release 15 = .ok (.getfield 13, 3) := by decide +kernel
theorem dX7_release_18 : decode cX7_release 18 = .ok (.iload_n 3, 1) := by decide +kernel
theorem dX7_release_19 : decode cX7_release 19 = .ok (.lconst 0, 1) := by decide +kernel
theorem dX7_release_20 : decode cX7_release 20 = .ok (.lastore, 1) := by decide +kernel
theorem dX7_release_21 : decode cX7_release 21 = .ok (.iinc 3 1, 3) := by decide +kernel
theorem dX7_release_24 : decode cX7_release 24 = .ok (.goto (-22), 3) := by decide +kernel
theorem dX7_release_27 : decode cX7_release 27 = .ok (.aload_n 0, 1) := by decide +kernel
theorem dX7_release_28 : decode cX7_release 28 = .ok (.getfield 20, 3) := by decide +kernel
theorem dX7_release_31 : decode cX7_release 31 = .ok (.iload_n 2, 1) := by decide +kernel
theorem dX7_release_32 : decode cX7_release 32 = .ok (.iconst (-1), 1) := by decide +kernel
theorem dX7_release_33 : decode cX7_release 33 = .ok (.iastore, 1) := by decide +kernel
theorem dX7_release_34 : decode cX7_release 34 = .ok (.aload_n 0, 1) := by decide +kernel
theorem dX7_release_35 : decode cX7_release 35 = .ok (.getfield 23, 3) := by decide +kernel
theorem dX7_release_38 : decode cX7_release 38 = .ok (.iload_n 1, 1) := by decide +kernel
theorem dX7_release_39 : decode cX7_release 39 = .ok (.iaload, 1) := by decide +kernel
theorem dX7_release_40 : decode cX7_release 40 = .ok (.iconst 1, 1) := by decide +kernel
theorem dX7_release_41 : decode cX7_release 41 = .ok (.if_icmp .ne 12, 3) := by decide +kernel
theorem dX7_release_44 : decode cX7_release 44 = .ok (.aload_n 0, 1) := by decide +kernel
theorem dX7_release_45 : decode cX7_release 45 = .ok (.iload_n 1, 1) := by decide +kernel
theorem dX7_release_46 : decode cX7_release 46 = .ok (.iload_n 2, 1) := by decide +kernel
theorem dX7_release_47 : decode cX7_release 47 = .ok (.invokevirtual 148, 3) := by decide +kernel
theorem dX7_release_50 : decode cX7_release 50 = .ok (.goto 18, 3) := by decide +kernel
theorem dX7_release_53 : decode cX7_release 53 = .ok (.aload_n 0, 1) := by decide +kernel
theorem dX7_release_54 : decode cX7_release 54 = .ok (.getfield 23, 3) := by decide +kernel
theorem dX7_release_57 : decode cX7_release 57 = .ok (.iload_n 1, 1) := by decide +kernel
theorem dX7_release_58 : decode cX7_release 58 = .ok (.iaload, 1) := by decide +kernel
theorem dX7_release_59 : decode cX7_release 59 = .ok (.ifCond .eq 9, 3) := by decide +kernel
theorem dX7_release_62 : decode cX7_release 62 = .ok (.aload_n 0, 1) := by decide +kernel
theorem dX7_release_63 : decode cX7_release 63 = .ok (.iload_n 1, 1) := by decide +kernel
theorem dX7_release_64 : decode cX7_release 64 = .ok (.iload_n 2, 1) := by decide +kernel
theorem dX7_release_65 : decode cX7_release 65 = .ok (.invokevirtual 124, 3) := by decide +kernel
theorem dX7_release_68 : decode cX7_release 68 = .ok (.return_, 1) := by decide +kernel
theorem dX7_joinPairs_0 : decode cX7_joinPairs 0 = .ok (.iload_n 2, 1) := by decide +kernel
theorem dX7_joinPairs_1 : decode cX7_joinPairs 1 = .ok (.istore_n 3, 1) := by decide +kernel
theorem dX7_joinPairs_2 : decode cX7_joinPairs 2 = .ok (.aload_n 0, 1) := by decide +kernel
theorem dX7_joinPairs_3 : decode cX7_joinPairs 3 = .ok (.getfield 17, 3) := by decide +kernel
theorem dX7_joinPairs_6 : decode cX7_joinPairs 6 = .ok (.iload_n 3, 1) := by decide +kernel
theorem dX7_joinPairs_7 : decode cX7_joinPairs 7 = .ok (.iaload, 1) := by decide +kernel
theorem dX7_joinPairs_8 : decode cX7_joinPairs 8 = .ok (.bipush 64, 2) := by decide +kernel
theorem dX7_joinPairs_10 : decode cX7_joinPairs 10 = .ok (.if_icmp .ge 110, 3) := by decide +kernel
theorem dX7_joinPairs_13 : decode cX7_joinPairs 13 = .ok (.aload_n 0, 1) := by decide +kernel
theorem dX7_joinPairs_14 : decode cX7_joinPairs 14 = .ok (.getfield 17, 3) := by decide +kernel
theorem dX7_joinPairs_17 : decode cX7_joinPairs 17 = .ok (.iload_n 3, 1) := by decide +kernel
theorem dX7_joinPairs_18 : decode cX7_joinPairs 18 = .ok (.iaload, 1) := by decide +kernel
theorem dX7_joinPairs_19 : decode cX7_joinPairs 19 = .ok (.istore 4, 2) := by decide +kernel
theorem dX7_joinPairs_21 : decode cX7_joinPairs 21 = .ok (.iload_n 3, 1) := by decide +kernel
theorem dX7_joinPairs_22 : decode cX7_joinPairs 22 = .ok (.iconst 2, 1) := by decide +kernel
theorem dX7_joinPairs_23 : decode cX7_joinPairs 23 = .ok (.iload 4, 2) := by decide +kernel
theorem dX7_joinPairs_25 : decode cX7_joinPairs 25 = .ok (.imul, 1) := by decide +kernel
theorem dX7_joinPairs_26 : decode cX7_joinPairs 26 = .ok (.idiv, 1) := by decide +kernel
theorem dX7_joinPairs_27 : decode cX7_joinPairs 27 = .ok (.iconst 2, 1) := by decide +kernel
theorem dX7_joinPairs_28 : decode cX7_joinPairs 28 = .ok (.imul, 1) := by decide +kernel
theorem dX7_joinPairs_29 : decode cX7_joinPairs 29 = .ok (.iload 4, 2) := by decide +kernel
theorem dX7_joinPairs_31 : decode cX7_joinPairs 31 = .ok (.imul, 1) := by decide +kernel
theorem dX7_joinPairs_32 : decode cX7_joinPairs 32 = .ok (.iload_n 3, 1) := by decide +kernel
theorem dX7_joinPairs_33 : decode cX7_joinPairs 33 = .ok (.if_icmp .ne 10, 3) := by decide +kernel
theorem dX7_joinPairs_36 : decode cX7_joinPairs 36 = .ok (.iload_n 3, 1) := by decide +kernel
theorem dX7_joinPairs_37 : decode cX7_joinPairs 37 = .ok (.iload 4, 2) := by decide +kernel
theorem dX7_joinPairs_39 : decode cX7_joinPairs 39 = .ok (.iadd, 1) := by decide +kernel
theorem dX7_joinPairs_40 : decode cX7_joinPairs 40 = .ok (.goto 7, 3) := by decide +kernel
theorem dX7_joinPairs_43 : decode cX7_joinPairs 43 = .ok (.iload_n 3, 1) := by decide +kernel
theorem dX7_joinPairs_44 : decode cX7_joinPairs 44 = .ok (.iload 4, 2) := by decide +kernel
theorem dX7_joinPairs_46 : decode cX7_joinPairs 46 = .ok (.isub, 1) := by decide +kernel
theorem dX7_joinPairs_47 : decode cX7_joinPairs 47 = .ok (.istore 5, 2) := by decide +kernel
theorem dX7_joinPairs_49 : decode cX7_joinPairs 49 = .ok (.aload_n 0, 1) := by decide +kernel
theorem dX7_joinPairs_50 : decode cX7_joinPairs 50 = .ok (.iload 5, 2) := by decide +kernel
theorem dX7_joinPairs_52 : decode cX7_joinPairs 52 = .ok (.iload_n 1, 1) := by decide +kernel
theorem dX7_joinPairs_53 : decode cX7_joinPairs 53 = .ok (.invokevirtual 121, 3) := by decide +kernel
theorem dX7_joinPairs_56 : decode cX7_joinPairs 56 = .ok (.ifCond .eq 15, 3) := by decide +kernel
theorem dX7_joinPairs_59 : decode cX7_joinPairs 59 = .ok (.aload_n 0, 1) := by decide +kernel
theorem dX7_joinPairs_60 : decode cX7_joinPairs 60 = .ok (.getfield 17, 3) := by decide +kernel
theorem dX7_joinPairs_63 : decode cX7_joinPairs 63 = .ok (.iload 5, 2) := by decide +kernel
theorem dX7_joinPairs_65 : decode cX7_joinPairs 65 = .ok (.iaload, 1) := by decide +kernel
theorem dX7_joinPairs_66 : decode cX7_joinPairs 66 = .ok (.iload 4, 2) := by decide +kernel
theorem dX7_joinPairs_68 : decode cX7_joinPairs 68 = .ok (.if_icmp .eq 4, 3) := by decide +kernel
theorem dX7_joinPairs_71 : decode cX7_joinPairs 71 = .ok (.return_, 1) := by decide +kernel
theorem dX7_joinPairs_72 : decode cX7_joinPairs 72 = .ok (.iload_n 3, 1) := by decide +kernel
theorem dX7_joinPairs_73 : decode cX7_joinPairs 73 = .ok (.iload 5, 2) := by decide +kernel
theorem dX7_joinPairs_75 : decode cX7_joinPairs 75 = .ok (.invokestatic 151, 3) := by decide +kernel
theorem dX7_joinPairs_78 : decode cX7_joinPairs 78 = .ok (.istore 6, 2) := by decide +kernel
theorem dX7_joinPairs_80 : decode cX7_joinPairs 80 = .ok (.aload_n 0, 1) := by decide +kernel
theorem dX7_joinPairs_81 : decode cX7_joinPairs 81 = .ok (.getfield 17, 3) := by decide +kernel
theorem dX7_joinPairs_84 : decode cX7_joinPairs 84 = .ok (.iload_n 3, 1) := by decide +kernel
theorem dX7_joinPairs_85 : decode cX7_joinPairs 85 = .ok (.iconst 0, 1) := by decide +kernel
theorem dX7_joinPairs_86 : decode cX7_joinPairs 86 = .ok (.iastore, 1) := by decide +kernel
theorem dX7_joinPairs_87 : decode cX7_joinPairs 87 = .ok (.aload_n 0, 1) := by decide +kernel
theorem dX7_joinPairs_88 : decode cX7_joinPairs 88 = .ok (.getfield 17, 3) := by decide +kernel
theorem dX7_joinPairs_91 : decode cX7_joinPairs 91 = .ok (.iload 5, 2) := by decide +kernel
theorem dX7_joinPairs_93 : decode cX7_joinPairs 93 = .ok (.iconst 0, 1) := by decide +kernel
theorem dX7_joinPairs_94 : decode cX7_joinPairs 94 = .ok (.iastore, 1) := by decide +kernel
theorem dX7_joinPairs_95 : decode cX7_joinPairs 95 = .ok (.aload_n 0, 1) := by decide +kernel
theorem dX7_joinPairs_96 : decode cX7_joinPairs 96 = .ok (.getfield 17, 3) := by decide +kernel
theorem dX7_joinPairs_99 : decode cX7_joinPairs 99 = .ok (.iload 6, 2) := by decide +kernel
theorem dX7_joinPairs_101 : decode cX7_joinPairs 101 = .ok (.iconst 2, 1) := by decide +kernel
theorem dX7_joinPairs_102 : decode cX7_joinPairs 102 = .ok (.iload 4, 2) := by decide +kernel
theorem dX7_joinPairs_104 : decode cX7_joinPairs 104 = .ok (.imul, 1) := by decide +kernel
theorem dX7_joinPairs_105 : decode cX7_joinPairs 105 = .ok (.iastore, 1) := by decide +kernel
theorem dX7_joinPairs_106 : decode cX7_joinPairs 106 = .ok (.aload_n 0, 1) := by decide +kernel
theorem dX7_joinPairs_107 : decode cX7_joinPairs 107 = .ok (.getfield 20, 3) := by decide +kernel
theorem dX7_joinPairs_110 : decode cX7_joinPairs 110 = .ok (.iload 6, 2) := by decide +kernel
theorem dX7_joinPairs_112 : decode cX7_joinPairs 112 = .ok (.iconst (-1), 1) := by decide +kernel
theorem dX7_joinPairs_113 : decode cX7_joinPairs 113 = .ok (.iastore, 1) := by decide +kernel
theorem dX7_joinPairs_114 : decode cX7_joinPairs 114 = .ok (.iload 6, 2) := by decide +kernel
theorem dX7_joinPairs_116 : decode cX7_joinPairs 116 = .ok (.istore_n 3, 1) := by decide +kernel
theorem dX7_joinPairs_117 : decode cX7_joinPairs 117 = .ok (.goto (-115), 3) := by decide +kernel
theorem dX7_joinPairs_120 : decode cX7_joinPairs 120 = .ok (.return_, 1) := by decide +kernel
theorem dX7_settle_0 : decode cX7_settle 0 = .ok (.iconst 0, 1) := by decide +kernel
theorem dX7_settle_1 : decode cX7_settle 1 = .ok (.istore_n 1, 1) := by decide +kernel
theorem dX7_settle_2 : decode cX7_settle 2 = .ok (.iload_n 1, 1) := by decide +kernel
theorem dX7_settle_3 : decode cX7_settle 3 = .ok (.aload_n 0, 1) := by decide +kernel
theorem dX7_settle_4 : decode cX7_settle 4 = .ok (.getfield 94, 3) := by decide +kernel
theorem dX7_settle_7 : decode cX7_settle 7 = .ok (.if_icmp .ge 31, 3) := by decide +kernel
theorem dX7_settle_10 : decode cX7_settle 10 = .ok (.aload_n 0, 1) := by decide +kernel
theorem dX7_settle_11 : decode cX7_settle 11 = .ok (.getfield 9, 3) := by decide +kernel
theorem dX7_settle_14 : decode cX7_settle 14 = .ok (.iload_n 1, 1) := by decide +kernel
theorem dX7_settle_15 : decode cX7_settle 15 = .ok (.iaload, 1) := by decide +kernel
theorem dX7_settle_16 : decode cX7_settle 16 = .ok (.ifCond .lt 16, 3) := by decide +kernel
theorem dX7_settle_19 : decode cX7_settle 19 = .ok (.aload_n 0, 1) := by decide +kernel
theorem dX7_settle_20 : decode cX7_settle 20 = .ok (.iload_n 1, 1) := by decide +kernel
theorem dX7_settle_21 : decode cX7_settle 21 = .ok (.invokevirtual 156, 3) := by decide +kernel
theorem dX7_settle_24 : decode cX7_settle 24 = .ok (.ifCond .eq 8, 3) := by decide +kernel
theorem dX7_settle_27 : decode cX7_settle 27 = .ok (.aload_n 0, 1) := by decide +kernel
theorem dX7_settle_28 : decode cX7_settle 28 = .ok (.iload_n 1, 1) := by decide +kernel
theorem dX7_settle_29 : decode cX7_settle 29 = .ok (.invokevirtual 160, 3) := by decide +kernel
theorem dX7_settle_32 : decode cX7_settle 32 = .ok (.iinc 1 1, 3) := by decide +kernel
theorem dX7_settle_35 : decode cX7_settle 35 = .ok (.goto (-33), 3) := by decide +kernel
theorem dX7_settle_38 : decode cX7_settle 38 = .ok (.return_, 1) := by decide +kernel
theorem dX7_pieceAt_0 : decode cX7_pieceAt 0 = .ok (.iload_n 1, 1) := by decide +kernel
theorem dX7_pieceAt_1 : decode cX7_pieceAt 1 = .ok (.istore_n 2, 1) := by decide +kernel
theorem dX7_pieceAt_2 : decode cX7_pieceAt 2 = .ok (.aload_n 0, 1) := by decide +kernel
theorem dX7_pieceAt_3 : decode cX7_pieceAt 3 = .ok (.getfield 17, 3) := by decide +kernel
theorem dX7_pieceAt_6 : decode cX7_pieceAt 6 = .ok (.iload_n 2, 1) := by decide +kernel
theorem dX7_pieceAt_7 : decode cX7_pieceAt 7 = .ok (.iaload, 1) := by decide +kernel
theorem dX7_pieceAt_8 : decode cX7_pieceAt 8 = .ok (.ifCond .ne 9, 3) := by decide +kernel
theorem dX7_pieceAt_11 : decode cX7_pieceAt 11 = .ok (.iinc 2 (-1), 3) := by decide +kernel
theorem dX7_pieceAt_14 : decode cX7_pieceAt 14 = .ok (.goto (-12), 3) := by decide +kernel
theorem dX7_pieceAt_17 : decode cX7_pieceAt 17 = .ok (.iload_n 2, 1) := by decide +kernel
theorem dX7_pieceAt_18 : decode cX7_pieceAt 18 = .ok (.ireturn, 1) := by decide +kernel
theorem dX7_isWhollyFree_0 : decode cX7_isWhollyFree 0 = .ok (.aload_n 0, 1) := by decide +kernel
theorem dX7_isWhollyFree_1 : decode cX7_isWhollyFree 1 = .ok (.getfield 9, 3) := by decide +kernel
theorem dX7_isWhollyFree_4 : decode cX7_isWhollyFree 4 = .ok (.iload_n 1, 1) := by decide +kernel
theorem dX7_isWhollyFree_5 : decode cX7_isWhollyFree 5 = .ok (.iaload, 1) := by decide +kernel
theorem dX7_isWhollyFree_6 : decode cX7_isWhollyFree 6 = .ok (.istore_n 2, 1) := by decide +kernel
theorem dX7_isWhollyFree_7 : decode cX7_isWhollyFree 7 = .ok (.aload_n 0, 1) := by decide +kernel
theorem dX7_isWhollyFree_8 : decode cX7_isWhollyFree 8 = .ok (.getfield 23, 3) := by decide +kernel
theorem dX7_isWhollyFree_11 : decode cX7_isWhollyFree 11 = .ok (.iload_n 2, 1) := by decide +kernel
theorem dX7_isWhollyFree_12 : decode cX7_isWhollyFree 12 = .ok (.iaload, 1) := by decide +kernel
theorem dX7_isWhollyFree_13 : decode cX7_isWhollyFree 13 = .ok (.ifCond .ne 47, 3) := by decide +kernel
theorem dX7_isWhollyFree_16 : decode cX7_isWhollyFree 16 = .ok (.bipush 64, 2) := by decide +kernel
theorem dX7_isWhollyFree_18 : decode cX7_isWhollyFree 18 = .ok (.iload_n 1, 1) := by decide +kernel
theorem dX7_isWhollyFree_19 : decode cX7_isWhollyFree 19 = .ok (.imul, 1) := by decide +kernel
theorem dX7_isWhollyFree_20 : decode cX7_isWhollyFree 20 = .ok (.istore_n 3, 1) := by decide +kernel
theorem dX7_isWhollyFree_21 : decode cX7_isWhollyFree 21 = .ok (.iload_n 3, 1) := by decide +kernel
theorem dX7_isWhollyFree_22 : decode cX7_isWhollyFree 22 = .ok (.bipush 64, 2) := by decide +kernel
theorem dX7_isWhollyFree_24 : decode cX7_isWhollyFree 24 = .ok (.iload_n 1, 1) := by decide +kernel
theorem dX7_isWhollyFree_25 : decode cX7_isWhollyFree 25 = .ok (.imul, 1) := by decide +kernel
theorem dX7_isWhollyFree_26 : decode cX7_isWhollyFree 26 = .ok (.bipush 64, 2) := by decide +kernel
theorem dX7_isWhollyFree_28 : decode cX7_isWhollyFree 28 = .ok (.iadd, 1) := by decide +kernel
theorem dX7_isWhollyFree_29 : decode cX7_isWhollyFree 29 = .ok (.if_icmp .ge 29, 3) := by decide +kernel
theorem dX7_isWhollyFree_32 : decode cX7_isWhollyFree 32 = .ok (.aload_n 0, 1) := by decide +kernel
theorem dX7_isWhollyFree_33 : decode cX7_isWhollyFree 33 = .ok (.getfield 17, 3) := by decide +kernel
theorem dX7_isWhollyFree_36 : decode cX7_isWhollyFree 36 = .ok (.iload_n 3, 1) := by decide +kernel
theorem dX7_isWhollyFree_37 : decode cX7_isWhollyFree 37 = .ok (.iaload, 1) := by decide +kernel
theorem dX7_isWhollyFree_38 : decode cX7_isWhollyFree 38 = .ok (.ifCond .le 14, 3) := by decide +kernel
theorem dX7_isWhollyFree_41 : decode cX7_isWhollyFree 41 = .ok (.aload_n 0, 1) := by decide +kernel
theorem dX7_isWhollyFree_42 : decode cX7_isWhollyFree 42 = .ok (.getfield 20, 3) := by decide +kernel
theorem dX7_isWhollyFree_45 : decode cX7_isWhollyFree 45 = .ok (.iload_n 3, 1) := by decide +kernel
theorem dX7_isWhollyFree_46 : decode cX7_isWhollyFree 46 = .ok (.iaload, 1) := by decide +kernel
theorem dX7_isWhollyFree_47 : decode cX7_isWhollyFree 47 = .ok (.ifCond .lt 5, 3) := by decide +kernel
theorem dX7_isWhollyFree_50 : decode cX7_isWhollyFree 50 = .ok (.iconst 0, 1) := by decide +kernel
theorem dX7_isWhollyFree_51 : decode cX7_isWhollyFree 51 = .ok (.ireturn, 1) := by decide +kernel
theorem dX7_isWhollyFree_52 : decode cX7_isWhollyFree 52 = .ok (.iinc 3 1, 3) := by decide +kernel
theorem dX7_isWhollyFree_55 : decode cX7_isWhollyFree 55 = .ok (.goto (-34), 3) := by decide +kernel
theorem dX7_isWhollyFree_58 : decode cX7_isWhollyFree 58 = .ok (.iconst 1, 1) := by decide +kernel
theorem dX7_isWhollyFree_59 : decode cX7_isWhollyFree 59 = .ok (.ireturn, 1) := by decide +kernel
theorem dX7_isWhollyFree_60 : decode cX7_isWhollyFree 60 = .ok (.aload_n 0, 1) := by decide +kernel
theorem dX7_isWhollyFree_61 : decode cX7_isWhollyFree 61 = .ok (.bipush 64, 2) := by decide +kernel
theorem dX7_isWhollyFree_63 : decode cX7_isWhollyFree 63 = .ok (.iload_n 1, 1) := by decide +kernel
theorem dX7_isWhollyFree_64 : decode cX7_isWhollyFree 64 = .ok (.imul, 1) := by decide +kernel
theorem dX7_isWhollyFree_65 : decode cX7_isWhollyFree 65 = .ok (.invokevirtual 163, 3) := by decide +kernel
theorem dX7_isWhollyFree_68 : decode cX7_isWhollyFree 68 = .ok (.istore_n 3, 1) := by decide +kernel
theorem dX7_isWhollyFree_69 : decode cX7_isWhollyFree 69 = .ok (.aload_n 0, 1) := by decide +kernel
theorem dX7_isWhollyFree_70 : decode cX7_isWhollyFree 70 = .ok (.getfield 20, 3) := by decide +kernel
theorem dX7_isWhollyFree_73 : decode cX7_isWhollyFree 73 = .ok (.iload_n 3, 1) := by decide +kernel
theorem dX7_isWhollyFree_74 : decode cX7_isWhollyFree 74 = .ok (.iaload, 1) := by decide +kernel
theorem dX7_isWhollyFree_75 : decode cX7_isWhollyFree 75 = .ok (.iconst (-1), 1) := by decide +kernel
theorem dX7_isWhollyFree_76 : decode cX7_isWhollyFree 76 = .ok (.if_icmp .ne 25, 3) := by decide +kernel
theorem dX7_isWhollyFree_79 : decode cX7_isWhollyFree 79 = .ok (.iload_n 3, 1) := by decide +kernel
theorem dX7_isWhollyFree_80 : decode cX7_isWhollyFree 80 = .ok (.aload_n 0, 1) := by decide +kernel
theorem dX7_isWhollyFree_81 : decode cX7_isWhollyFree 81 = .ok (.getfield 17, 3) := by decide +kernel
theorem dX7_isWhollyFree_84 : decode cX7_isWhollyFree 84 = .ok (.iload_n 3, 1) := by decide +kernel
theorem dX7_isWhollyFree_85 : decode cX7_isWhollyFree 85 = .ok (.iaload, 1) := by decide +kernel
theorem dX7_isWhollyFree_86 : decode cX7_isWhollyFree 86 = .ok (.iadd, 1) := by decide +kernel
theorem dX7_isWhollyFree_87 : decode cX7_isWhollyFree 87 = .ok (.bipush 64, 2) := by decide +kernel
theorem dX7_isWhollyFree_89 : decode cX7_isWhollyFree 89 = .ok (.iload_n 1, 1) := by decide +kernel
theorem dX7_isWhollyFree_90 : decode cX7_isWhollyFree 90 = .ok (.imul, 1) := by decide +kernel
theorem dX7_isWhollyFree_91 : decode cX7_isWhollyFree 91 = .ok (.bipush 64, 2) := by decide +kernel
theorem dX7_isWhollyFree_93 : decode cX7_isWhollyFree 93 = .ok (.iadd, 1) := by decide +kernel
theorem dX7_isWhollyFree_94 : decode cX7_isWhollyFree 94 = .ok (.if_icmp .lt 7, 3) := by decide +kernel
theorem dX7_isWhollyFree_97 : decode cX7_isWhollyFree 97 = .ok (.iconst 1, 1) := by decide +kernel
theorem dX7_isWhollyFree_98 : decode cX7_isWhollyFree 98 = .ok (.goto 4, 3) := by decide +kernel
theorem dX7_isWhollyFree_101 : decode cX7_isWhollyFree 101 = .ok (.iconst 0, 1) := by decide +kernel
theorem dX7_isWhollyFree_102 : decode cX7_isWhollyFree 102 = .ok (.ireturn, 1) := by decide +kernel
theorem dX7_goBack_0 : decode cX7_goBack 0 = .ok (.aload_n 0, 1) := by decide +kernel
theorem dX7_goBack_1 : decode cX7_goBack 1 = .ok (.getfield 9, 3) := by decide +kernel
theorem dX7_goBack_4 : decode cX7_goBack 4 = .ok (.iload_n 1, 1) := by decide +kernel
theorem dX7_goBack_5 : decode cX7_goBack 5 = .ok (.iaload, 1) := by decide +kernel
theorem dX7_goBack_6 : decode cX7_goBack 6 = .ok (.istore_n 2, 1) := by decide +kernel
theorem dX7_goBack_7 : decode cX7_goBack 7 = .ok (.bipush 64, 2) := by decide +kernel
theorem dX7_goBack_9 : decode cX7_goBack 9 = .ok (.iload_n 1, 1) := by decide +kernel
theorem dX7_goBack_10 : decode cX7_goBack 10 = .ok (.imul, 1) := by decide +kernel
theorem dX7_goBack_11 : decode cX7_goBack 11 = .ok (.istore_n 3, 1) := by decide +kernel
theorem dX7_goBack_12 : decode cX7_goBack 12 = .ok (.iload_n 3, 1) := by decide +kernel
theorem dX7_goBack_13 : decode cX7_goBack 13 = .ok (.bipush 64, 2) := by decide +kernel
theorem dX7_goBack_15 : decode cX7_goBack 15 = .ok (.iadd, 1) := by decide +kernel
theorem dX7_goBack_16 : decode cX7_goBack 16 = .ok (.istore 4, 2) := by decide +kernel
theorem dX7_goBack_18 : decode cX7_goBack 18 = .ok (.aload_n 0, 1) := by decide +kernel
theorem dX7_goBack_19 : decode cX7_goBack 19 = .ok (.getfield 23, 3) := by decide +kernel
theorem dX7_goBack_22 : decode cX7_goBack 22 = .ok (.iload_n 2, 1) := by decide +kernel
theorem dX7_goBack_23 : decode cX7_goBack 23 = .ok (.iaload, 1) := by decide +kernel
theorem dX7_goBack_24 : decode cX7_goBack 24 = .ok (.iconst 1, 1) := by decide +kernel
theorem dX7_goBack_25 : decode cX7_goBack 25 = .ok (.if_icmp .le 60, 3) := by decide +kernel
theorem dX7_goBack_28 : decode cX7_goBack 28 = .ok (.aload_n 0, 1) := by decide +kernel
theorem dX7_goBack_29 : decode cX7_goBack 29 = .ok (.iload_n 3, 1) := by decide +kernel
theorem dX7_goBack_30 : decode cX7_goBack 30 = .ok (.invokevirtual 163, 3) := by decide +kernel
theorem dX7_goBack_33 : decode cX7_goBack 33 = .ok (.istore 5, 2) := by decide +kernel
theorem dX7_goBack_35 : decode cX7_goBack 35 = .ok (.iload 5, 2) := by decide +kernel
theorem dX7_goBack_37 : decode cX7_goBack 37 = .ok (.aload_n 0, 1) := by decide +kernel
theorem dX7_goBack_38 : decode cX7_goBack 38 = .ok (.getfield 17, 3) := by decide +kernel
theorem dX7_goBack_41 : decode cX7_goBack 41 = .ok (.iload 5, 2) := by decide +kernel
theorem dX7_goBack_43 : decode cX7_goBack 43 = .ok (.iaload, 1) := by decide +kernel
theorem dX7_goBack_44 : decode cX7_goBack 44 = .ok (.iadd, 1) := by decide +kernel
theorem dX7_goBack_45 : decode cX7_goBack 45 = .ok (.istore 6, 2) := by decide +kernel
theorem dX7_goBack_47 : decode cX7_goBack 47 = .ok (.aload_n 0, 1) := by decide +kernel
theorem dX7_goBack_48 : decode cX7_goBack 48 = .ok (.getfield 17, 3) := by decide +kernel
theorem dX7_goBack_51 : decode cX7_goBack 51 = .ok (.iload 5, 2) := by decide +kernel
theorem dX7_goBack_53 : decode cX7_goBack 53 = .ok (.iload_n 3, 1) := by decide +kernel
theorem dX7_goBack_54 : decode cX7_goBack 54 = .ok (.iload 5, 2) := by decide +kernel
theorem dX7_goBack_56 : decode cX7_goBack 56 = .ok (.isub, 1) := by decide +kernel
theorem dX7_goBack_57 : decode cX7_goBack 57 = .ok (.iastore, 1) := by decide +kernel
theorem dX7_goBack_58 : decode cX7_goBack 58 = .ok (.iload 6, 2) := by decide +kernel
theorem dX7_goBack_60 : decode cX7_goBack 60 = .ok (.iload 4, 2) := by decide +kernel
theorem dX7_goBack_62 : decode cX7_goBack 62 = .ok (.if_icmp .le 23, 3) := by decide +kernel
theorem dX7_goBack_65 : decode cX7_goBack 65 = .ok (.aload_n 0, 1) := by decide +kernel
theorem dX7_goBack_66 : decode cX7_goBack 66 = .ok (.getfield 17, 3) := by decide +kernel
theorem dX7_goBack_69 : decode cX7_goBack 69 = .ok (.iload 4, 2) := by decide +kernel
theorem dX7_goBack_71 : decode cX7_goBack 71 = .ok (.iload 6, 2) := by decide +kernel
theorem dX7_goBack_73 : decode cX7_goBack 73 = .ok (.iload 4, 2) := by decide +kernel
theorem dX7_goBack_75 : decode cX7_goBack 75 = .ok (.isub, 1) := by decide +kernel
theorem dX7_goBack_76 : decode cX7_goBack 76 = .ok (.iastore, 1) := by decide +kernel
theorem dX7_goBack_77 : decode cX7_goBack 77 = .ok (.aload_n 0, 1) := by decide +kernel
theorem dX7_goBack_78 : decode cX7_goBack 78 = .ok (.getfield 20, 3) := by decide +kernel
theorem dX7_goBack_81 : decode cX7_goBack 81 = .ok (.iload 4, 2) := by decide +kernel
theorem dX7_goBack_83 : decode cX7_goBack 83 = .ok (.iconst (-1), 1) := by decide +kernel
theorem dX7_goBack_84 : decode cX7_goBack 84 = .ok (.iastore, 1) := by decide +kernel
theorem dX7_goBack_85 : decode cX7_goBack 85 = .ok (.iload_n 3, 1) := by decide +kernel
theorem dX7_goBack_86 : decode cX7_goBack 86 = .ok (.istore 5, 2) := by decide +kernel
theorem dX7_goBack_88 : decode cX7_goBack 88 = .ok (.iload 5, 2) := by decide +kernel
theorem dX7_goBack_90 : decode cX7_goBack 90 = .ok (.iload 4, 2) := by decide +kernel
theorem dX7_goBack_92 : decode cX7_goBack 92 = .ok (.if_icmp .ge 25, 3) := by decide +kernel
theorem dX7_goBack_95 : decode cX7_goBack 95 = .ok (.aload_n 0, 1) := by decide +kernel
theorem dX7_goBack_96 : decode cX7_goBack 96 = .ok (.getfield 17, 3) := by decide +kernel
theorem dX7_goBack_99 : decode cX7_goBack 99 = .ok (.iload 5, 2) := by decide +kernel
theorem dX7_goBack_101 : decode cX7_goBack 101 = .ok (.iconst 0, 1) := by decide +kernel
theorem dX7_goBack_102 : decode cX7_goBack 102 = .ok (.iastore, 1) := by decide +kernel
theorem dX7_goBack_103 : decode cX7_goBack 103 = .ok (.aload_n 0, 1) := by decide +kernel
theorem dX7_goBack_104 : decode cX7_goBack 104 = .ok (.getfield 20, 3) := by decide +kernel
theorem dX7_goBack_107 : decode cX7_goBack 107 = .ok (.iload 5, 2) := by decide +kernel
theorem dX7_goBack_109 : decode cX7_goBack 109 = .ok (.iconst (-1), 1) := by decide +kernel
theorem dX7_goBack_110 : decode cX7_goBack 110 = .ok (.iastore, 1) := by decide +kernel
theorem dX7_goBack_111 : decode cX7_goBack 111 = .ok (.iinc 5 1, 3) := by decide +kernel
theorem dX7_goBack_114 : decode cX7_goBack 114 = .ok (.goto (-26), 3) := by decide +kernel
theorem dX7_goBack_117 : decode cX7_goBack 117 = .ok (.aload_n 0, 1) := by decide +kernel
theorem dX7_goBack_118 : decode cX7_goBack 118 = .ok (.getfield 9, 3) := by decide +kernel
theorem dX7_goBack_121 : decode cX7_goBack 121 = .ok (.iload_n 1, 1) := by decide +kernel
theorem dX7_goBack_122 : decode cX7_goBack 122 = .ok (.iconst (-1), 1) := by decide +kernel
theorem dX7_goBack_123 : decode cX7_goBack 123 = .ok (.iastore, 1) := by decide +kernel
theorem dX7_goBack_124 : decode cX7_goBack 124 = .ok (.return_, 1) := by decide +kernel
theorem dX7_look_0 : decode cX7_look 0 = .ok (.iload_n 1, 1) := by decide +kernel
theorem dX7_look_1 : decode cX7_look 1 = .ok (.ifCond .lt 19, 3) := by decide +kernel
theorem dX7_look_4 : decode cX7_look 4 = .ok (.aload_n 0, 1) := by decide +kernel
theorem dX7_look_5 : decode cX7_look 5 = .ok (.getfield 29, 3) := by decide +kernel
theorem dX7_look_8 : decode cX7_look 8 = .ok (.iload_n 1, 1) := by decide +kernel
theorem dX7_look_9 : decode cX7_look 9 = .ok (.bipush 100, 2) := by decide +kernel
theorem dX7_look_11 : decode cX7_look 11 = .ok (.irem, 1) := by decide +kernel
theorem dX7_look_12 : decode cX7_look 12 = .ok (.iaload, 1) := by decide +kernel
theorem dX7_look_13 : decode cX7_look 13 = .ok (.iload_n 1, 1) := by decide +kernel
theorem dX7_look_14 : decode cX7_look 14 = .ok (.bipush 100, 2) := by decide +kernel
theorem dX7_look_16 : decode cX7_look 16 = .ok (.idiv, 1) := by decide +kernel
theorem dX7_look_17 : decode cX7_look 17 = .ok (.if_icmp .gt 6, 3) := by decide +kernel
theorem dX7_look_20 : decode cX7_look 20 = .ok (.bipush (-4), 2) := by decide +kernel
theorem dX7_look_22 : decode cX7_look 22 = .ok (.ireturn, 1) := by decide +kernel
theorem dX7_look_23 : decode cX7_look 23 = .ok (.iload_n 1, 1) := by decide +kernel
theorem dX7_look_24 : decode cX7_look 24 = .ok (.bipush 100, 2) := by decide +kernel
theorem dX7_look_26 : decode cX7_look 26 = .ok (.irem, 1) := by decide +kernel
theorem dX7_look_27 : decode cX7_look 27 = .ok (.istore_n 2, 1) := by decide +kernel
theorem dX7_look_28 : decode cX7_look 28 = .ok (.aload_n 0, 1) := by decide +kernel
theorem dX7_look_29 : decode cX7_look 29 = .ok (.getfield 32, 3) := by decide +kernel
theorem dX7_look_32 : decode cX7_look 32 = .ok (.iload_n 2, 1) := by decide +kernel
theorem dX7_look_33 : decode cX7_look 33 = .ok (.baload, 1) := by decide +kernel
theorem dX7_look_34 : decode cX7_look 34 = .ok (.ifCond .eq 22, 3) := by decide +kernel
theorem dX7_look_37 : decode cX7_look 37 = .ok (.aload_n 0, 1) := by decide +kernel
theorem dX7_look_38 : decode cX7_look 38 = .ok (.getfield 29, 3) := by decide +kernel
theorem dX7_look_41 : decode cX7_look 41 = .ok (.iload_n 2, 1) := by decide +kernel
theorem dX7_look_42 : decode cX7_look 42 = .ok (.iaload, 1) := by decide +kernel
theorem dX7_look_43 : decode cX7_look 43 = .ok (.iconst 1, 1) := by decide +kernel
theorem dX7_look_44 : decode cX7_look 44 = .ok (.isub, 1) := by decide +kernel
theorem dX7_look_45 : decode cX7_look 45 = .ok (.iload_n 1, 1) := by decide +kernel
theorem dX7_look_46 : decode cX7_look 46 = .ok (.bipush 100, 2) := by decide +kernel
theorem dX7_look_48 : decode cX7_look 48 = .ok (.idiv, 1) := by decide +kernel
theorem dX7_look_49 : decode cX7_look 49 = .ok (.if_icmp .ne 7, 3) := by decide +kernel
theorem dX7_look_52 : decode cX7_look 52 = .ok (.iconst 0, 1) := by decide +kernel
theorem dX7_look_53 : decode cX7_look 53 = .ok (.goto 5, 3) := by decide +kernel
theorem dX7_look_56 : decode cX7_look 56 = .ok (.bipush (-5), 2) := by decide +kernel
theorem dX7_look_58 : decode cX7_look 58 = .ok (.ireturn, 1) := by decide +kernel
theorem dX7_spoilt_0 : decode cX7_spoilt 0 = .ok (.aload_n 0, 1) := by decide +kernel
theorem dX7_spoilt_1 : decode cX7_spoilt 1 = .ok (.getfield 39, 3) := by decide +kernel
theorem dX7_spoilt_4 : decode cX7_spoilt 4 = .ok (.iload_n 1, 1) := by decide +kernel
theorem dX7_spoilt_5 : decode cX7_spoilt 5 = .ok (.iaload, 1) := by decide +kernel
theorem dX7_spoilt_6 : decode cX7_spoilt 6 = .ok (.istore_n 2, 1) := by decide +kernel
theorem dX7_spoilt_7 : decode cX7_spoilt 7 = .ok (.aload_n 0, 1) := by decide +kernel
theorem dX7_spoilt_8 : decode cX7_spoilt 8 = .ok (.getfield 23, 3) := by decide +kernel
theorem dX7_spoilt_11 : decode cX7_spoilt 11 = .ok (.iload_n 2, 1) := by decide +kernel
theorem dX7_spoilt_12 : decode cX7_spoilt 12 = .ok (.iaload, 1) := by decide +kernel
theorem dX7_spoilt_13 : decode cX7_spoilt 13 = .ok (.iconst 5, 1) := by decide +kernel
theorem dX7_spoilt_14 : decode cX7_spoilt 14 = .ok (.if_icmp .eq 5, 3) := by decide +kernel
theorem dX7_spoilt_17 : decode cX7_spoilt 17 = .ok (.iconst 0, 1) := by decide +kernel
theorem dX7_spoilt_18 : decode cX7_spoilt 18 = .ok (.ireturn, 1) := by decide +kernel
theorem dX7_spoilt_19 : decode cX7_spoilt 19 = .ok (.aload_n 0, 1) := by decide +kernel
theorem dX7_spoilt_20 : decode cX7_spoilt 20 = .ok (.getfield 13, 3) := by decide +kernel
theorem dX7_spoilt_23 : decode cX7_spoilt 23 = .ok (.aload_n 0, 1) := by decide +kernel
theorem dX7_spoilt_24 : decode cX7_spoilt 24 = .ok (.getfield 42, 3) := by decide +kernel
theorem dX7_spoilt_27 : decode cX7_spoilt 27 = .ok (.iload_n 1, 1) := by decide +kernel
theorem dX7_spoilt_28 : decode cX7_spoilt 28 = .ok (.iaload, 1) := by decide +kernel
theorem dX7_spoilt_29 : decode cX7_spoilt 29 = .ok (.iconst 1, 1) := by decide +kernel
theorem dX7_spoilt_30 : decode cX7_spoilt 30 = .ok (.iadd, 1) := by decide +kernel
theorem dX7_spoilt_31 : decode cX7_spoilt 31 = .ok (.laload, 1) := by decide +kernel
theorem dX7_spoilt_32 : decode cX7_spoilt 32 = .ok (.aload_n 0, 1) := by decide +kernel
theorem dX7_spoilt_33 : decode cX7_spoilt 33 = .ok (.getfield 26, 3) := by decide +kernel
theorem dX7_spoilt_36 : decode cX7_spoilt 36 = .ok (.iload_n 2, 1) := by decide +kernel
theorem dX7_spoilt_37 : decode cX7_spoilt 37 = .ok (.laload, 1) := by decide +kernel
theorem dX7_spoilt_38 : decode cX7_spoilt 38 = .ok (.lcmp, 1) := by decide +kernel
theorem dX7_spoilt_39 : decode cX7_spoilt 39 = .ok (.ifCond .ne 7, 3) := by decide +kernel
theorem dX7_spoilt_42 : decode cX7_spoilt 42 = .ok (.iconst 0, 1) := by decide +kernel
theorem dX7_spoilt_43 : decode cX7_spoilt 43 = .ok (.goto 4, 3) := by decide +kernel
theorem dX7_spoilt_46 : decode cX7_spoilt 46 = .ok (.iconst 1, 1) := by decide +kernel
theorem dX7_spoilt_47 : decode cX7_spoilt 47 = .ok (.aload_n 0, 1) := by decide +kernel
theorem dX7_spoilt_48 : decode cX7_spoilt 48 = .ok (.getfield 13, 3) := by decide +kernel
theorem dX7_spoilt_51 : decode cX7_spoilt 51 = .ok (.aload_n 0, 1) := by decide +kernel
theorem dX7_spoilt_52 : decode cX7_spoilt 52 = .ok (.getfield 42, 3) := by decide +kernel
theorem dX7_spoilt_55 : decode cX7_spoilt 55 = .ok (.iload_n 1, 1) := by decide +kernel
theorem dX7_spoilt_56 : decode cX7_spoilt 56 = .ok (.iaload, 1) := by decide +kernel
theorem dX7_spoilt_57 : decode cX7_spoilt 57 = .ok (.iconst 2, 1) := by decide +kernel
theorem dX7_spoilt_58 : decode cX7_spoilt 58 = .ok (.iadd, 1) := by decide +kernel
theorem dX7_spoilt_59 : decode cX7_spoilt 59 = .ok (.aload_n 0, 1) := by decide +kernel
theorem dX7_spoilt_60 : decode cX7_spoilt 60 = .ok (.getfield 36, 3) := by decide +kernel
theorem dX7_spoilt_63 : decode cX7_spoilt 63 = .ok (.iload_n 1, 1) := by decide +kernel
theorem dX7_spoilt_64 : decode cX7_spoilt 64 = .ok (.iaload, 1) := by decide +kernel
theorem dX7_spoilt_65 : decode cX7_spoilt 65 = .ok (.iadd, 1) := by decide +kernel
theorem dX7_spoilt_66 : decode cX7_spoilt 66 = .ok (.laload, 1) := by decide +kernel
theorem dX7_spoilt_67 : decode cX7_spoilt 67 = .ok (.aload_n 0, 1) := by decide +kernel
theorem dX7_spoilt_68 : decode cX7_spoilt 68 = .ok (.getfield 26, 3) := by decide +kernel
theorem dX7_spoilt_71 : decode cX7_spoilt 71 = .ok (.iload_n 2, 1) := by decide +kernel
theorem dX7_spoilt_72 : decode cX7_spoilt 72 = .ok (.laload, 1) := by decide +kernel
theorem dX7_spoilt_73 : decode cX7_spoilt 73 = .ok (.lcmp, 1) := by decide +kernel
theorem dX7_spoilt_74 : decode cX7_spoilt 74 = .ok (.ifCond .ne 7, 3) := by decide +kernel
theorem dX7_spoilt_77 : decode cX7_spoilt 77 = .ok (.iconst 0, 1) := by decide +kernel
theorem dX7_spoilt_78 : decode cX7_spoilt 78 = .ok (.goto 4, 3) := by decide +kernel
theorem dX7_spoilt_81 : decode cX7_spoilt 81 = .ok (.iconst 2, 1) := by decide +kernel
theorem dX7_spoilt_82 : decode cX7_spoilt 82 = .ok (.iadd, 1) := by decide +kernel
theorem dX7_spoilt_83 : decode cX7_spoilt 83 = .ok (.ireturn, 1) := by decide +kernel
theorem dX7_want_0 : decode cX7_want 0 = .ok (.aload_n 0, 1) := by decide +kernel
theorem dX7_want_1 : decode cX7_want 1 = .ok (.iload_n 1, 1) := by decide +kernel
theorem dX7_want_2 : decode cX7_want 2 = .ok (.invokevirtual 166, 3) := by decide +kernel
theorem dX7_want_5 : decode cX7_want 5 = .ok (.ifCond .ne 9, 3) := by decide +kernel
theorem dX7_want_8 : decode cX7_want 8 = .ok (.aload_n 0, 1) := by decide +kernel
theorem dX7_want_9 : decode cX7_want 9 = .ok (.iconst (-1), 1) := by decide +kernel
theorem dX7_want_10 : decode cX7_want 10 = .ok (.invokevirtual 90, 3) := by decide +kernel
theorem dX7_want_13 : decode cX7_want 13 = .ok (.ireturn, 1) := by decide +kernel
theorem dX7_want_14 : decode cX7_want 14 = .ok (.iload_n 2, 1) := by decide +kernel
theorem dX7_want_15 : decode cX7_want 15 = .ok (.ifCond .lt 12, 3) := by decide +kernel
theorem dX7_want_18 : decode cX7_want 18 = .ok (.iload_n 2, 1) := by decide +kernel
theorem dX7_want_19 : decode cX7_want 19 = .ok (.aload_n 0, 1) := by decide +kernel
theorem dX7_want_20 : decode cX7_want 20 = .ok (.iload_n 1, 1) := by decide +kernel
theorem dX7_want_21 : decode cX7_want 21 = .ok (.invokevirtual 169, 3) := by decide +kernel
theorem dX7_want_24 : decode cX7_want 24 = .ok (.if_icmp .le 18, 3) := by decide +kernel
theorem dX7_want_27 : decode cX7_want 27 = .ok (.aload_n 0, 1) := by decide +kernel
theorem dX7_want_28 : decode cX7_want 28 = .ok (.iload_n 2, 1) := by decide +kernel
theorem dX7_want_29 : decode cX7_want 29 = .ok (.ifCond .ge 8, 3) := by decide +kernel
theorem dX7_want_32 : decode cX7_want 32 = .ok (.bipush (-3), 2) := by decide +kernel
theorem dX7_want_34 : decode cX7_want 34 = .ok (.goto 4, 3) := by decide +kernel
theorem dX7_want_37 : decode cX7_want 37 = .ok (.iconst (-1), 1) := by decide +kernel
theorem dX7_want_38 : decode cX7_want 38 = .ok (.invokevirtual 90, 3) := by decide +kernel
theorem dX7_want_41 : decode cX7_want 41 = .ok (.ireturn, 1) := by decide +kernel
theorem dX7_want_42 : decode cX7_want 42 = .ok (.aload_n 0, 1) := by decide +kernel
theorem dX7_want_43 : decode cX7_want 43 = .ok (.getfield 101, 3) := by decide +kernel
theorem dX7_want_46 : decode cX7_want 46 = .ok (.bipush 100, 2) := by decide +kernel
theorem dX7_want_48 : decode cX7_want 48 = .ok (.if_icmp .ne 7, 3) := by decide +kernel
theorem dX7_want_51 : decode cX7_want 51 = .ok (.iconst (-1), 1) := by decide +kernel
theorem dX7_want_52 : decode cX7_want 52 = .ok (.goto 9, 3) := by decide +kernel
theorem dX7_want_55 : decode cX7_want 55 = .ok (.aload_n 0, 1) := by decide +kernel
theorem dX7_want_56 : decode cX7_want 56 = .ok (.iload_n 1, 1) := by decide +kernel
theorem dX7_want_57 : decode cX7_want 57 = .ok (.iload_n 2, 1) := by decide +kernel
theorem dX7_want_58 : decode cX7_want 58 = .ok (.invokevirtual 172, 3) := by decide +kernel
theorem dX7_want_61 : decode cX7_want 61 = .ok (.istore_n 3, 1) := by decide +kernel
theorem dX7_want_62 : decode cX7_want 62 = .ok (.iload_n 3, 1) := by decide +kernel
theorem dX7_want_63 : decode cX7_want 63 = .ok (.ifCond .ge 10, 3) := by decide +kernel
theorem dX7_want_66 : decode cX7_want 66 = .ok (.aload_n 0, 1) := by decide +kernel
theorem dX7_want_67 : decode cX7_want 67 = .ok (.bipush (-6), 2) := by decide +kernel
theorem dX7_want_69 : decode cX7_want 69 = .ok (.invokevirtual 90, 3) := by decide +kernel
theorem dX7_want_72 : decode cX7_want 72 = .ok (.ireturn, 1) := by decide +kernel
theorem dX7_want_73 : decode cX7_want 73 = .ok (.iconst 0, 1) := by decide +kernel
theorem dX7_want_74 : decode cX7_want 74 = .ok (.istore 4, 2) := by decide +kernel
theorem dX7_want_76 : decode cX7_want 76 = .ok (.aload_n 0, 1) := by decide +kernel
theorem dX7_want_77 : decode cX7_want 77 = .ok (.getfield 32, 3) := by decide +kernel
theorem dX7_want_80 : decode cX7_want 80 = .ok (.iload 4, 2) := by decide +kernel
theorem dX7_want_82 : decode cX7_want 82 = .ok (.baload, 1) := by decide +kernel
theorem dX7_want_83 : decode cX7_want 83 = .ok (.ifCond .eq 9, 3) := by decide +kernel
theorem dX7_want_86 : decode cX7_want 86 = .ok (.iinc 4 1, 3) := by decide +kernel
theorem dX7_want_89 : decode cX7_want 89 = .ok (.goto (-13), 3) := by decide +kernel
theorem dX7_want_92 : decode cX7_want 92 = .ok (.aload_n 0, 1) := by decide +kernel
theorem dX7_want_93 : decode cX7_want 93 = .ok (.getfield 32, 3) := by decide +kernel
theorem dX7_want_96 : decode cX7_want 96 = .ok (.iload 4, 2) := by decide +kernel
theorem dX7_want_98 : decode cX7_want 98 = .ok (.iconst 1, 1) := by decide +kernel
theorem dX7_want_99 : decode cX7_want 99 = .ok (.bastore, 1) := by decide +kernel
theorem dX7_want_100 : decode cX7_want 100 = .ok (.aload_n 0, 1) := by decide +kernel
theorem dX7_want_101 : decode cX7_want 101 = .ok (.getfield 29, 3) := by decide +kernel
theorem dX7_want_104 : decode cX7_want 104 = .ok (.iload 4, 2) := by decide +kernel
theorem dX7_want_106 : decode cX7_want 106 = .ok (.dup2, 1) := by decide +kernel
theorem dX7_want_107 : decode cX7_want 107 = .ok (.iaload, 1) := by decide +kernel
theorem dX7_want_108 : decode cX7_want 108 = .ok (.iconst 1, 1) := by decide +kernel
theorem dX7_want_109 : decode cX7_want 109 = .ok (.iadd, 1) := by decide +kernel
theorem dX7_want_110 : decode cX7_want 110 = .ok (.iastore, 1) := by decide +kernel
theorem dX7_want_111 : decode cX7_want 111 = .ok (.aload_n 0, 1) := by decide +kernel
theorem dX7_want_112 : decode cX7_want 112 = .ok (.dup, 1) := by decide +kernel
theorem dX7_want_113 : decode cX7_want 113 = .ok (.getfield 101, 3) := by decide +kernel
theorem dX7_want_116 : decode cX7_want 116 = .ok (.iconst 1, 1) := by decide +kernel
theorem dX7_want_117 : decode cX7_want 117 = .ok (.iadd, 1) := by decide +kernel
theorem dX7_want_118 : decode cX7_want 118 = .ok (.putfield 101, 3) := by decide +kernel
theorem dX7_want_121 : decode cX7_want 121 = .ok (.aload_n 0, 1) := by decide +kernel
theorem dX7_want_122 : decode cX7_want 122 = .ok (.iload 4, 2) := by decide +kernel
theorem dX7_want_124 : decode cX7_want 124 = .ok (.iload_n 1, 1) := by decide +kernel
theorem dX7_want_125 : decode cX7_want 125 = .ok (.iload_n 3, 1) := by decide +kernel
theorem dX7_want_126 : decode cX7_want 126 = .ok (.iload_n 2, 1) := by decide +kernel
theorem dX7_want_127 : decode cX7_want 127 = .ok (.invokevirtual 175, 3) := by decide +kernel
theorem dX7_want_130 : decode cX7_want 130 = .ok (.aload_n 0, 1) := by decide +kernel
theorem dX7_want_131 : decode cX7_want 131 = .ok (.invokevirtual 179, 3) := by decide +kernel
theorem dX7_want_134 : decode cX7_want 134 = .ok (.bipush 100, 2) := by decide +kernel
theorem dX7_want_136 : decode cX7_want 136 = .ok (.aload_n 0, 1) := by decide +kernel
theorem dX7_want_137 : decode cX7_want 137 = .ok (.getfield 29, 3) := by decide +kernel
theorem dX7_want_140 : decode cX7_want 140 = .ok (.iload 4, 2) := by decide +kernel
theorem dX7_want_142 : decode cX7_want 142 = .ok (.iaload, 1) := by decide +kernel
theorem dX7_want_143 : decode cX7_want 143 = .ok (.iconst 1, 1) := by decide +kernel
theorem dX7_want_144 : decode cX7_want 144 = .ok (.isub, 1) := by decide +kernel
theorem dX7_want_145 : decode cX7_want 145 = .ok (.imul, 1) := by decide +kernel
theorem dX7_want_146 : decode cX7_want 146 = .ok (.iload 4, 2) := by decide +kernel
theorem dX7_want_148 : decode cX7_want 148 = .ok (.iadd, 1) := by decide +kernel
theorem dX7_want_149 : decode cX7_want 149 = .ok (.ireturn, 1) := by decide +kernel
theorem dX7_give_0 : decode cX7_give 0 = .ok (.aload_n 0, 1) := by decide +kernel
theorem dX7_give_1 : decode cX7_give 1 = .ok (.iload_n 1, 1) := by decide +kernel
theorem dX7_give_2 : decode cX7_give 2 = .ok (.invokevirtual 182, 3) := by decide +kernel
theorem dX7_give_5 : decode cX7_give 5 = .ok (.istore_n 2, 1) := by decide +kernel
theorem dX7_give_6 : decode cX7_give 6 = .ok (.iload_n 2, 1) := by decide +kernel
theorem dX7_give_7 : decode cX7_give 7 = .ok (.ifCond .ge 7, 3) := by decide +kernel
theorem dX7_give_10 : decode cX7_give 10 = .ok (.iconst 0, 1) := by decide +kernel
theorem dX7_give_11 : decode cX7_give 11 = .ok (.goto 7, 3) := by decide +kernel
theorem dX7_give_14 : decode cX7_give 14 = .ok (.iload_n 1, 1) := by decide +kernel
theorem dX7_give_15 : decode cX7_give 15 = .ok (.bipush 100, 2) := by decide +kernel
theorem dX7_give_17 : decode cX7_give 17 = .ok (.irem, 1) := by decide +kernel
theorem dX7_give_18 : decode cX7_give 18 = .ok (.istore_n 3, 1) := by decide +kernel
theorem dX7_give_19 : decode cX7_give 19 = .ok (.iload_n 2, 1) := by decide +kernel
theorem dX7_give_20 : decode cX7_give 20 = .ok (.ifCond .lt 11, 3) := by decide +kernel
theorem dX7_give_23 : decode cX7_give 23 = .ok (.aload_n 0, 1) := by decide +kernel
theorem dX7_give_24 : decode cX7_give 24 = .ok (.iload_n 3, 1) := by decide +kernel
theorem dX7_give_25 : decode cX7_give 25 = .ok (.invokevirtual 185, 3) := by decide +kernel
theorem dX7_give_28 : decode cX7_give 28 = .ok (.ifCond .eq 18, 3) := by decide +kernel
theorem dX7_give_31 : decode cX7_give 31 = .ok (.aload_n 0, 1) := by decide +kernel
theorem dX7_give_32 : decode cX7_give 32 = .ok (.iload_n 2, 1) := by decide +kernel
theorem dX7_give_33 : decode cX7_give 33 = .ok (.ifCond .ge 7, 3) := by decide +kernel
theorem dX7_give_36 : decode cX7_give 36 = .ok (.iload_n 2, 1) := by decide +kernel
theorem dX7_give_37 : decode cX7_give 37 = .ok (.goto 5, 3) := by decide +kernel
theorem dX7_give_40 : decode cX7_give 40 = .ok (.bipush (-8), 2) := by decide +kernel
theorem dX7_give_42 : decode cX7_give 42 = .ok (.invokevirtual 90, 3) := by decide +kernel
theorem dX7_give_45 : decode cX7_give 45 = .ok (.ireturn, 1) := by decide +kernel
theorem dX7_give_46 : decode cX7_give 46 = .ok (.aload_n 0, 1) := by decide +kernel
theorem dX7_give_47 : decode cX7_give 47 = .ok (.getfield 32, 3) := by decide +kernel
theorem dX7_give_50 : decode cX7_give 50 = .ok (.iload_n 3, 1) := by decide +kernel
theorem dX7_give_51 : decode cX7_give 51 = .ok (.iconst 0, 1) := by decide +kernel
theorem dX7_give_52 : decode cX7_give 52 = .ok (.bastore, 1) := by decide +kernel
theorem dX7_give_53 : decode cX7_give 53 = .ok (.aload_n 0, 1) := by decide +kernel
theorem dX7_give_54 : decode cX7_give 54 = .ok (.dup, 1) := by decide +kernel
theorem dX7_give_55 : decode cX7_give 55 = .ok (.getfield 101, 3) := by decide +kernel
theorem dX7_give_58 : decode cX7_give 58 = .ok (.iconst 1, 1) := by decide +kernel
theorem dX7_give_59 : decode cX7_give 59 = .ok (.isub, 1) := by decide +kernel
theorem dX7_give_60 : decode cX7_give 60 = .ok (.putfield 101, 3) := by decide +kernel
theorem dX7_give_63 : decode cX7_give 63 = .ok (.aload_n 0, 1) := by decide +kernel
theorem dX7_give_64 : decode cX7_give 64 = .ok (.aload_n 0, 1) := by decide +kernel
theorem dX7_give_65 : decode cX7_give 65 = .ok (.getfield 39, 3) := by decide +kernel
theorem dX7_give_68 : decode cX7_give 68 = .ok (.iload_n 3, 1) := by decide +kernel
theorem dX7_give_69 : decode cX7_give 69 = .ok (.iaload, 1) := by decide +kernel
theorem dX7_give_70 : decode cX7_give 70 = .ok (.aload_n 0, 1) := by decide +kernel
theorem dX7_give_71 : decode cX7_give 71 = .ok (.getfield 42, 3) := by decide +kernel
theorem dX7_give_74 : decode cX7_give 74 = .ok (.iload_n 3, 1) := by decide +kernel
theorem dX7_give_75 : decode cX7_give 75 = .ok (.iaload, 1) := by decide +kernel
theorem dX7_give_76 : decode cX7_give 76 = .ok (.invokevirtual 188, 3) := by decide +kernel
theorem dX7_give_79 : decode cX7_give 79 = .ok (.aload_n 0, 1) := by decide +kernel
theorem dX7_give_80 : decode cX7_give 80 = .ok (.invokevirtual 179, 3) := by decide +kernel
theorem dX7_give_83 : decode cX7_give 83 = .ok (.aload_n 0, 1) := by decide +kernel
theorem dX7_give_84 : decode cX7_give 84 = .ok (.getfield 36, 3) := by decide +kernel
theorem dX7_give_87 : decode cX7_give 87 = .ok (.iload_n 3, 1) := by decide +kernel
theorem dX7_give_88 : decode cX7_give 88 = .ok (.iaload, 1) := by decide +kernel
theorem dX7_give_89 : decode cX7_give 89 = .ok (.ireturn, 1) := by decide +kernel
theorem dX7_grows_0 : decode cX7_grows 0 = .ok (.aload_n 0, 1) := by decide +kernel
theorem dX7_grows_1 : decode cX7_grows 1 = .ok (.getfield 39, 3) := by decide +kernel
theorem dX7_grows_4 : decode cX7_grows 4 = .ok (.iload_n 1, 1) := by decide +kernel
theorem dX7_grows_5 : decode cX7_grows 5 = .ok (.iaload, 1) := by decide +kernel
theorem dX7_grows_6 : decode cX7_grows 6 = .ok (.istore_n 3, 1) := by decide +kernel
theorem dX7_grows_7 : decode cX7_grows 7 = .ok (.aload_n 0, 1) := by decide +kernel
theorem dX7_grows_8 : decode cX7_grows 8 = .ok (.getfield 42, 3) := by decide +kernel
theorem dX7_grows_11 : decode cX7_grows 11 = .ok (.iload_n 1, 1) := by decide +kernel
theorem dX7_grows_12 : decode cX7_grows 12 = .ok (.iaload, 1) := by decide +kernel
theorem dX7_grows_13 : decode cX7_grows 13 = .ok (.istore 4, 2) := by decide +kernel
theorem dX7_grows_15 : decode cX7_grows 15 = .ok (.aload_n 0, 1) := by decide +kernel
theorem dX7_grows_16 : decode cX7_grows 16 = .ok (.getfield 23, 3) := by decide +kernel
theorem dX7_grows_19 : decode cX7_grows 19 = .ok (.iload_n 3, 1) := by decide +kernel
theorem dX7_grows_20 : decode cX7_grows 20 = .ok (.iaload, 1) := by decide +kernel
theorem dX7_grows_21 : decode cX7_grows 21 = .ok (.ifCond .ne 5, 3) := by decide +kernel
theorem dX7_grows_24 : decode cX7_grows 24 = .ok (.iconst 1, 1) := by decide +kernel
theorem dX7_grows_25 : decode cX7_grows 25 = .ok (.ireturn, 1) := by decide +kernel
theorem dX7_grows_26 : decode cX7_grows 26 = .ok (.aload_n 0, 1) := by decide +kernel
theorem dX7_grows_27 : decode cX7_grows 27 = .ok (.getfield 23, 3) := by decide +kernel
theorem dX7_grows_30 : decode cX7_grows 30 = .ok (.iload_n 3, 1) := by decide +kernel
theorem dX7_grows_31 : decode cX7_grows 31 = .ok (.iaload, 1) := by decide +kernel
theorem dX7_grows_32 : decode cX7_grows 32 = .ok (.iconst 1, 1) := by decide +kernel
theorem dX7_grows_33 : decode cX7_grows 33 = .ok (.if_icmp .ne 20, 3) := by decide +kernel
theorem dX7_grows_36 : decode cX7_grows 36 = .ok (.aload_n 0, 1) := by decide +kernel
theorem dX7_grows_37 : decode cX7_grows 37 = .ok (.getfield 17, 3) := by decide +kernel
theorem dX7_grows_40 : decode cX7_grows 40 = .ok (.iload 4, 2) := by decide +kernel
theorem dX7_grows_42 : decode cX7_grows 42 = .ok (.iaload, 1) := by decide +kernel
theorem dX7_grows_43 : decode cX7_grows 43 = .ok (.iload_n 2, 1) := by decide +kernel
theorem dX7_grows_44 : decode cX7_grows 44 = .ok (.if_icmp .lt 7, 3) := by decide +kernel
theorem dX7_grows_47 : decode cX7_grows 47 = .ok (.iconst 1, 1) := by decide +kernel
theorem dX7_grows_48 : decode cX7_grows 48 = .ok (.goto 4, 3) := by decide +kernel
theorem dX7_grows_51 : decode cX7_grows 51 = .ok (.iconst 0, 1) := by decide +kernel
theorem dX7_grows_52 : decode cX7_grows 52 = .ok (.ireturn, 1) := by decide +kernel
theorem dX7_grows_53 : decode cX7_grows 53 = .ok (.iload_n 2, 1) := by decide +kernel
theorem dX7_grows_54 : decode cX7_grows 54 = .ok (.aload_n 0, 1) := by decide +kernel
theorem dX7_grows_55 : decode cX7_grows 55 = .ok (.getfield 36, 3) := by decide +kernel
theorem dX7_grows_58 : decode cX7_grows 58 = .ok (.iload_n 1, 1) := by decide +kernel
theorem dX7_grows_59 : decode cX7_grows 59 = .ok (.iaload, 1) := by decide +kernel
theorem dX7_grows_60 : decode cX7_grows 60 = .ok (.isub, 1) := by decide +kernel
theorem dX7_grows_61 : decode cX7_grows 61 = .ok (.istore 5, 2) := by decide +kernel
theorem dX7_grows_63 : decode cX7_grows 63 = .ok (.iload 5, 2) := by decide +kernel
theorem dX7_grows_65 : decode cX7_grows 65 = .ok (.ifCond .ne 5, 3) := by decide +kernel
theorem dX7_grows_68 : decode cX7_grows 68 = .ok (.iconst 1, 1) := by decide +kernel
theorem dX7_grows_69 : decode cX7_grows 69 = .ok (.ireturn, 1) := by decide +kernel
theorem dX7_grows_70 : decode cX7_grows 70 = .ok (.iload 4, 2) := by decide +kernel
theorem dX7_grows_72 : decode cX7_grows 72 = .ok (.aload_n 0, 1) := by decide +kernel
theorem dX7_grows_73 : decode cX7_grows 73 = .ok (.getfield 17, 3) := by decide +kernel
theorem dX7_grows_76 : decode cX7_grows 76 = .ok (.iload 4, 2) := by decide +kernel
theorem dX7_grows_78 : decode cX7_grows 78 = .ok (.iaload, 1) := by decide +kernel
theorem dX7_grows_79 : decode cX7_grows 79 = .ok (.iadd, 1) := by decide +kernel
theorem dX7_grows_80 : decode cX7_grows 80 = .ok (.istore 6, 2) := by decide +kernel
theorem dX7_grows_82 : decode cX7_grows 82 = .ok (.aload_n 0, 1) := by decide +kernel
theorem dX7_grows_83 : decode cX7_grows 83 = .ok (.iload 6, 2) := by decide +kernel
theorem dX7_grows_85 : decode cX7_grows 85 = .ok (.iload_n 3, 1) := by decide +kernel
theorem dX7_grows_86 : decode cX7_grows 86 = .ok (.invokevirtual 121, 3) := by decide +kernel
theorem dX7_grows_89 : decode cX7_grows 89 = .ok (.ifCond .eq 15, 3) := by decide +kernel
theorem dX7_grows_92 : decode cX7_grows 92 = .ok (.aload_n 0, 1) := by decide +kernel
theorem dX7_grows_93 : decode cX7_grows 93 = .ok (.getfield 17, 3) := by decide +kernel
theorem dX7_grows_96 : decode cX7_grows 96 = .ok (.iload 6, 2) := by decide +kernel
theorem dX7_grows_98 : decode cX7_grows 98 = .ok (.iaload, 1) := by decide +kernel
theorem dX7_grows_99 : decode cX7_grows 99 = .ok (.iload 5, 2) := by decide +kernel
theorem dX7_grows_101 : decode cX7_grows 101 = .ok (.if_icmp .ge 5, 3) := by decide +kernel
theorem dX7_grows_104 : decode cX7_grows 104 = .ok (.iconst 0, 1) := by decide +kernel
theorem dX7_grows_105 : decode cX7_grows 105 = .ok (.ireturn, 1) := by decide +kernel
theorem dX7_grows_106 : decode cX7_grows 106 = .ok (.aload_n 0, 1) := by decide +kernel
theorem dX7_grows_107 : decode cX7_grows 107 = .ok (.iload 6, 2) := by decide +kernel
theorem dX7_grows_109 : decode cX7_grows 109 = .ok (.iload 5, 2) := by decide +kernel
theorem dX7_grows_111 : decode cX7_grows 111 = .ok (.invokevirtual 141, 3) := by decide +kernel
theorem dX7_grows_114 : decode cX7_grows 114 = .ok (.aload_n 0, 1) := by decide +kernel
theorem dX7_grows_115 : decode cX7_grows 115 = .ok (.getfield 17, 3) := by decide +kernel
theorem dX7_grows_118 : decode cX7_grows 118 = .ok (.iload 6, 2) := by decide +kernel
theorem dX7_grows_120 : decode cX7_grows 120 = .ok (.iconst 0, 1) := by decide +kernel
theorem dX7_grows_121 : decode cX7_grows 121 = .ok (.iastore, 1) := by decide +kernel
theorem dX7_grows_122 : decode cX7_grows 122 = .ok (.aload_n 0, 1) := by decide +kernel
theorem dX7_grows_123 : decode cX7_grows 123 = .ok (.getfield 17, 3) := by decide +kernel
theorem dX7_grows_126 : decode cX7_grows 126 = .ok (.iload 4, 2) := by decide +kernel
theorem dX7_grows_128 : decode cX7_grows 128 = .ok (.dup2, 1) := by decide +kernel
theorem dX7_grows_129 : decode cX7_grows 129 = .ok (.iaload, 1) := by decide +kernel
theorem dX7_grows_130 : decode cX7_grows 130 = .ok (.iload 5, 2) := by decide +kernel
theorem dX7_grows_132 : decode cX7_grows 132 = .ok (.iadd, 1) := by decide +kernel
theorem dX7_grows_133 : decode cX7_grows 133 = .ok (.iastore, 1) := by decide +kernel
theorem dX7_grows_134 : decode cX7_grows 134 = .ok (.iconst 1, 1) := by decide +kernel
theorem dX7_grows_135 : decode cX7_grows 135 = .ok (.ireturn, 1) := by decide +kernel
theorem dX7_grow_0 : decode cX7_grow 0 = .ok (.aload_n 0, 1) := by decide +kernel
theorem dX7_grow_1 : decode cX7_grow 1 = .ok (.iload_n 1, 1) := by decide +kernel
theorem dX7_grow_2 : decode cX7_grow 2 = .ok (.invokevirtual 182, 3) := by decide +kernel
theorem dX7_grow_5 : decode cX7_grow 5 = .ok (.istore_n 3, 1) := by decide +kernel
theorem dX7_grow_6 : decode cX7_grow 6 = .ok (.iload_n 3, 1) := by decide +kernel
theorem dX7_grow_7 : decode cX7_grow 7 = .ok (.ifCond .ge 7, 3) := by decide +kernel
theorem dX7_grow_10 : decode cX7_grow 10 = .ok (.iconst 0, 1) := by decide +kernel
theorem dX7_grow_11 : decode cX7_grow 11 = .ok (.goto 7, 3) := by decide +kernel
theorem dX7_grow_14 : decode cX7_grow 14 = .ok (.iload_n 1, 1) := by decide +kernel
theorem dX7_grow_15 : decode cX7_grow 15 = .ok (.bipush 100, 2) := by decide +kernel
theorem dX7_grow_17 : decode cX7_grow 17 = .ok (.irem, 1) := by decide +kernel
theorem dX7_grow_18 : decode cX7_grow 18 = .ok (.istore 4, 2) := by decide +kernel
theorem dX7_grow_20 : decode cX7_grow 20 = .ok (.iload_n 3, 1) := by decide +kernel
theorem dX7_grow_21 : decode cX7_grow 21 = .ok (.ifCond .lt 12, 3) := by decide +kernel
theorem dX7_grow_24 : decode cX7_grow 24 = .ok (.aload_n 0, 1) := by decide +kernel
theorem dX7_grow_25 : decode cX7_grow 25 = .ok (.iload 4, 2) := by decide +kernel
theorem dX7_grow_27 : decode cX7_grow 27 = .ok (.invokevirtual 185, 3) := by decide +kernel
theorem dX7_grow_30 : decode cX7_grow 30 = .ok (.ifCond .eq 18, 3) := by decide +kernel
theorem dX7_grow_33 : decode cX7_grow 33 = .ok (.aload_n 0, 1) := by decide +kernel
theorem dX7_grow_34 : decode cX7_grow 34 = .ok (.iload_n 3, 1) := by decide +kernel
theorem dX7_grow_35 : decode cX7_grow 35 = .ok (.ifCond .ge 7, 3) := by decide +kernel
theorem dX7_grow_38 : decode cX7_grow 38 = .ok (.iload_n 3, 1) := by decide +kernel
theorem dX7_grow_39 : decode cX7_grow 39 = .ok (.goto 5, 3) := by decide +kernel
theorem dX7_grow_42 : decode cX7_grow 42 = .ok (.bipush (-8), 2) := by decide +kernel
theorem dX7_grow_44 : decode cX7_grow 44 = .ok (.invokevirtual 90, 3) := by decide +kernel
theorem dX7_grow_47 : decode cX7_grow 47 = .ok (.ireturn, 1) := by decide +kernel
theorem dX7_grow_48 : decode cX7_grow 48 = .ok (.aload_n 0, 1) := by decide +kernel
theorem dX7_grow_49 : decode cX7_grow 49 = .ok (.getfield 39, 3) := by decide +kernel
theorem dX7_grow_52 : decode cX7_grow 52 = .ok (.iload 4, 2) := by decide +kernel
theorem dX7_grow_54 : decode cX7_grow 54 = .ok (.iaload, 1) := by decide +kernel
theorem dX7_grow_55 : decode cX7_grow 55 = .ok (.istore 5, 2) := by decide +kernel
theorem dX7_grow_57 : decode cX7_grow 57 = .ok (.iload_n 2, 1) := by decide +kernel
theorem dX7_grow_58 : decode cX7_grow 58 = .ok (.aload_n 0, 1) := by decide +kernel
theorem dX7_grow_59 : decode cX7_grow 59 = .ok (.getfield 36, 3) := by decide +kernel
theorem dX7_grow_62 : decode cX7_grow 62 = .ok (.iload 4, 2) := by decide +kernel
theorem dX7_grow_64 : decode cX7_grow 64 = .ok (.iaload, 1) := by decide +kernel
theorem dX7_grow_65 : decode cX7_grow 65 = .ok (.if_icmp .lt 13, 3) := by decide +kernel
theorem dX7_grow_68 : decode cX7_grow 68 = .ok (.iload_n 2, 1) := by decide +kernel
theorem dX7_grow_69 : decode cX7_grow 69 = .ok (.aload_n 0, 1) := by decide +kernel
theorem dX7_grow_70 : decode cX7_grow 70 = .ok (.iload 5, 2) := by decide +kernel
theorem dX7_grow_72 : decode cX7_grow 72 = .ok (.invokevirtual 169, 3) := by decide +kernel
theorem dX7_grow_75 : decode cX7_grow 75 = .ok (.if_icmp .le 9, 3) := by decide +kernel
theorem dX7_grow_78 : decode cX7_grow 78 = .ok (.aload_n 0, 1) := by decide +kernel
theorem dX7_grow_79 : decode cX7_grow 79 = .ok (.iconst (-1), 1) := by decide +kernel
theorem dX7_grow_80 : decode cX7_grow 80 = .ok (.invokevirtual 90, 3) := by decide +kernel
theorem dX7_grow_83 : decode cX7_grow 83 = .ok (.ireturn, 1) := by decide +kernel
theorem dX7_grow_84 : decode cX7_grow 84 = .ok (.aload_n 0, 1) := by decide +kernel
theorem dX7_grow_85 : decode cX7_grow 85 = .ok (.getfield 42, 3) := by decide +kernel
theorem dX7_grow_88 : decode cX7_grow 88 = .ok (.iload 4, 2) := by decide +kernel
theorem dX7_grow_90 : decode cX7_grow 90 = .ok (.iaload, 1) := by decide +kernel
theorem dX7_grow_91 : decode cX7_grow 91 = .ok (.iconst 2, 1) := by decide +kernel
theorem dX7_grow_92 : decode cX7_grow 92 = .ok (.iadd, 1) := by decide +kernel
theorem dX7_grow_93 : decode cX7_grow 93 = .ok (.aload_n 0, 1) := by decide +kernel
theorem dX7_grow_94 : decode cX7_grow 94 = .ok (.getfield 36, 3) := by decide +kernel
theorem dX7_grow_97 : decode cX7_grow 97 = .ok (.iload 4, 2) := by decide +kernel
theorem dX7_grow_99 : decode cX7_grow 99 = .ok (.iaload, 1) := by decide +kernel
theorem dX7_grow_100 : decode cX7_grow 100 = .ok (.iadd, 1) := by decide +kernel
theorem dX7_grow_101 : decode cX7_grow 101 = .ok (.istore 6, 2) := by decide +kernel
theorem dX7_grow_103 : decode cX7_grow 103 = .ok (.aload_n 0, 1) := by decide +kernel
theorem dX7_grow_104 : decode cX7_grow 104 = .ok (.iload 4, 2) := by decide +kernel
theorem dX7_grow_106 : decode cX7_grow 106 = .ok (.iload_n 2, 1) := by decide +kernel
theorem dX7_grow_107 : decode cX7_grow 107 = .ok (.invokevirtual 191, 3) := by decide +kernel
theorem dX7_grow_110 : decode cX7_grow 110 = .ok (.ifCond .eq 42, 3) := by decide +kernel
theorem dX7_grow_113 : decode cX7_grow 113 = .ok (.aload_n 0, 1) := by decide +kernel
theorem dX7_grow_114 : decode cX7_grow 114 = .ok (.getfield 23, 3) := by decide +kernel
theorem dX7_grow_117 : decode cX7_grow 117 = .ok (.iload 5, 2) := by decide +kernel
theorem dX7_grow_119 : decode cX7_grow 119 = .ok (.iaload, 1) := by decide +kernel
theorem dX7_grow_120 : decode cX7_grow 120 = .ok (.iconst 5, 1) := by decide +kernel
theorem dX7_grow_121 : decode cX7_grow 121 = .ok (.if_icmp .ne 11, 3) := by decide +kernel
theorem dX7_grow_124 : decode cX7_grow 124 = .ok (.aload_n 0, 1) := by decide +kernel
theorem dX7_grow_125 : decode cX7_grow 125 = .ok (.getfield 13, 3) := by decide +kernel
theorem dX7_grow_128 : decode cX7_grow 128 = .ok (.iload 6, 2) := by decide +kernel
theorem dX7_grow_130 : decode cX7_grow 130 = .ok (.lconst 0, 1) := by decide +kernel
theorem dX7_grow_131 : decode cX7_grow 131 = .ok (.lastore, 1) := by decide +kernel
theorem dX7_grow_132 : decode cX7_grow 132 = .ok (.aload_n 0, 1) := by decide +kernel
theorem dX7_grow_133 : decode cX7_grow 133 = .ok (.getfield 36, 3) := by decide +kernel
theorem dX7_grow_136 : decode cX7_grow 136 = .ok (.iload 4, 2) := by decide +kernel
theorem dX7_grow_138 : decode cX7_grow 138 = .ok (.iload_n 2, 1) := by decide +kernel
theorem dX7_grow_139 : decode cX7_grow 139 = .ok (.iastore, 1) := by decide +kernel
theorem dX7_grow_140 : decode cX7_grow 140 = .ok (.aload_n 0, 1) := by decide +kernel
theorem dX7_grow_141 : decode cX7_grow 141 = .ok (.iload 4, 2) := by decide +kernel
theorem dX7_grow_143 : decode cX7_grow 143 = .ok (.invokevirtual 144, 3) := by decide +kernel
theorem dX7_grow_146 : decode cX7_grow 146 = .ok (.aload_n 0, 1) := by decide +kernel
theorem dX7_grow_147 : decode cX7_grow 147 = .ok (.invokevirtual 179, 3) := by decide +kernel
theorem dX7_grow_150 : decode cX7_grow 150 = .ok (.iconst 1, 1) := by decide +kernel
theorem dX7_grow_151 : decode cX7_grow 151 = .ok (.ireturn, 1) := by decide +kernel
theorem dX7_grow_152 : decode cX7_grow 152 = .ok (.aload_n 0, 1) := by decide +kernel
theorem dX7_grow_153 : decode cX7_grow 153 = .ok (.getfield 42, 3) := by decide +kernel
theorem dX7_grow_156 : decode cX7_grow 156 = .ok (.iload 4, 2) := by decide +kernel
theorem dX7_grow_158 : decode cX7_grow 158 = .ok (.iaload, 1) := by decide +kernel
theorem dX7_grow_159 : decode cX7_grow 159 = .ok (.istore 7, 2) := by decide +kernel
theorem dX7_grow_161 : decode cX7_grow 161 = .ok (.aload_n 0, 1) := by decide +kernel
theorem dX7_grow_162 : decode cX7_grow 162 = .ok (.iload 5, 2) := by decide +kernel
theorem dX7_grow_164 : decode cX7_grow 164 = .ok (.iload_n 2, 1) := by decide +kernel
theorem dX7_grow_165 : decode cX7_grow 165 = .ok (.invokevirtual 172, 3) := by decide +kernel
theorem dX7_grow_168 : decode cX7_grow 168 = .ok (.istore 8, 2) := by decide +kernel
theorem dX7_grow_170 : decode cX7_grow 170 = .ok (.iload 8, 2) := by decide +kernel
theorem dX7_grow_172 : decode cX7_grow 172 = .ok (.ifCond .ge 10, 3) := by decide +kernel
theorem dX7_grow_175 : decode cX7_grow 175 = .ok (.aload_n 0, 1) := by decide +kernel
theorem dX7_grow_176 : decode cX7_grow 176 = .ok (.bipush (-6), 2) := by decide +kernel
theorem dX7_grow_178 : decode cX7_grow 178 = .ok (.invokevirtual 90, 3) := by decide +kernel
theorem dX7_grow_181 : decode cX7_grow 181 = .ok (.ireturn, 1) := by decide +kernel
theorem dX7_grow_182 : decode cX7_grow 182 = .ok (.iconst 0, 1) := by decide +kernel
theorem dX7_grow_183 : decode cX7_grow 183 = .ok (.istore 9, 2) := by decide +kernel
theorem dX7_grow_185 : decode cX7_grow 185 = .ok (.iload 9, 2) := by decide +kernel
theorem dX7_grow_187 : decode cX7_grow 187 = .ok (.aload_n 0, 1) := by decide +kernel
theorem dX7_grow_188 : decode cX7_grow 188 = .ok (.getfield 36, 3) := by decide +kernel
theorem dX7_grow_191 : decode cX7_grow 191 = .ok (.iload 4, 2) := by decide +kernel
theorem dX7_grow_193 : decode cX7_grow 193 = .ok (.iaload, 1) := by decide +kernel
theorem dX7_grow_194 : decode cX7_grow 194 = .ok (.if_icmp .ge 41, 3) := by decide +kernel
theorem dX7_grow_197 : decode cX7_grow 197 = .ok (.aload_n 0, 1) := by decide +kernel
theorem dX7_grow_198 : decode cX7_grow 198 = .ok (.getfield 13, 3) := by decide +kernel
theorem dX7_grow_201 : decode cX7_grow 201 = .ok (.aload_n 0, 1) := by decide +kernel
theorem dX7_grow_202 : decode cX7_grow 202 = .ok (.iload 5, 2) := by decide +kernel
theorem dX7_grow_204 : decode cX7_grow 204 = .ok (.iload 8, 2) := by decide +kernel
theorem dX7_grow_206 : decode cX7_grow 206 = .ok (.invokevirtual 194, 3) := by decide +kernel
theorem dX7_grow_209 : decode cX7_grow 209 = .ok (.iload 9, 2) := by decide +kernel
theorem dX7_grow_211 : decode cX7_grow 211 = .ok (.iadd, 1) := by decide +kernel
theorem dX7_grow_212 : decode cX7_grow 212 = .ok (.aload_n 0, 1) := by decide +kernel
theorem dX7_grow_213 : decode cX7_grow 213 = .ok (.getfield 13, 3) := by decide +kernel
theorem dX7_grow_216 : decode cX7_grow 216 = .ok (.aload_n 0, 1) := by decide +kernel
theorem dX7_grow_217 : decode cX7_grow 217 = .ok (.iload 5, 2) := by decide +kernel
theorem dX7_grow_219 : decode cX7_grow 219 = .ok (.iload 7, 2) := by decide +kernel
theorem dX7_grow_221 : decode cX7_grow 221 = .ok (.invokevirtual 194, 3) := by decide +kernel
theorem dX7_grow_224 : decode cX7_grow 224 = .ok (.iload 9, 2) := by decide +kernel
theorem dX7_grow_226 : decode cX7_grow 226 = .ok (.iadd, 1) := by decide +kernel
theorem dX7_grow_227 : decode cX7_grow 227 = .ok (.laload, 1) := by decide +kernel
theorem dX7_grow_228 : decode cX7_grow 228 = .ok (.lastore, 1) := by decide +kernel
theorem dX7_grow_229 : decode cX7_grow 229 = .ok (.iinc 9 1, 3) := by decide +kernel
theorem dX7_grow_232 : decode cX7_grow 232 = .ok (.goto (-47), 3) := by decide +kernel
theorem dX7_grow_235 : decode cX7_grow 235 = .ok (.aload_n 0, 1) := by decide +kernel
theorem dX7_grow_236 : decode cX7_grow 236 = .ok (.iload 4, 2) := by decide +kernel
theorem dX7_grow_238 : decode cX7_grow 238 = .ok (.iload 5, 2) := by decide +kernel
theorem dX7_grow_240 : decode cX7_grow 240 = .ok (.iload 8, 2) := by decide +kernel
theorem dX7_grow_242 : decode cX7_grow 242 = .ok (.iload_n 2, 1) := by decide +kernel
theorem dX7_grow_243 : decode cX7_grow 243 = .ok (.invokevirtual 175, 3) := by decide +kernel
theorem dX7_grow_246 : decode cX7_grow 246 = .ok (.aload_n 0, 1) := by decide +kernel
theorem dX7_grow_247 : decode cX7_grow 247 = .ok (.iload 5, 2) := by decide +kernel
theorem dX7_grow_249 : decode cX7_grow 249 = .ok (.iload 7, 2) := by decide +kernel
theorem dX7_grow_251 : decode cX7_grow 251 = .ok (.invokevirtual 188, 3) := by decide +kernel
theorem dX7_grow_254 : decode cX7_grow 254 = .ok (.aload_n 0, 1) := by decide +kernel
theorem dX7_grow_255 : decode cX7_grow 255 = .ok (.invokevirtual 179, 3) := by decide +kernel
theorem dX7_grow_258 : decode cX7_grow 258 = .ok (.iconst 2, 1) := by decide +kernel
theorem dX7_grow_259 : decode cX7_grow 259 = .ok (.ireturn, 1) := by decide +kernel
theorem dX7_shrink_0 : decode cX7_shrink 0 = .ok (.aload_n 0, 1) := by decide +kernel
theorem dX7_shrink_1 : decode cX7_shrink 1 = .ok (.iload_n 1, 1) := by decide +kernel
theorem dX7_shrink_2 : decode cX7_shrink 2 = .ok (.invokevirtual 182, 3) := by decide +kernel
theorem dX7_shrink_5 : decode cX7_shrink 5 = .ok (.istore_n 3, 1) := by decide +kernel
theorem dX7_shrink_6 : decode cX7_shrink 6 = .ok (.iload_n 3, 1) := by decide +kernel
theorem dX7_shrink_7 : decode cX7_shrink 7 = .ok (.ifCond .ge 7, 3) := by decide +kernel
theorem dX7_shrink_10 : decode cX7_shrink 10 = .ok (.iconst 0, 1) := by decide +kernel
theorem dX7_shrink_11 : decode cX7_shrink 11 = .ok (.goto 7, 3) := by decide +kernel
theorem dX7_shrink_14 : decode cX7_shrink 14 = .ok (.iload_n 1, 1) := by decide +kernel
theorem dX7_shrink_15 : decode cX7_shrink 15 = .ok (.bipush 100, 2) := by decide +kernel
theorem dX7_shrink_17 : decode cX7_shrink 17 = .ok (.irem, 1) := by decide +kernel
theorem dX7_shrink_18 : decode cX7_shrink 18 = .ok (.istore 4, 2) := by decide +kernel
theorem dX7_shrink_20 : decode cX7_shrink 20 = .ok (.iload_n 3, 1) := by decide +kernel
theorem dX7_shrink_21 : decode cX7_shrink 21 = .ok (.ifCond .lt 12, 3) := by decide +kernel
theorem dX7_shrink_24 : decode cX7_shrink 24 = .ok (.aload_n 0, 1) := by decide +kernel
theorem dX7_shrink_25 : decode cX7_shrink 25 = .ok (.iload 4, 2) := by decide +kernel
theorem dX7_shrink_27 : decode cX7_shrink 27 = .ok (.invokevirtual 185, 3) := by decide +kernel
theorem dX7_shrink_30 : decode cX7_shrink 30 = .ok (.ifCond .eq 18, 3) := by decide +kernel
theorem dX7_shrink_33 : decode cX7_shrink 33 = .ok (.aload_n 0, 1) := by decide +kernel
theorem dX7_shrink_34 : decode cX7_shrink 34 = .ok (.iload_n 3, 1) := by decide +kernel
theorem dX7_shrink_35 : decode cX7_shrink 35 = .ok (.ifCond .ge 7, 3) := by decide +kernel
theorem dX7_shrink_38 : decode cX7_shrink 38 = .ok (.iload_n 3, 1) := by decide +kernel
theorem dX7_shrink_39 : decode cX7_shrink 39 = .ok (.goto 5, 3) := by decide +kernel
theorem dX7_shrink_42 : decode cX7_shrink 42 = .ok (.bipush (-8), 2) := by decide +kernel
theorem dX7_shrink_44 : decode cX7_shrink 44 = .ok (.invokevirtual 90, 3) := by decide +kernel
theorem dX7_shrink_47 : decode cX7_shrink 47 = .ok (.ireturn, 1) := by decide +kernel
theorem dX7_shrink_48 : decode cX7_shrink 48 = .ok (.iload_n 2, 1) := by decide +kernel
theorem dX7_shrink_49 : decode cX7_shrink 49 = .ok (.ifCond .lt 14, 3) := by decide +kernel
theorem dX7_shrink_52 : decode cX7_shrink 52 = .ok (.iload_n 2, 1) := by decide +kernel
theorem dX7_shrink_53 : decode cX7_shrink 53 = .ok (.aload_n 0, 1) := by decide +kernel
theorem dX7_shrink_54 : decode cX7_shrink 54 = .ok (.getfield 36, 3) := by decide +kernel
theorem dX7_shrink_57 : decode cX7_shrink 57 = .ok (.iload 4, 2) := by decide +kernel
theorem dX7_shrink_59 : decode cX7_shrink 59 = .ok (.iaload, 1) := by decide +kernel
theorem dX7_shrink_60 : decode cX7_shrink 60 = .ok (.if_icmp .le 18, 3) := by decide +kernel
theorem dX7_shrink_63 : decode cX7_shrink 63 = .ok (.aload_n 0, 1) := by decide +kernel
theorem dX7_shrink_64 : decode cX7_shrink 64 = .ok (.iload_n 2, 1) := by decide +kernel
theorem dX7_shrink_65 : decode cX7_shrink 65 = .ok (.ifCond .ge 8, 3) := by decide +kernel
theorem dX7_shrink_68 : decode cX7_shrink 68 = .ok (.bipush (-3), 2) := by decide +kernel
theorem dX7_shrink_70 : decode cX7_shrink 70 = .ok (.goto 4, 3) := by decide +kernel
theorem dX7_shrink_73 : decode cX7_shrink 73 = .ok (.iconst (-1), 1) := by decide +kernel
theorem dX7_shrink_74 : decode cX7_shrink 74 = .ok (.invokevirtual 90, 3) := by decide +kernel
theorem dX7_shrink_77 : decode cX7_shrink 77 = .ok (.ireturn, 1) := by decide +kernel
theorem dX7_shrink_78 : decode cX7_shrink 78 = .ok (.aload_n 0, 1) := by decide +kernel
theorem dX7_shrink_79 : decode cX7_shrink 79 = .ok (.getfield 39, 3) := by decide +kernel
theorem dX7_shrink_82 : decode cX7_shrink 82 = .ok (.iload 4, 2) := by decide +kernel
theorem dX7_shrink_84 : decode cX7_shrink 84 = .ok (.iaload, 1) := by decide +kernel
theorem dX7_shrink_85 : decode cX7_shrink 85 = .ok (.istore 5, 2) := by decide +kernel
theorem dX7_shrink_87 : decode cX7_shrink 87 = .ok (.aload_n 0, 1) := by decide +kernel
theorem dX7_shrink_88 : decode cX7_shrink 88 = .ok (.getfield 42, 3) := by decide +kernel
theorem dX7_shrink_91 : decode cX7_shrink 91 = .ok (.iload 4, 2) := by decide +kernel
theorem dX7_shrink_93 : decode cX7_shrink 93 = .ok (.iaload, 1) := by decide +kernel
theorem dX7_shrink_94 : decode cX7_shrink 94 = .ok (.istore 6, 2) := by decide +kernel
theorem dX7_shrink_96 : decode cX7_shrink 96 = .ok (.aload_n 0, 1) := by decide +kernel
theorem dX7_shrink_97 : decode cX7_shrink 97 = .ok (.getfield 36, 3) := by decide +kernel
theorem dX7_shrink_100 : decode cX7_shrink 100 = .ok (.iload 4, 2) := by decide +kernel
theorem dX7_shrink_102 : decode cX7_shrink 102 = .ok (.iaload, 1) := by decide +kernel
theorem dX7_shrink_103 : decode cX7_shrink 103 = .ok (.iload_n 2, 1) := by decide +kernel
theorem dX7_shrink_104 : decode cX7_shrink 104 = .ok (.isub, 1) := by decide +kernel
theorem dX7_shrink_105 : decode cX7_shrink 105 = .ok (.istore 7, 2) := by decide +kernel
theorem dX7_shrink_107 : decode cX7_shrink 107 = .ok (.iload_n 2, 1) := by decide +kernel
theorem dX7_shrink_108 : decode cX7_shrink 108 = .ok (.istore 8, 2) := by decide +kernel
theorem dX7_shrink_110 : decode cX7_shrink 110 = .ok (.iload 8, 2) := by decide +kernel
theorem dX7_shrink_112 : decode cX7_shrink 112 = .ok (.aload_n 0, 1) := by decide +kernel
theorem dX7_shrink_113 : decode cX7_shrink 113 = .ok (.getfield 36, 3) := by decide +kernel
theorem dX7_shrink_116 : decode cX7_shrink 116 = .ok (.iload 4, 2) := by decide +kernel
theorem dX7_shrink_118 : decode cX7_shrink 118 = .ok (.iaload, 1) := by decide +kernel
theorem dX7_shrink_119 : decode cX7_shrink 119 = .ok (.if_icmp .ge 26, 3) := by decide +kernel
theorem dX7_shrink_122 : decode cX7_shrink 122 = .ok (.aload_n 0, 1) := by decide +kernel
theorem dX7_shrink_123 : decode cX7_shrink 123 = .ok (.getfield 13, 3) := by decide +kernel
theorem dX7_shrink_126 : decode cX7_shrink 126 = .ok (.aload_n 0, 1) := by decide +kernel
theorem dX7_shrink_127 : decode cX7_shrink 127 = .ok (.iload 5, 2) := by decide +kernel
theorem dX7_shrink_129 : decode cX7_shrink 129 = .ok (.iload 6, 2) := by decide +kernel
theorem dX7_shrink_131 : decode cX7_shrink 131 = .ok (.invokevirtual 194, 3) := by decide +kernel
theorem dX7_shrink_134 : decode cX7_shrink 134 = .ok (.iload 8, 2) := by decide +kernel
theorem dX7_shrink_136 : decode cX7_shrink 136 = .ok (.iadd, 1) := by decide +kernel
theorem dX7_shrink_137 : decode cX7_shrink 137 = .ok (.lconst 0, 1) := by decide +kernel
theorem dX7_shrink_138 : decode cX7_shrink 138 = .ok (.lastore, 1) := by decide +kernel
theorem dX7_shrink_139 : decode cX7_shrink 139 = .ok (.iinc 8 1, 3) := by decide +kernel
theorem dX7_shrink_142 : decode cX7_shrink 142 = .ok (.goto (-32), 3) := by decide +kernel
theorem dX7_shrink_145 : decode cX7_shrink 145 = .ok (.aload_n 0, 1) := by decide +kernel
theorem dX7_shrink_146 : decode cX7_shrink 146 = .ok (.getfield 23, 3) := by decide +kernel
theorem dX7_shrink_149 : decode cX7_shrink 149 = .ok (.iload 5, 2) := by decide +kernel
theorem dX7_shrink_151 : decode cX7_shrink 151 = .ok (.iaload, 1) := by decide +kernel
theorem dX7_shrink_152 : decode cX7_shrink 152 = .ok (.iconst 5, 1) := by decide +kernel
theorem dX7_shrink_153 : decode cX7_shrink 153 = .ok (.if_icmp .ne 21, 3) := by decide +kernel
theorem dX7_shrink_156 : decode cX7_shrink 156 = .ok (.aload_n 0, 1) := by decide +kernel
theorem dX7_shrink_157 : decode cX7_shrink 157 = .ok (.getfield 13, 3) := by decide +kernel
theorem dX7_shrink_160 : decode cX7_shrink 160 = .ok (.iload 6, 2) := by decide +kernel
theorem dX7_shrink_162 : decode cX7_shrink 162 = .ok (.iconst 2, 1) := by decide +kernel
theorem dX7_shrink_163 : decode cX7_shrink 163 = .ok (.iadd, 1) := by decide +kernel
theorem dX7_shrink_164 : decode cX7_shrink 164 = .ok (.aload_n 0, 1) := by decide +kernel
theorem dX7_shrink_165 : decode cX7_shrink 165 = .ok (.getfield 36, 3) := by decide +kernel
theorem dX7_shrink_168 : decode cX7_shrink 168 = .ok (.iload 4, 2) := by decide +kernel
theorem dX7_shrink_170 : decode cX7_shrink 170 = .ok (.iaload, 1) := by decide +kernel
theorem dX7_shrink_171 : decode cX7_shrink 171 = .ok (.iadd, 1) := by decide +kernel
theorem dX7_shrink_172 : decode cX7_shrink 172 = .ok (.lconst 0, 1) := by decide +kernel
theorem dX7_shrink_173 : decode cX7_shrink 173 = .ok (.lastore, 1) := by decide +kernel
theorem dX7_shrink_174 : decode cX7_shrink 174 = .ok (.aload_n 0, 1) := by decide +kernel
theorem dX7_shrink_175 : decode cX7_shrink 175 = .ok (.getfield 36, 3) := by decide +kernel
theorem dX7_shrink_178 : decode cX7_shrink 178 = .ok (.iload 4, 2) := by decide +kernel
theorem dX7_shrink_180 : decode cX7_shrink 180 = .ok (.iload_n 2, 1) := by decide +kernel
theorem dX7_shrink_181 : decode cX7_shrink 181 = .ok (.iastore, 1) := by decide +kernel
theorem dX7_shrink_182 : decode cX7_shrink 182 = .ok (.aload_n 0, 1) := by decide +kernel
theorem dX7_shrink_183 : decode cX7_shrink 183 = .ok (.getfield 23, 3) := by decide +kernel
theorem dX7_shrink_186 : decode cX7_shrink 186 = .ok (.iload 5, 2) := by decide +kernel
theorem dX7_shrink_188 : decode cX7_shrink 188 = .ok (.iaload, 1) := by decide +kernel
theorem dX7_shrink_189 : decode cX7_shrink 189 = .ok (.iconst 1, 1) := by decide +kernel
theorem dX7_shrink_190 : decode cX7_shrink 190 = .ok (.if_icmp .ne 71, 3) := by decide +kernel
theorem dX7_shrink_193 : decode cX7_shrink 193 = .ok (.aload_n 0, 1) := by decide +kernel
theorem dX7_shrink_194 : decode cX7_shrink 194 = .ok (.getfield 17, 3) := by decide +kernel
theorem dX7_shrink_197 : decode cX7_shrink 197 = .ok (.iload 6, 2) := by decide +kernel
theorem dX7_shrink_199 : decode cX7_shrink 199 = .ok (.iaload, 1) := by decide +kernel
theorem dX7_shrink_200 : decode cX7_shrink 200 = .ok (.iconst 2, 1) := by decide +kernel
theorem dX7_shrink_201 : decode cX7_shrink 201 = .ok (.idiv, 1) := by decide +kernel
theorem dX7_shrink_202 : decode cX7_shrink 202 = .ok (.iload_n 2, 1) := by decide +kernel
theorem dX7_shrink_203 : decode cX7_shrink 203 = .ok (.invokestatic 114, 3) := by decide +kernel
theorem dX7_shrink_206 : decode cX7_shrink 206 = .ok (.if_icmp .lt 102, 3) := by decide +kernel
theorem dX7_shrink_209 : decode cX7_shrink 209 = .ok (.aload_n 0, 1) := by decide +kernel
theorem dX7_shrink_210 : decode cX7_shrink 210 = .ok (.getfield 17, 3) := by decide +kernel
theorem dX7_shrink_213 : decode cX7_shrink 213 = .ok (.iload 6, 2) := by decide +kernel
theorem dX7_shrink_215 : decode cX7_shrink 215 = .ok (.dup2, 1) := by decide +kernel
theorem dX7_shrink_216 : decode cX7_shrink 216 = .ok (.iaload, 1) := by decide +kernel
theorem dX7_shrink_217 : decode cX7_shrink 217 = .ok (.iconst 2, 1) := by decide +kernel
theorem dX7_shrink_218 : decode cX7_shrink 218 = .ok (.idiv, 1) := by decide +kernel
theorem dX7_shrink_219 : decode cX7_shrink 219 = .ok (.iastore, 1) := by decide +kernel
theorem dX7_shrink_220 : decode cX7_shrink 220 = .ok (.aload_n 0, 1) := by decide +kernel
theorem dX7_shrink_221 : decode cX7_shrink 221 = .ok (.getfield 17, 3) := by decide +kernel
theorem dX7_shrink_224 : decode cX7_shrink 224 = .ok (.iload 6, 2) := by decide +kernel
theorem dX7_shrink_226 : decode cX7_shrink 226 = .ok (.aload_n 0, 1) := by decide +kernel
theorem dX7_shrink_227 : decode cX7_shrink 227 = .ok (.getfield 17, 3) := by decide +kernel
theorem dX7_shrink_230 : decode cX7_shrink 230 = .ok (.iload 6, 2) := by decide +kernel
theorem dX7_shrink_232 : decode cX7_shrink 232 = .ok (.iaload, 1) := by decide +kernel
theorem dX7_shrink_233 : decode cX7_shrink 233 = .ok (.iadd, 1) := by decide +kernel
theorem dX7_shrink_234 : decode cX7_shrink 234 = .ok (.aload_n 0, 1) := by decide +kernel
theorem dX7_shrink_235 : decode cX7_shrink 235 = .ok (.getfield 17, 3) := by decide +kernel
theorem dX7_shrink_238 : decode cX7_shrink 238 = .ok (.iload 6, 2) := by decide +kernel
theorem dX7_shrink_240 : decode cX7_shrink 240 = .ok (.iaload, 1) := by decide +kernel
theorem dX7_shrink_241 : decode cX7_shrink 241 = .ok (.iastore, 1) := by decide +kernel
theorem dX7_shrink_242 : decode cX7_shrink 242 = .ok (.aload_n 0, 1) := by decide +kernel
theorem dX7_shrink_243 : decode cX7_shrink 243 = .ok (.getfield 20, 3) := by decide +kernel
theorem dX7_shrink_246 : decode cX7_shrink 246 = .ok (.iload 6, 2) := by decide +kernel
theorem dX7_shrink_248 : decode cX7_shrink 248 = .ok (.aload_n 0, 1) := by decide +kernel
theorem dX7_shrink_249 : decode cX7_shrink 249 = .ok (.getfield 17, 3) := by decide +kernel
theorem dX7_shrink_252 : decode cX7_shrink 252 = .ok (.iload 6, 2) := by decide +kernel
theorem dX7_shrink_254 : decode cX7_shrink 254 = .ok (.iaload, 1) := by decide +kernel
theorem dX7_shrink_255 : decode cX7_shrink 255 = .ok (.iadd, 1) := by decide +kernel
theorem dX7_shrink_256 : decode cX7_shrink 256 = .ok (.iconst (-1), 1) := by decide +kernel
theorem dX7_shrink_257 : decode cX7_shrink 257 = .ok (.iastore, 1) := by decide +kernel
theorem dX7_shrink_258 : decode cX7_shrink 258 = .ok (.goto (-65), 3) := by decide +kernel
theorem dX7_shrink_261 : decode cX7_shrink 261 = .ok (.aload_n 0, 1) := by decide +kernel
theorem dX7_shrink_262 : decode cX7_shrink 262 = .ok (.getfield 23, 3) := by decide +kernel
theorem dX7_shrink_265 : decode cX7_shrink 265 = .ok (.iload 5, 2) := by decide +kernel
theorem dX7_shrink_267 : decode cX7_shrink 267 = .ok (.iaload, 1) := by decide +kernel
theorem dX7_shrink_268 : decode cX7_shrink 268 = .ok (.ifCond .eq 40, 3) := by decide +kernel
theorem dX7_shrink_271 : decode cX7_shrink 271 = .ok (.iload 7, 2) := by decide +kernel
theorem dX7_shrink_273 : decode cX7_shrink 273 = .ok (.ifCond .le 35, 3) := by decide +kernel
theorem dX7_shrink_276 : decode cX7_shrink 276 = .ok (.aload_n 0, 1) := by decide +kernel
theorem dX7_shrink_277 : decode cX7_shrink 277 = .ok (.iload 6, 2) := by decide +kernel
theorem dX7_shrink_279 : decode cX7_shrink 279 = .ok (.aload_n 0, 1) := by decide +kernel
theorem dX7_shrink_280 : decode cX7_shrink 280 = .ok (.getfield 17, 3) := by decide +kernel
theorem dX7_shrink_283 : decode cX7_shrink 283 = .ok (.iload 6, 2) := by decide +kernel
theorem dX7_shrink_285 : decode cX7_shrink 285 = .ok (.iaload, 1) := by decide +kernel
theorem dX7_shrink_286 : decode cX7_shrink 286 = .ok (.iload 7, 2) := by decide +kernel
theorem dX7_shrink_288 : decode cX7_shrink 288 = .ok (.isub, 1) := by decide +kernel
theorem dX7_shrink_289 : decode cX7_shrink 289 = .ok (.invokevirtual 141, 3) := by decide +kernel
theorem dX7_shrink_292 : decode cX7_shrink 292 = .ok (.aload_n 0, 1) := by decide +kernel
theorem dX7_shrink_293 : decode cX7_shrink 293 = .ok (.iload 5, 2) := by decide +kernel
theorem dX7_shrink_295 : decode cX7_shrink 295 = .ok (.iload 6, 2) := by decide +kernel
theorem dX7_shrink_297 : decode cX7_shrink 297 = .ok (.aload_n 0, 1) := by decide +kernel
theorem dX7_shrink_298 : decode cX7_shrink 298 = .ok (.getfield 17, 3) := by decide +kernel
theorem dX7_shrink_301 : decode cX7_shrink 301 = .ok (.iload 6, 2) := by decide +kernel
theorem dX7_shrink_303 : decode cX7_shrink 303 = .ok (.iaload, 1) := by decide +kernel
theorem dX7_shrink_304 : decode cX7_shrink 304 = .ok (.iadd, 1) := by decide +kernel
theorem dX7_shrink_305 : decode cX7_shrink 305 = .ok (.invokevirtual 124, 3) := by decide +kernel
theorem dX7_shrink_308 : decode cX7_shrink 308 = .ok (.aload_n 0, 1) := by decide +kernel
theorem dX7_shrink_309 : decode cX7_shrink 309 = .ok (.iload 4, 2) := by decide +kernel
theorem dX7_shrink_311 : decode cX7_shrink 311 = .ok (.invokevirtual 144, 3) := by decide +kernel
theorem dX7_shrink_314 : decode cX7_shrink 314 = .ok (.aload_n 0, 1) := by decide +kernel
theorem dX7_shrink_315 : decode cX7_shrink 315 = .ok (.invokevirtual 179, 3) := by decide +kernel
theorem dX7_shrink_318 : decode cX7_shrink 318 = .ok (.iload 7, 2) := by decide +kernel
theorem dX7_shrink_320 : decode cX7_shrink 320 = .ok (.ireturn, 1) := by decide +kernel
theorem dX7_lookAt_0 : decode cX7_lookAt 0 = .ok (.aload_n 0, 1) := by decide +kernel
theorem dX7_lookAt_1 : decode cX7_lookAt 1 = .ok (.iload_n 1, 1) := by decide +kernel
theorem dX7_lookAt_2 : decode cX7_lookAt 2 = .ok (.invokevirtual 182, 3) := by decide +kernel
theorem dX7_lookAt_5 : decode cX7_lookAt 5 = .ok (.istore_n 3, 1) := by decide +kernel
theorem dX7_lookAt_6 : decode cX7_lookAt 6 = .ok (.iload_n 3, 1) := by decide +kernel
theorem dX7_lookAt_7 : decode cX7_lookAt 7 = .ok (.ifCond .ge 7, 3) := by decide +kernel
theorem dX7_lookAt_10 : decode cX7_lookAt 10 = .ok (.iload_n 3, 1) := by decide +kernel
theorem dX7_lookAt_11 : decode cX7_lookAt 11 = .ok (.goto 25, 3) := by decide +kernel
theorem dX7_lookAt_14 : decode cX7_lookAt 14 = .ok (.iload_n 2, 1) := by decide +kernel
theorem dX7_lookAt_15 : decode cX7_lookAt 15 = .ok (.ifCond .lt 16, 3) := by decide +kernel
theorem dX7_lookAt_18 : decode cX7_lookAt 18 = .ok (.iload_n 2, 1) := by decide +kernel
theorem dX7_lookAt_19 : decode cX7_lookAt 19 = .ok (.aload_n 0, 1) := by decide +kernel
theorem dX7_lookAt_20 : decode cX7_lookAt 20 = .ok (.getfield 36, 3) := by decide +kernel
theorem dX7_lookAt_23 : decode cX7_lookAt 23 = .ok (.iload_n 1, 1) := by decide +kernel
theorem dX7_lookAt_24 : decode cX7_lookAt 24 = .ok (.bipush 100, 2) := by decide +kernel
theorem dX7_lookAt_26 : decode cX7_lookAt 26 = .ok (.irem, 1) := by decide +kernel
theorem dX7_lookAt_27 : decode cX7_lookAt 27 = .ok (.iaload, 1) := by decide +kernel
theorem dX7_lookAt_28 : decode cX7_lookAt 28 = .ok (.if_icmp .lt 7, 3) := by decide +kernel
theorem dX7_lookAt_31 : decode cX7_lookAt 31 = .ok (.iconst (-1), 1) := by decide +kernel
theorem dX7_lookAt_32 : decode cX7_lookAt 32 = .ok (.goto 4, 3) := by decide +kernel
theorem dX7_lookAt_35 : decode cX7_lookAt 35 = .ok (.iconst 0, 1) := by decide +kernel
theorem dX7_lookAt_36 : decode cX7_lookAt 36 = .ok (.ireturn, 1) := by decide +kernel
theorem dX7_firstNumber_0 : decode cX7_firstNumber 0 = .ok (.aload_n 0, 1) := by decide +kernel
theorem dX7_firstNumber_1 : decode cX7_firstNumber 1 = .ok (.aload_n 0, 1) := by decide +kernel
theorem dX7_firstNumber_2 : decode cX7_firstNumber 2 = .ok (.getfield 39, 3) := by decide +kernel
theorem dX7_firstNumber_5 : decode cX7_firstNumber 5 = .ok (.iload_n 1, 1) := by decide +kernel
theorem dX7_firstNumber_6 : decode cX7_firstNumber 6 = .ok (.iaload, 1) := by decide +kernel
theorem dX7_firstNumber_7 : decode cX7_firstNumber 7 = .ok (.aload_n 0, 1) := by decide +kernel
theorem dX7_firstNumber_8 : decode cX7_firstNumber 8 = .ok (.getfield 42, 3) := by decide +kernel
theorem dX7_firstNumber_11 : decode cX7_firstNumber 11 = .ok (.iload_n 1, 1) := by decide +kernel
theorem dX7_firstNumber_12 : decode cX7_firstNumber 12 = .ok (.iaload, 1) := by decide +kernel
theorem dX7_firstNumber_13 : decode cX7_firstNumber 13 = .ok (.invokevirtual 194, 3) := by decide +kernel
theorem dX7_firstNumber_16 : decode cX7_firstNumber 16 = .ok (.ireturn, 1) := by decide +kernel
theorem dX7_write_0 : decode cX7_write 0 = .ok (.aload_n 0, 1) := by decide +kernel
theorem dX7_write_1 : decode cX7_write 1 = .ok (.iload_n 1, 1) := by decide +kernel
theorem dX7_write_2 : decode cX7_write 2 = .ok (.iload_n 2, 1) := by decide +kernel
theorem dX7_write_3 : decode cX7_write 3 = .ok (.invokevirtual 197, 3) := by decide +kernel
theorem dX7_write_6 : decode cX7_write 6 = .ok (.istore 5, 2) := by decide +kernel
theorem dX7_write_8 : decode cX7_write 8 = .ok (.iload 5, 2) := by decide +kernel
theorem dX7_write_10 : decode cX7_write 10 = .ok (.ifCond .ne 19, 3) := by decide +kernel
theorem dX7_write_13 : decode cX7_write 13 = .ok (.aload_n 0, 1) := by decide +kernel
theorem dX7_write_14 : decode cX7_write 14 = .ok (.getfield 13, 3) := by decide +kernel
theorem dX7_write_17 : decode cX7_write 17 = .ok (.aload_n 0, 1) := by decide +kernel
theorem dX7_write_18 : decode cX7_write 18 = .ok (.iload_n 1, 1) := by decide +kernel
theorem dX7_write_19 : decode cX7_write 19 = .ok (.bipush 100, 2) := by decide +kernel
theorem dX7_write_21 : decode cX7_write 21 = .ok (.irem, 1) := by decide +kernel
theorem dX7_write_22 : decode cX7_write 22 = .ok (.invokevirtual 200, 3) := by decide +kernel
theorem dX7_write_25 : decode cX7_write 25 = .ok (.iload_n 2, 1) := by decide +kernel
theorem dX7_write_26 : decode cX7_write 26 = .ok (.iadd, 1) := by decide +kernel
theorem dX7_write_27 : decode cX7_write 27 = .ok (.lload_n 3, 1) := by decide +kernel
theorem dX7_write_28 : decode cX7_write 28 = .ok (.lastore, 1) := by decide +kernel
theorem dX7_write_29 : decode cX7_write 29 = .ok (.aload_n 0, 1) := by decide +kernel
theorem dX7_write_30 : decode cX7_write 30 = .ok (.iload 5, 2) := by decide +kernel
theorem dX7_write_32 : decode cX7_write 32 = .ok (.invokevirtual 90, 3) := by decide +kernel
theorem dX7_write_35 : decode cX7_write 35 = .ok (.ireturn, 1) := by decide +kernel
theorem dX7_read_0 : decode cX7_read 0 = .ok (.aload_n 0, 1) := by decide +kernel
theorem dX7_read_1 : decode cX7_read 1 = .ok (.iload_n 1, 1) := by decide +kernel
theorem dX7_read_2 : decode cX7_read 2 = .ok (.iload_n 2, 1) := by decide +kernel
theorem dX7_read_3 : decode cX7_read 3 = .ok (.invokevirtual 197, 3) := by decide +kernel
theorem dX7_read_6 : decode cX7_read 6 = .ok (.istore_n 3, 1) := by decide +kernel
theorem dX7_read_7 : decode cX7_read 7 = .ok (.iload_n 3, 1) := by decide +kernel
theorem dX7_read_8 : decode cX7_read 8 = .ok (.ifCond .ne 22, 3) := by decide +kernel
theorem dX7_read_11 : decode cX7_read 11 = .ok (.aload_n 0, 1) := by decide +kernel
theorem dX7_read_12 : decode cX7_read 12 = .ok (.aload_n 0, 1) := by decide +kernel
theorem dX7_read_13 : decode cX7_read 13 = .ok (.getfield 13, 3) := by decide +kernel
theorem dX7_read_16 : decode cX7_read 16 = .ok (.aload_n 0, 1) := by decide +kernel
theorem dX7_read_17 : decode cX7_read 17 = .ok (.iload_n 1, 1) := by decide +kernel
theorem dX7_read_18 : decode cX7_read 18 = .ok (.bipush 100, 2) := by decide +kernel
theorem dX7_read_20 : decode cX7_read 20 = .ok (.irem, 1) := by decide +kernel
theorem dX7_read_21 : decode cX7_read 21 = .ok (.invokevirtual 200, 3) := by decide +kernel
theorem dX7_read_24 : decode cX7_read 24 = .ok (.iload_n 2, 1) := by decide +kernel
theorem dX7_read_25 : decode cX7_read 25 = .ok (.iadd, 1) := by decide +kernel
theorem dX7_read_26 : decode cX7_read 26 = .ok (.laload, 1) := by decide +kernel
theorem dX7_read_27 : decode cX7_read 27 = .ok (.putfield 104, 3) := by decide +kernel
theorem dX7_read_30 : decode cX7_read 30 = .ok (.aload_n 0, 1) := by decide +kernel
theorem dX7_read_31 : decode cX7_read 31 = .ok (.iload_n 3, 1) := by decide +kernel
theorem dX7_read_32 : decode cX7_read 32 = .ok (.invokevirtual 90, 3) := by decide +kernel
theorem dX7_read_35 : decode cX7_read 35 = .ok (.ireturn, 1) := by decide +kernel
theorem dX7_value_0 : decode cX7_value 0 = .ok (.aload_n 0, 1) := by decide +kernel
theorem dX7_value_1 : decode cX7_value 1 = .ok (.getfield 104, 3) := by decide +kernel
theorem dX7_value_4 : decode cX7_value 4 = .ok (.lreturn, 1) := by decide +kernel
theorem dX7_copy_0 : decode cX7_copy 0 = .ok (.aload_n 0, 1) := by decide +kernel
theorem dX7_copy_1 : decode cX7_copy 1 = .ok (.iload_n 1, 1) := by decide +kernel
theorem dX7_copy_2 : decode cX7_copy 2 = .ok (.invokevirtual 182, 3) := by decide +kernel
theorem dX7_copy_5 : decode cX7_copy 5 = .ok (.istore 6, 2) := by decide +kernel
theorem dX7_copy_7 : decode cX7_copy 7 = .ok (.iload 6, 2) := by decide +kernel
theorem dX7_copy_9 : decode cX7_copy 9 = .ok (.ifCond .ge 8, 3) := by decide +kernel
theorem dX7_copy_12 : decode cX7_copy 12 = .ok (.iload 6, 2) := by decide +kernel
theorem dX7_copy_14 : decode cX7_copy 14 = .ok (.goto 8, 3) := by decide +kernel
theorem dX7_copy_17 : decode cX7_copy 17 = .ok (.aload_n 0, 1) := by decide +kernel
theorem dX7_copy_18 : decode cX7_copy 18 = .ok (.iload_n 3, 1) := by decide +kernel
theorem dX7_copy_19 : decode cX7_copy 19 = .ok (.invokevirtual 182, 3) := by decide +kernel
theorem dX7_copy_22 : decode cX7_copy 22 = .ok (.istore 6, 2) := by decide +kernel
theorem dX7_copy_24 : decode cX7_copy 24 = .ok (.iload 6, 2) := by decide +kernel
theorem dX7_copy_26 : decode cX7_copy 26 = .ok (.ifCond .lt 8, 3) := by decide +kernel
theorem dX7_copy_29 : decode cX7_copy 29 = .ok (.iload 5, 2) := by decide +kernel
theorem dX7_copy_31 : decode cX7_copy 31 = .ok (.ifCond .ge 20, 3) := by decide +kernel
theorem dX7_copy_34 : decode cX7_copy 34 = .ok (.aload_n 0, 1) := by decide +kernel
theorem dX7_copy_35 : decode cX7_copy 35 = .ok (.iload 6, 2) := by decide +kernel
theorem dX7_copy_37 : decode cX7_copy 37 = .ok (.ifCond .ge 8, 3) := by decide +kernel
theorem dX7_copy_40 : decode cX7_copy 40 = .ok (.iload 6, 2) := by decide +kernel
theorem dX7_copy_42 : decode cX7_copy 42 = .ok (.goto 5, 3) := by decide +kernel
theorem dX7_copy_45 : decode cX7_copy 45 = .ok (.bipush (-3), 2) := by decide +kernel
theorem dX7_copy_47 : decode cX7_copy 47 = .ok (.invokevirtual 90, 3) := by decide +kernel
theorem dX7_copy_50 : decode cX7_copy 50 = .ok (.ireturn, 1) := by decide +kernel
theorem dX7_copy_51 : decode cX7_copy 51 = .ok (.iload_n 1, 1) := by decide +kernel
theorem dX7_copy_52 : decode cX7_copy 52 = .ok (.bipush 100, 2) := by decide +kernel
theorem dX7_copy_54 : decode cX7_copy 54 = .ok (.irem, 1) := by decide +kernel
theorem dX7_copy_55 : decode cX7_copy 55 = .ok (.istore 7, 2) := by decide +kernel
theorem dX7_copy_57 : decode cX7_copy 57 = .ok (.iload_n 3, 1) := by decide +kernel
theorem dX7_copy_58 : decode cX7_copy 58 = .ok (.bipush 100, 2) := by decide +kernel
theorem dX7_copy_60 : decode cX7_copy 60 = .ok (.irem, 1) := by decide +kernel
theorem dX7_copy_61 : decode cX7_copy 61 = .ok (.istore 8, 2) := by decide +kernel
theorem dX7_copy_63 : decode cX7_copy 63 = .ok (.iload_n 2, 1) := by decide +kernel
theorem dX7_copy_64 : decode cX7_copy 64 = .ok (.ifCond .lt 45, 3) := by decide +kernel
theorem dX7_copy_67 : decode cX7_copy 67 = .ok (.iload 4, 2) := by decide +kernel
theorem dX7_copy_69 : decode cX7_copy 69 = .ok (.ifCond .lt 40, 3) := by decide +kernel
theorem dX7_copy_72 : decode cX7_copy 72 = .ok (.iload_n 2, 1) := by decide +kernel
theorem dX7_copy_73 : decode cX7_copy 73 = .ok (.i2l, 1) := by decide +kernel
theorem dX7_copy_74 : decode cX7_copy 74 = .ok (.iload 5, 2) := by decide +kernel
theorem dX7_copy_76 : decode cX7_copy 76 = .ok (.i2l, 1) := by decide +kernel
theorem dX7_copy_77 : decode cX7_copy 77 = .ok (.ladd, 1) := by decide +kernel
theorem dX7_copy_78 : decode cX7_copy 78 = .ok (.aload_n 0, 1) := by decide +kernel
theorem dX7_copy_79 : decode cX7_copy 79 = .ok (.getfield 36, 3) := by decide +kernel
theorem dX7_copy_82 : decode cX7_copy 82 = .ok (.iload 7, 2) := by decide +kernel
theorem dX7_copy_84 : decode cX7_copy 84 = .ok (.iaload, 1) := by decide +kernel
theorem dX7_copy_85 : decode cX7_copy 85 = .ok (.i2l, 1) := by decide +kernel
theorem dX7_copy_86 : decode cX7_copy 86 = .ok (.lcmp, 1) := by decide +kernel
theorem dX7_copy_87 : decode cX7_copy 87 = .ok (.ifCond .gt 22, 3) := by decide +kernel
theorem dX7_copy_90 : decode cX7_copy 90 = .ok (.iload 4, 2) := by decide +kernel
theorem dX7_copy_92 : decode cX7_copy 92 = .ok (.i2l, 1) := by decide +kernel
theorem dX7_copy_93 : decode cX7_copy 93 = .ok (.iload 5, 2) := by decide +kernel
theorem dX7_copy_95 : decode cX7_copy 95 = .ok (.i2l, 1) := by decide +kernel
theorem dX7_copy_96 : decode cX7_copy 96 = .ok (.ladd, 1) := by decide +kernel
theorem dX7_copy_97 : decode cX7_copy 97 = .ok (.aload_n 0, 1) := by decide +kernel
theorem dX7_copy_98 : decode cX7_copy 98 = .ok (.getfield 36, 3) := by decide +kernel
theorem dX7_copy_101 : decode cX7_copy 101 = .ok (.iload 8, 2) := by decide +kernel
theorem dX7_copy_103 : decode cX7_copy 103 = .ok (.iaload, 1) := by decide +kernel
theorem dX7_copy_104 : decode cX7_copy 104 = .ok (.i2l, 1) := by decide +kernel
theorem dX7_copy_105 : decode cX7_copy 105 = .ok (.lcmp, 1) := by decide +kernel
theorem dX7_copy_106 : decode cX7_copy 106 = .ok (.ifCond .le 9, 3) := by decide +kernel
theorem dX7_copy_109 : decode cX7_copy 109 = .ok (.aload_n 0, 1) := by decide +kernel
theorem dX7_copy_110 : decode cX7_copy 110 = .ok (.iconst (-1), 1) := by decide +kernel
theorem dX7_copy_111 : decode cX7_copy 111 = .ok (.invokevirtual 90, 3) := by decide +kernel
theorem dX7_copy_114 : decode cX7_copy 114 = .ok (.ireturn, 1) := by decide +kernel
theorem dX7_copy_115 : decode cX7_copy 115 = .ok (.iconst 0, 1) := by decide +kernel
theorem dX7_copy_116 : decode cX7_copy 116 = .ok (.istore 9, 2) := by decide +kernel
theorem dX7_copy_118 : decode cX7_copy 118 = .ok (.iload 9, 2) := by decide +kernel
theorem dX7_copy_120 : decode cX7_copy 120 = .ok (.iload 5, 2) := by decide +kernel
theorem dX7_copy_122 : decode cX7_copy 122 = .ok (.if_icmp .ge 32, 3) := by decide +kernel
theorem dX7_copy_125 : decode cX7_copy 125 = .ok (.aload_n 0, 1) := by decide +kernel
theorem dX7_copy_126 : decode cX7_copy 126 = .ok (.getfield 87, 3) := by decide +kernel
theorem dX7_copy_129 : decode cX7_copy 129 = .ok (.iload 9, 2) := by decide +kernel
theorem dX7_copy_131 : decode cX7_copy 131 = .ok (.aload_n 0, 1) := by decide +kernel
theorem dX7_copy_132 : decode cX7_copy 132 = .ok (.getfield 13, 3) := by decide +kernel
theorem dX7_copy_135 : decode cX7_copy 135 = .ok (.aload_n 0, 1) := by decide +kernel
theorem dX7_copy_136 : decode cX7_copy 136 = .ok (.iload 7, 2) := by decide +kernel
theorem dX7_copy_138 : decode cX7_copy 138 = .ok (.invokevirtual 200, 3) := by decide +kernel
theorem dX7_copy_141 : decode cX7_copy 141 = .ok (.iload_n 2, 1) := by decide +kernel
theorem dX7_copy_142 : decode cX7_copy 142 = .ok (.iadd, 1) := by decide +kernel
theorem dX7_copy_143 : decode cX7_copy 143 = .ok (.iload 9, 2) := by decide +kernel
theorem dX7_copy_145 : decode cX7_copy 145 = .ok (.iadd, 1) := by decide +kernel
theorem dX7_copy_146 : decode cX7_copy 146 = .ok (.laload, 1) := by decide +kernel
theorem dX7_copy_147 : decode cX7_copy 147 = .ok (.lastore, 1) := by decide +kernel
theorem dX7_copy_148 : decode cX7_copy 148 = .ok (.iinc 9 1, 3) := by decide +kernel
theorem dX7_copy_151 : decode cX7_copy 151 = .ok (.goto (-33), 3) := by decide +kernel
theorem dX7_copy_154 : decode cX7_copy 154 = .ok (.iconst 0, 1) := by decide +kernel
theorem dX7_copy_155 : decode cX7_copy 155 = .ok (.istore 9, 2) := by decide +kernel
theorem dX7_copy_157 : decode cX7_copy 157 = .ok (.iload 9, 2) := by decide +kernel
theorem dX7_copy_159 : decode cX7_copy 159 = .ok (.iload 5, 2) := by decide +kernel
theorem dX7_copy_161 : decode cX7_copy 161 = .ok (.if_icmp .ge 33, 3) := by decide +kernel
theorem dX7_copy_164 : decode cX7_copy 164 = .ok (.aload_n 0, 1) := by decide +kernel
theorem dX7_copy_165 : decode cX7_copy 165 = .ok (.getfield 13, 3) := by decide +kernel
theorem dX7_copy_168 : decode cX7_copy 168 = .ok (.aload_n 0, 1) := by decide +kernel
theorem dX7_copy_169 : decode cX7_copy 169 = .ok (.iload 8, 2) := by decide +kernel
theorem dX7_copy_171 : decode cX7_copy 171 = .ok (.invokevirtual 200, 3) := by decide +kernel
theorem dX7_copy_174 : decode cX7_copy 174 = .ok (.iload 4, 2) := by decide +kernel
theorem dX7_copy_176 : decode cX7_copy 176 = .ok (.iadd, 1) := by decide +kernel
theorem dX7_copy_177 : decode cX7_copy 177 = .ok (.iload 9, 2) := by decide +kernel
theorem dX7_copy_179 : decode cX7_copy 179 = .ok (.iadd, 1) := by decide +kernel
theorem dX7_copy_180 : decode cX7_copy 180 = .ok (.aload_n 0, 1) := by decide +kernel
theorem dX7_copy_181 : decode cX7_copy 181 = .ok (.getfield 87, 3) := by decide +kernel
theorem dX7_copy_184 : decode cX7_copy 184 = .ok (.iload 9, 2) := by decide +kernel
theorem dX7_copy_186 : decode cX7_copy 186 = .ok (.laload, 1) := by decide +kernel
theorem dX7_copy_187 : decode cX7_copy 187 = .ok (.lastore, 1) := by decide +kernel
theorem dX7_copy_188 : decode cX7_copy 188 = .ok (.iinc 9 1, 3) := by decide +kernel
theorem dX7_copy_191 : decode cX7_copy 191 = .ok (.goto (-34), 3) := by decide +kernel
theorem dX7_copy_194 : decode cX7_copy 194 = .ok (.iload 5, 2) := by decide +kernel
theorem dX7_copy_196 : decode cX7_copy 196 = .ok (.ireturn, 1) := by decide +kernel
theorem dX7_fill_0 : decode cX7_fill 0 = .ok (.aload_n 0, 1) := by decide +kernel
theorem dX7_fill_1 : decode cX7_fill 1 = .ok (.iload_n 1, 1) := by decide +kernel
theorem dX7_fill_2 : decode cX7_fill 2 = .ok (.invokevirtual 182, 3) := by decide +kernel
theorem dX7_fill_5 : decode cX7_fill 5 = .ok (.istore 4, 2) := by decide +kernel
theorem dX7_fill_7 : decode cX7_fill 7 = .ok (.iload 4, 2) := by decide +kernel
theorem dX7_fill_9 : decode cX7_fill 9 = .ok (.ifCond .ge 10, 3) := by decide +kernel
theorem dX7_fill_12 : decode cX7_fill 12 = .ok (.aload_n 0, 1) := by decide +kernel
theorem dX7_fill_13 : decode cX7_fill 13 = .ok (.iload 4, 2) := by decide +kernel
theorem dX7_fill_15 : decode cX7_fill 15 = .ok (.invokevirtual 90, 3) := by decide +kernel
theorem dX7_fill_18 : decode cX7_fill 18 = .ok (.ireturn, 1) := by decide +kernel
theorem dX7_fill_19 : decode cX7_fill 19 = .ok (.iload_n 1, 1) := by decide +kernel
theorem dX7_fill_20 : decode cX7_fill 20 = .ok (.bipush 100, 2) := by decide +kernel
theorem dX7_fill_22 : decode cX7_fill 22 = .ok (.irem, 1) := by decide +kernel
theorem dX7_fill_23 : decode cX7_fill 23 = .ok (.istore 5, 2) := by decide +kernel
theorem dX7_fill_25 : decode cX7_fill 25 = .ok (.iconst 0, 1) := by decide +kernel
theorem dX7_fill_26 : decode cX7_fill 26 = .ok (.istore 6, 2) := by decide +kernel
theorem dX7_fill_28 : decode cX7_fill 28 = .ok (.iload 6, 2) := by decide +kernel
theorem dX7_fill_30 : decode cX7_fill 30 = .ok (.aload_n 0, 1) := by decide +kernel
theorem dX7_fill_31 : decode cX7_fill 31 = .ok (.getfield 36, 3) := by decide +kernel
theorem dX7_fill_34 : decode cX7_fill 34 = .ok (.iload 5, 2) := by decide +kernel
theorem dX7_fill_36 : decode cX7_fill 36 = .ok (.iaload, 1) := by decide +kernel
theorem dX7_fill_37 : decode cX7_fill 37 = .ok (.if_icmp .ge 24, 3) := by decide +kernel
theorem dX7_fill_40 : decode cX7_fill 40 = .ok (.aload_n 0, 1) := by decide +kernel
theorem dX7_fill_41 : decode cX7_fill 41 = .ok (.getfield 13, 3) := by decide +kernel
theorem dX7_fill_44 : decode cX7_fill 44 = .ok (.aload_n 0, 1) := by decide +kernel
theorem dX7_fill_45 : decode cX7_fill 45 = .ok (.iload 5, 2) := by decide +kernel
theorem dX7_fill_47 : decode cX7_fill 47 = .ok (.invokevirtual 200, 3) := by decide +kernel
theorem dX7_fill_50 : decode cX7_fill 50 = .ok (.iload 6, 2) := by decide +kernel
theorem dX7_fill_52 : decode cX7_fill 52 = .ok (.iadd, 1) := by decide +kernel
theorem dX7_fill_53 : decode cX7_fill 53 = .ok (.lload_n 2, 1) := by decide +kernel
theorem dX7_fill_54 : decode cX7_fill 54 = .ok (.lastore, 1) := by decide +kernel
theorem dX7_fill_55 : decode cX7_fill 55 = .ok (.iinc 6 1, 3) := by decide +kernel
theorem dX7_fill_58 : decode cX7_fill 58 = .ok (.goto (-30), 3) := by decide +kernel
theorem dX7_fill_61 : decode cX7_fill 61 = .ok (.aload_n 0, 1) := by decide +kernel
theorem dX7_fill_62 : decode cX7_fill 62 = .ok (.getfield 36, 3) := by decide +kernel
theorem dX7_fill_65 : decode cX7_fill 65 = .ok (.iload 5, 2) := by decide +kernel
theorem dX7_fill_67 : decode cX7_fill 67 = .ok (.iaload, 1) := by decide +kernel
theorem dX7_fill_68 : decode cX7_fill 68 = .ok (.ireturn, 1) := by decide +kernel
theorem dX7_block_0 : decode cX7_block 0 = .ok (.aload_n 0, 1) := by decide +kernel
theorem dX7_block_1 : decode cX7_block 1 = .ok (.iload_n 1, 1) := by decide +kernel
theorem dX7_block_2 : decode cX7_block 2 = .ok (.invokevirtual 182, 3) := by decide +kernel
theorem dX7_block_5 : decode cX7_block 5 = .ok (.istore_n 3, 1) := by decide +kernel
theorem dX7_block_6 : decode cX7_block 6 = .ok (.iload_n 3, 1) := by decide +kernel
theorem dX7_block_7 : decode cX7_block 7 = .ok (.ifCond .lt 12, 3) := by decide +kernel
theorem dX7_block_10 : decode cX7_block 10 = .ok (.iload_n 2, 1) := by decide +kernel
theorem dX7_block_11 : decode cX7_block 11 = .ok (.ifCond .lt 8, 3) := by decide +kernel
theorem dX7_block_14 : decode cX7_block 14 = .ok (.iload_n 2, 1) := by decide +kernel
theorem dX7_block_15 : decode cX7_block 15 = .ok (.iconst 3, 1) := by decide +kernel
theorem dX7_block_16 : decode cX7_block 16 = .ok (.if_icmp .le 17, 3) := by decide +kernel
theorem dX7_block_19 : decode cX7_block 19 = .ok (.aload_n 0, 1) := by decide +kernel
theorem dX7_block_20 : decode cX7_block 20 = .ok (.iload_n 3, 1) := by decide +kernel
theorem dX7_block_21 : decode cX7_block 21 = .ok (.ifCond .ge 7, 3) := by decide +kernel
theorem dX7_block_24 : decode cX7_block 24 = .ok (.iload_n 3, 1) := by decide +kernel
theorem dX7_block_25 : decode cX7_block 25 = .ok (.goto 4, 3) := by decide +kernel
theorem dX7_block_28 : decode cX7_block 28 = .ok (.iconst (-1), 1) := by decide +kernel
theorem dX7_block_29 : decode cX7_block 29 = .ok (.invokevirtual 90, 3) := by decide +kernel
theorem dX7_block_32 : decode cX7_block 32 = .ok (.ireturn, 1) := by decide +kernel
theorem dX7_block_33 : decode cX7_block 33 = .ok (.iload_n 1, 1) := by decide +kernel
theorem dX7_block_34 : decode cX7_block 34 = .ok (.bipush 100, 2) := by decide +kernel
theorem dX7_block_36 : decode cX7_block 36 = .ok (.irem, 1) := by decide +kernel
theorem dX7_block_37 : decode cX7_block 37 = .ok (.istore 4, 2) := by decide +kernel
theorem dX7_block_39 : decode cX7_block 39 = .ok (.iload_n 2, 1) := by decide +kernel
theorem dX7_block_40 : decode cX7_block 40 = .ok (.ifCond .ne 13, 3) := by decide +kernel
theorem dX7_block_43 : decode cX7_block 43 = .ok (.aload_n 0, 1) := by decide +kernel
theorem dX7_block_44 : decode cX7_block 44 = .ok (.getfield 36, 3) := by decide +kernel
theorem dX7_block_47 : decode cX7_block 47 = .ok (.iload 4, 2) := by decide +kernel
theorem dX7_block_49 : decode cX7_block 49 = .ok (.iaload, 1) := by decide +kernel
theorem dX7_block_50 : decode cX7_block 50 = .ok (.goto 38, 3) := by decide +kernel
theorem dX7_block_53 : decode cX7_block 53 = .ok (.iload_n 2, 1) := by decide +kernel
theorem dX7_block_54 : decode cX7_block 54 = .ok (.iconst 1, 1) := by decide +kernel
theorem dX7_block_55 : decode cX7_block 55 = .ok (.if_icmp .ne 13, 3) := by decide +kernel
theorem dX7_block_58 : decode cX7_block 58 = .ok (.aload_n 0, 1) := by decide +kernel
theorem dX7_block_59 : decode cX7_block 59 = .ok (.getfield 39, 3) := by decide +kernel
theorem dX7_block_62 : decode cX7_block 62 = .ok (.iload 4, 2) := by decide +kernel
theorem dX7_block_64 : decode cX7_block 64 = .ok (.iaload, 1) := by decide +kernel
theorem dX7_block_65 : decode cX7_block 65 = .ok (.goto 23, 3) := by decide +kernel
theorem dX7_block_68 : decode cX7_block 68 = .ok (.iload_n 2, 1) := by decide +kernel
theorem dX7_block_69 : decode cX7_block 69 = .ok (.iconst 2, 1) := by decide +kernel
theorem dX7_block_70 : decode cX7_block 70 = .ok (.if_icmp .ne 12, 3) := by decide +kernel
theorem dX7_block_73 : decode cX7_block 73 = .ok (.aload_n 0, 1) := by decide +kernel
theorem dX7_block_74 : decode cX7_block 74 = .ok (.iload 4, 2) := by decide +kernel
theorem dX7_block_76 : decode cX7_block 76 = .ok (.invokevirtual 200, 3) := by decide +kernel
theorem dX7_block_79 : decode cX7_block 79 = .ok (.goto 9, 3) := by decide +kernel
theorem dX7_block_82 : decode cX7_block 82 = .ok (.aload_n 0, 1) := by decide +kernel
theorem dX7_block_83 : decode cX7_block 83 = .ok (.iload 4, 2) := by decide +kernel
theorem dX7_block_85 : decode cX7_block 85 = .ok (.invokevirtual 185, 3) := by decide +kernel
theorem dX7_block_88 : decode cX7_block 88 = .ok (.ireturn, 1) := by decide +kernel
theorem dX7_spoil_0 : decode cX7_spoil 0 = .ok (.aload_n 0, 1) := by decide +kernel
theorem dX7_spoil_1 : decode cX7_spoil 1 = .ok (.iload_n 1, 1) := by decide +kernel
theorem dX7_spoil_2 : decode cX7_spoil 2 = .ok (.invokevirtual 182, 3) := by decide +kernel
theorem dX7_spoil_5 : decode cX7_spoil 5 = .ok (.istore 5, 2) := by decide +kernel
theorem dX7_spoil_7 : decode cX7_spoil 7 = .ok (.iload 5, 2) := by decide +kernel
theorem dX7_spoil_9 : decode cX7_spoil 9 = .ok (.ifCond .lt 21, 3) := by decide +kernel
theorem dX7_spoil_12 : decode cX7_spoil 12 = .ok (.aload_n 0, 1) := by decide +kernel
theorem dX7_spoil_13 : decode cX7_spoil 13 = .ok (.getfield 23, 3) := by decide +kernel
theorem dX7_spoil_16 : decode cX7_spoil 16 = .ok (.aload_n 0, 1) := by decide +kernel
theorem dX7_spoil_17 : decode cX7_spoil 17 = .ok (.getfield 39, 3) := by decide +kernel
theorem dX7_spoil_20 : decode cX7_spoil 20 = .ok (.iload_n 1, 1) := by decide +kernel
theorem dX7_spoil_21 : decode cX7_spoil 21 = .ok (.bipush 100, 2) := by decide +kernel
theorem dX7_spoil_23 : decode cX7_spoil 23 = .ok (.irem, 1) := by decide +kernel
theorem dX7_spoil_24 : decode cX7_spoil 24 = .ok (.iaload, 1) := by decide +kernel
theorem dX7_spoil_25 : decode cX7_spoil 25 = .ok (.iaload, 1) := by decide +kernel
theorem dX7_spoil_26 : decode cX7_spoil 26 = .ok (.iconst 5, 1) := by decide +kernel
theorem dX7_spoil_27 : decode cX7_spoil 27 = .ok (.if_icmp .eq 20, 3) := by decide +kernel
theorem dX7_spoil_30 : decode cX7_spoil 30 = .ok (.aload_n 0, 1) := by decide +kernel
theorem dX7_spoil_31 : decode cX7_spoil 31 = .ok (.iload 5, 2) := by decide +kernel
theorem dX7_spoil_33 : decode cX7_spoil 33 = .ok (.ifCond .ge 8, 3) := by decide +kernel
theorem dX7_spoil_36 : decode cX7_spoil 36 = .ok (.iload 5, 2) := by decide +kernel
theorem dX7_spoil_38 : decode cX7_spoil 38 = .ok (.goto 5, 3) := by decide +kernel
theorem dX7_spoil_41 : decode cX7_spoil 41 = .ok (.bipush (-9), 2) := by decide +kernel
theorem dX7_spoil_43 : decode cX7_spoil 43 = .ok (.invokevirtual 90, 3) := by decide +kernel
theorem dX7_spoil_46 : decode cX7_spoil 46 = .ok (.ireturn, 1) := by decide +kernel
theorem dX7_spoil_47 : decode cX7_spoil 47 = .ok (.iload_n 1, 1) := by decide +kernel
theorem dX7_spoil_48 : decode cX7_spoil 48 = .ok (.bipush 100, 2) := by decide +kernel
theorem dX7_spoil_50 : decode cX7_spoil 50 = .ok (.irem, 1) := by decide +kernel
theorem dX7_spoil_51 : decode cX7_spoil 51 = .ok (.istore 6, 2) := by decide +kernel
theorem dX7_spoil_53 : decode cX7_spoil 53 = .ok (.aload_n 0, 1) := by decide +kernel
theorem dX7_spoil_54 : decode cX7_spoil 54 = .ok (.getfield 13, 3) := by decide +kernel
theorem dX7_spoil_57 : decode cX7_spoil 57 = .ok (.iload_n 2, 1) := by decide +kernel
theorem dX7_spoil_58 : decode cX7_spoil 58 = .ok (.ifCond .eq 23, 3) := by decide +kernel
theorem dX7_spoil_61 : decode cX7_spoil 61 = .ok (.aload_n 0, 1) := by decide +kernel
theorem dX7_spoil_62 : decode cX7_spoil 62 = .ok (.getfield 42, 3) := by decide +kernel
theorem dX7_spoil_65 : decode cX7_spoil 65 = .ok (.iload 6, 2) := by decide +kernel
theorem dX7_spoil_67 : decode cX7_spoil 67 = .ok (.iaload, 1) := by decide +kernel
theorem dX7_spoil_68 : decode cX7_spoil 68 = .ok (.iconst 2, 1) := by decide +kernel
theorem dX7_spoil_69 : decode cX7_spoil 69 = .ok (.iadd, 1) := by decide +kernel
theorem dX7_spoil_70 : decode cX7_spoil 70 = .ok (.aload_n 0, 1) := by decide +kernel
theorem dX7_spoil_71 : decode cX7_spoil 71 = .ok (.getfield 36, 3) := by decide +kernel
theorem dX7_spoil_74 : decode cX7_spoil 74 = .ok (.iload 6, 2) := by decide +kernel
theorem dX7_spoil_76 : decode cX7_spoil 76 = .ok (.iaload, 1) := by decide +kernel
theorem dX7_spoil_77 : decode cX7_spoil 77 = .ok (.iadd, 1) := by decide +kernel
theorem dX7_spoil_78 : decode cX7_spoil 78 = .ok (.goto 12, 3) := by decide +kernel
theorem dX7_spoil_81 : decode cX7_spoil 81 = .ok (.aload_n 0, 1) := by decide +kernel
theorem dX7_spoil_82 : decode cX7_spoil 82 = .ok (.getfield 42, 3) := by decide +kernel
theorem dX7_spoil_85 : decode cX7_spoil 85 = .ok (.iload 6, 2) := by decide +kernel
theorem dX7_spoil_87 : decode cX7_spoil 87 = .ok (.iaload, 1) := by decide +kernel
theorem dX7_spoil_88 : decode cX7_spoil 88 = .ok (.iconst 1, 1) := by decide +kernel
theorem dX7_spoil_89 : decode cX7_spoil 89 = .ok (.iadd, 1) := by decide +kernel
theorem dX7_spoil_90 : decode cX7_spoil 90 = .ok (.lload_n 3, 1) := by decide +kernel
theorem dX7_spoil_91 : decode cX7_spoil 91 = .ok (.lastore, 1) := by decide +kernel
theorem dX7_spoil_92 : decode cX7_spoil 92 = .ok (.iconst 0, 1) := by decide +kernel
theorem dX7_spoil_93 : decode cX7_spoil 93 = .ok (.ireturn, 1) := by decide +kernel
theorem dX7_entry_0 : decode cX7_entry 0 = .ok (.iload_n 2, 1) := by decide +kernel
theorem dX7_entry_1 : decode cX7_entry 1 = .ok (.ifCond .eq 10, 3) := by decide +kernel
theorem dX7_entry_4 : decode cX7_entry 4 = .ok (.aload_n 0, 1) := by decide +kernel
theorem dX7_entry_5 : decode cX7_entry 5 = .ok (.getfield 203, 3) := by decide +kernel
theorem dX7_entry_8 : decode cX7_entry 8 = .ok (.ifCond .eq 4, 3) := by decide +kernel
theorem dX7_entry_11 : decode cX7_entry 11 = .ok (.return_, 1) := by decide +kernel
theorem dX7_entry_12 : decode cX7_entry 12 = .ok (.aload_n 0, 1) := by decide +kernel
theorem dX7_entry_13 : decode cX7_entry 13 = .ok (.getfield 207, 3) := by decide +kernel
theorem dX7_entry_16 : decode cX7_entry 16 = .ok (.aload_n 0, 1) := by decide +kernel
theorem dX7_entry_17 : decode cX7_entry 17 = .ok (.getfield 210, 3) := by decide +kernel
theorem dX7_entry_20 : decode cX7_entry 20 = .ok (.if_icmp .eq 21, 3) := by decide +kernel
theorem dX7_entry_23 : decode cX7_entry 23 = .ok (.aload_n 0, 1) := by decide +kernel
theorem dX7_entry_24 : decode cX7_entry 24 = .ok (.getfield 213, 3) := by decide +kernel
theorem dX7_entry_27 : decode cX7_entry 27 = .ok (.iload_n 1, 1) := by decide +kernel
theorem dX7_entry_28 : decode cX7_entry 28 = .ok (.if_icmp .lt 45, 3) := by decide +kernel
theorem dX7_entry_31 : decode cX7_entry 31 = .ok (.aload_n 0, 1) := by decide +kernel
theorem dX7_entry_32 : decode cX7_entry 32 = .ok (.getfield 213, 3) := by decide +kernel
theorem dX7_entry_35 : decode cX7_entry 35 = .ok (.iload_n 1, 1) := by decide +kernel
theorem dX7_entry_36 : decode cX7_entry 36 = .ok (.iload_n 2, 1) := by decide +kernel
theorem dX7_entry_37 : decode cX7_entry 37 = .ok (.iadd, 1) := by decide +kernel
theorem dX7_entry_38 : decode cX7_entry 38 = .ok (.if_icmp .ge 35, 3) := by decide +kernel
theorem dX7_entry_41 : decode cX7_entry 41 = .ok (.aload_n 0, 1) := by decide +kernel
theorem dX7_entry_42 : decode cX7_entry 42 = .ok (.iload_n 1, 1) := by decide +kernel
theorem dX7_entry_43 : decode cX7_entry 43 = .ok (.putfield 216, 3) := by decide +kernel
theorem dX7_entry_46 : decode cX7_entry 46 = .ok (.aload_n 0, 1) := by decide +kernel
theorem dX7_entry_47 : decode cX7_entry 47 = .ok (.iload_n 2, 1) := by decide +kernel
theorem dX7_entry_48 : decode cX7_entry 48 = .ok (.putfield 219, 3) := by decide +kernel
theorem dX7_entry_51 : decode cX7_entry 51 = .ok (.aload_n 0, 1) := by decide +kernel
theorem dX7_entry_52 : decode cX7_entry 52 = .ok (.iload_n 3, 1) := by decide +kernel
theorem dX7_entry_53 : decode cX7_entry 53 = .ok (.putfield 222, 3) := by decide +kernel
theorem dX7_entry_56 : decode cX7_entry 56 = .ok (.aload_n 0, 1) := by decide +kernel
theorem dX7_entry_57 : decode cX7_entry 57 = .ok (.iload 4, 2) := by decide +kernel
theorem dX7_entry_59 : decode cX7_entry 59 = .ok (.putfield 225, 3) := by decide +kernel
theorem dX7_entry_62 : decode cX7_entry 62 = .ok (.aload_n 0, 1) := by decide +kernel
theorem dX7_entry_63 : decode cX7_entry 63 = .ok (.iload 5, 2) := by decide +kernel
theorem dX7_entry_65 : decode cX7_entry 65 = .ok (.putfield 228, 3) := by decide +kernel
theorem dX7_entry_68 : decode cX7_entry 68 = .ok (.aload_n 0, 1) := by decide +kernel
theorem dX7_entry_69 : decode cX7_entry 69 = .ok (.iconst 1, 1) := by decide +kernel
theorem dX7_entry_70 : decode cX7_entry 70 = .ok (.putfield 203, 3) := by decide +kernel
theorem dX7_entry_73 : decode cX7_entry 73 = .ok (.aload_n 0, 1) := by decide +kernel
theorem dX7_entry_74 : decode cX7_entry 74 = .ok (.dup, 1) := by decide +kernel
theorem dX7_entry_75 : decode cX7_entry 75 = .ok (.getfield 207, 3) := by decide +kernel
theorem dX7_entry_78 : decode cX7_entry 78 = .ok (.iconst 1, 1) := by decide +kernel
theorem dX7_entry_79 : decode cX7_entry 79 = .ok (.iadd, 1) := by decide +kernel
theorem dX7_entry_80 : decode cX7_entry 80 = .ok (.putfield 207, 3) := by decide +kernel
theorem dX7_entry_83 : decode cX7_entry 83 = .ok (.return_, 1) := by decide +kernel
theorem dX7_go_0 : decode cX7_go 0 = .ok (.aload_n 0, 1) := by decide +kernel
theorem dX7_go_1 : decode cX7_go 1 = .ok (.iconst 0, 1) := by decide +kernel
theorem dX7_go_2 : decode cX7_go 2 = .ok (.putfield 207, 3) := by decide +kernel
theorem dX7_go_5 : decode cX7_go 5 = .ok (.aload_n 0, 1) := by decide +kernel
theorem dX7_go_6 : decode cX7_go 6 = .ok (.iload_n 1, 1) := by decide +kernel
theorem dX7_go_7 : decode cX7_go 7 = .ok (.putfield 210, 3) := by decide +kernel
theorem dX7_go_10 : decode cX7_go 10 = .ok (.aload_n 0, 1) := by decide +kernel
theorem dX7_go_11 : decode cX7_go 11 = .ok (.iload_n 2, 1) := by decide +kernel
theorem dX7_go_12 : decode cX7_go 12 = .ok (.putfield 213, 3) := by decide +kernel
theorem dX7_go_15 : decode cX7_go 15 = .ok (.aload_n 0, 1) := by decide +kernel
theorem dX7_go_16 : decode cX7_go 16 = .ok (.iconst 0, 1) := by decide +kernel
theorem dX7_go_17 : decode cX7_go 17 = .ok (.putfield 203, 3) := by decide +kernel
theorem dX7_go_20 : decode cX7_go 20 = .ok (.iconst 0, 1) := by decide +kernel
theorem dX7_go_21 : decode cX7_go 21 = .ok (.istore_n 3, 1) := by decide +kernel
theorem dX7_go_22 : decode cX7_go 22 = .ok (.iload_n 3, 1) := by decide +kernel
theorem dX7_go_23 : decode cX7_go 23 = .ok (.bipush 64, 2) := by decide +kernel
theorem dX7_go_25 : decode cX7_go 25 = .ok (.aload_n 0, 1) := by decide +kernel
theorem dX7_go_26 : decode cX7_go 26 = .ok (.getfield 94, 3) := by decide +kernel
theorem dX7_go_29 : decode cX7_go 29 = .ok (.imul, 1) := by decide +kernel
theorem dX7_go_30 : decode cX7_go 30 = .ok (.if_icmp .ge 94, 3) := by decide +kernel
theorem dX7_go_33 : decode cX7_go 33 = .ok (.aload_n 0, 1) := by decide +kernel
theorem dX7_go_34 : decode cX7_go 34 = .ok (.getfield 203, 3) := by decide +kernel
theorem dX7_go_37 : decode cX7_go 37 = .ok (.ifCond .ne 87, 3) := by decide +kernel
theorem dX7_go_40 : decode cX7_go 40 = .ok (.aload_n 0, 1) := by decide +kernel
theorem dX7_go_41 : decode cX7_go 41 = .ok (.getfield 9, 3) := by decide +kernel
theorem dX7_go_44 : decode cX7_go 44 = .ok (.iload_n 3, 1) := by decide +kernel
theorem dX7_go_45 : decode cX7_go 45 = .ok (.bipush 64, 2) := by decide +kernel
theorem dX7_go_47 : decode cX7_go 47 = .ok (.idiv, 1) := by decide +kernel
theorem dX7_go_48 : decode cX7_go 48 = .ok (.iaload, 1) := by decide +kernel
theorem dX7_go_49 : decode cX7_go 49 = .ok (.istore 4, 2) := by decide +kernel
theorem dX7_go_51 : decode cX7_go 51 = .ok (.iload 4, 2) := by decide +kernel
theorem dX7_go_53 : decode cX7_go 53 = .ok (.ifCond .ge 29, 3) := by decide +kernel
theorem dX7_go_56 : decode cX7_go 56 = .ok (.aload_n 0, 1) := by decide +kernel
theorem dX7_go_57 : decode cX7_go 57 = .ok (.iload_n 3, 1) := by decide +kernel
theorem dX7_go_58 : decode cX7_go 58 = .ok (.bipush 64, 2) := by decide +kernel
theorem dX7_go_60 : decode cX7_go 60 = .ok (.iload 4, 2) := by decide +kernel
theorem dX7_go_62 : decode cX7_go 62 = .ok (.iconst (-1), 1) := by decide +kernel
theorem dX7_go_63 : decode cX7_go 63 = .ok (.if_icmp .ne 7, 3) := by decide +kernel
theorem dX7_go_66 : decode cX7_go 66 = .ok (.iconst 0, 1) := by decide +kernel
theorem dX7_go_67 : decode cX7_go 67 = .ok (.goto 4, 3) := by decide +kernel
theorem dX7_go_70 : decode cX7_go 70 = .ok (.iconst 1, 1) := by decide +kernel
theorem dX7_go_71 : decode cX7_go 71 = .ok (.iconst (-1), 1) := by decide +kernel
theorem dX7_go_72 : decode cX7_go 72 = .ok (.iconst (-1), 1) := by decide +kernel
theorem dX7_go_73 : decode cX7_go 73 = .ok (.invokevirtual 231, 3) := by decide +kernel
theorem dX7_go_76 : decode cX7_go 76 = .ok (.iinc 3 64, 3) := by decide +kernel
theorem dX7_go_79 : decode cX7_go 79 = .ok (.goto 42, 3) := by decide +kernel
theorem dX7_go_82 : decode cX7_go 82 = .ok (.aload_n 0, 1) := by decide +kernel
theorem dX7_go_83 : decode cX7_go 83 = .ok (.getfield 23, 3) := by decide +kernel
theorem dX7_go_86 : decode cX7_go 86 = .ok (.iload 4, 2) := by decide +kernel
theorem dX7_go_88 : decode cX7_go 88 = .ok (.iaload, 1) := by decide +kernel
theorem dX7_go_89 : decode cX7_go 89 = .ok (.ifCond .ne 16, 3) := by decide +kernel
theorem dX7_go_92 : decode cX7_go 92 = .ok (.aload_n 0, 1) := by decide +kernel
theorem dX7_go_93 : decode cX7_go 93 = .ok (.iload_n 3, 1) := by decide +kernel
theorem dX7_go_94 : decode cX7_go 94 = .ok (.iload 4, 2) := by decide +kernel
theorem dX7_go_96 : decode cX7_go 96 = .ok (.invokevirtual 235, 3) := by decide +kernel
theorem dX7_go_99 : decode cX7_go 99 = .ok (.iinc 3 64, 3) := by decide +kernel
theorem dX7_go_102 : decode cX7_go 102 = .ok (.goto 19, 3) := by decide +kernel
theorem dX7_go_105 : decode cX7_go 105 = .ok (.aload_n 0, 1) := by decide +kernel
theorem dX7_go_106 : decode cX7_go 106 = .ok (.iload_n 3, 1) := by decide +kernel
theorem dX7_go_107 : decode cX7_go 107 = .ok (.iload 4, 2) := by decide +kernel
theorem dX7_go_109 : decode cX7_go 109 = .ok (.invokevirtual 238, 3) := by decide +kernel
theorem dX7_go_112 : decode cX7_go 112 = .ok (.iload_n 3, 1) := by decide +kernel
theorem dX7_go_113 : decode cX7_go 113 = .ok (.aload_n 0, 1) := by decide +kernel
theorem dX7_go_114 : decode cX7_go 114 = .ok (.getfield 17, 3) := by decide +kernel
theorem dX7_go_117 : decode cX7_go 117 = .ok (.iload_n 3, 1) := by decide +kernel
theorem dX7_go_118 : decode cX7_go 118 = .ok (.iaload, 1) := by decide +kernel
theorem dX7_go_119 : decode cX7_go 119 = .ok (.iadd, 1) := by decide +kernel
theorem dX7_go_120 : decode cX7_go 120 = .ok (.istore_n 3, 1) := by decide +kernel
theorem dX7_go_121 : decode cX7_go 121 = .ok (.goto (-99), 3) := by decide +kernel
theorem dX7_go_124 : decode cX7_go 124 = .ok (.return_, 1) := by decide +kernel
theorem dX7_slabEntries_0 : decode cX7_slabEntries 0 = .ok (.aload_n 0, 1) := by decide +kernel
theorem dX7_slabEntries_1 : decode cX7_slabEntries 1 = .ok (.iload_n 1, 1) := by decide +kernel
theorem dX7_slabEntries_2 : decode cX7_slabEntries 2 = .ok (.iconst 1, 1) := by decide +kernel
theorem dX7_slabEntries_3 : decode cX7_slabEntries 3 = .ok (.iconst 2, 1) := by decide +kernel
theorem dX7_slabEntries_4 : decode cX7_slabEntries 4 = .ok (.iconst (-1), 1) := by decide +kernel
theorem dX7_slabEntries_5 : decode cX7_slabEntries 5 = .ok (.iload_n 2, 1) := by decide +kernel
theorem dX7_slabEntries_6 : decode cX7_slabEntries 6 = .ok (.invokevirtual 231, 3) := by decide +kernel
theorem dX7_slabEntries_9 : decode cX7_slabEntries 9 = .ok (.iload_n 1, 1) := by decide +kernel
theorem dX7_slabEntries_10 : decode cX7_slabEntries 10 = .ok (.iconst 1, 1) := by decide +kernel
theorem dX7_slabEntries_11 : decode cX7_slabEntries 11 = .ok (.iadd, 1) := by decide +kernel
theorem dX7_slabEntries_12 : decode cX7_slabEntries 12 = .ok (.istore_n 3, 1) := by decide +kernel
theorem dX7_slabEntries_13 : decode cX7_slabEntries 13 = .ok (.iload_n 1, 1) := by decide +kernel
theorem dX7_slabEntries_14 : decode cX7_slabEntries 14 = .ok (.istore 4, 2) := by decide +kernel
theorem dX7_slabEntries_16 : decode cX7_slabEntries 16 = .ok (.iload 4, 2) := by decide +kernel
theorem dX7_slabEntries_18 : decode cX7_slabEntries 18 = .ok (.iload_n 1, 1) := by decide +kernel
theorem dX7_slabEntries_19 : decode cX7_slabEntries 19 = .ok (.bipush 64, 2) := by decide +kernel
theorem dX7_slabEntries_21 : decode cX7_slabEntries 21 = .ok (.iadd, 1) := by decide +kernel
theorem dX7_slabEntries_22 : decode cX7_slabEntries 22 = .ok (.if_icmp .ge 66, 3) := by decide +kernel
theorem dX7_slabEntries_25 : decode cX7_slabEntries 25 = .ok (.aload_n 0, 1) := by decide +kernel
theorem dX7_slabEntries_26 : decode cX7_slabEntries 26 = .ok (.getfield 17, 3) := by decide +kernel
theorem dX7_slabEntries_29 : decode cX7_slabEntries 29 = .ok (.iload 4, 2) := by decide +kernel
theorem dX7_slabEntries_31 : decode cX7_slabEntries 31 = .ok (.iaload, 1) := by decide +kernel
theorem dX7_slabEntries_32 : decode cX7_slabEntries 32 = .ok (.ifCond .le 50, 3) := by decide +kernel
theorem dX7_slabEntries_35 : decode cX7_slabEntries 35 = .ok (.aload_n 0, 1) := by decide +kernel
theorem dX7_slabEntries_36 : decode cX7_slabEntries 36 = .ok (.iload 4, 2) := by decide +kernel
theorem dX7_slabEntries_38 : decode cX7_slabEntries 38 = .ok (.aload_n 0, 1) := by decide +kernel
theorem dX7_slabEntries_39 : decode cX7_slabEntries 39 = .ok (.getfield 17, 3) := by decide +kernel
theorem dX7_slabEntries_42 : decode cX7_slabEntries 42 = .ok (.iload 4, 2) := by decide +kernel
theorem dX7_slabEntries_44 : decode cX7_slabEntries 44 = .ok (.iaload, 1) := by decide +kernel
theorem dX7_slabEntries_45 : decode cX7_slabEntries 45 = .ok (.aload_n 0, 1) := by decide +kernel
theorem dX7_slabEntries_46 : decode cX7_slabEntries 46 = .ok (.getfield 20, 3) := by decide +kernel
theorem dX7_slabEntries_49 : decode cX7_slabEntries 49 = .ok (.iload 4, 2) := by decide +kernel
theorem dX7_slabEntries_51 : decode cX7_slabEntries 51 = .ok (.iaload, 1) := by decide +kernel
theorem dX7_slabEntries_52 : decode cX7_slabEntries 52 = .ok (.ifCond .ge 7, 3) := by decide +kernel
theorem dX7_slabEntries_55 : decode cX7_slabEntries 55 = .ok (.iconst 4, 1) := by decide +kernel
theorem dX7_slabEntries_56 : decode cX7_slabEntries 56 = .ok (.goto 4, 3) := by decide +kernel
theorem dX7_slabEntries_59 : decode cX7_slabEntries 59 = .ok (.iconst 3, 1) := by decide +kernel
theorem dX7_slabEntries_60 : decode cX7_slabEntries 60 = .ok (.aload_n 0, 1) := by decide +kernel
theorem dX7_slabEntries_61 : decode cX7_slabEntries 61 = .ok (.getfield 20, 3) := by decide +kernel
theorem dX7_slabEntries_64 : decode cX7_slabEntries 64 = .ok (.iload 4, 2) := by decide +kernel
theorem dX7_slabEntries_66 : decode cX7_slabEntries 66 = .ok (.iaload, 1) := by decide +kernel
theorem dX7_slabEntries_67 : decode cX7_slabEntries 67 = .ok (.iload_n 2, 1) := by decide +kernel
theorem dX7_slabEntries_68 : decode cX7_slabEntries 68 = .ok (.invokevirtual 231, 3) := by decide +kernel
theorem dX7_slabEntries_71 : decode cX7_slabEntries 71 = .ok (.iload 4, 2) := by decide +kernel
theorem dX7_slabEntries_73 : decode cX7_slabEntries 73 = .ok (.aload_n 0, 1) := by decide +kernel
theorem dX7_slabEntries_74 : decode cX7_slabEntries 74 = .ok (.getfield 17, 3) := by decide +kernel
theorem dX7_slabEntries_77 : decode cX7_slabEntries 77 = .ok (.iload 4, 2) := by decide +kernel
theorem dX7_slabEntries_79 : decode cX7_slabEntries 79 = .ok (.iaload, 1) := by decide +kernel
theorem dX7_slabEntries_80 : decode cX7_slabEntries 80 = .ok (.iadd, 1) := by decide +kernel
theorem dX7_slabEntries_81 : decode cX7_slabEntries 81 = .ok (.istore_n 3, 1) := by decide +kernel
theorem dX7_slabEntries_82 : decode cX7_slabEntries 82 = .ok (.iinc 4 1, 3) := by decide +kernel
theorem dX7_slabEntries_85 : decode cX7_slabEntries 85 = .ok (.goto (-69), 3) := by decide +kernel
theorem dX7_slabEntries_88 : decode cX7_slabEntries 88 = .ok (.aload_n 0, 1) := by decide +kernel
theorem dX7_slabEntries_89 : decode cX7_slabEntries 89 = .ok (.iload_n 3, 1) := by decide +kernel
theorem dX7_slabEntries_90 : decode cX7_slabEntries 90 = .ok (.iload_n 1, 1) := by decide +kernel
theorem dX7_slabEntries_91 : decode cX7_slabEntries 91 = .ok (.bipush 64, 2) := by decide +kernel
theorem dX7_slabEntries_93 : decode cX7_slabEntries 93 = .ok (.iadd, 1) := by decide +kernel
theorem dX7_slabEntries_94 : decode cX7_slabEntries 94 = .ok (.iload_n 3, 1) := by decide +kernel
theorem dX7_slabEntries_95 : decode cX7_slabEntries 95 = .ok (.isub, 1) := by decide +kernel
theorem dX7_slabEntries_96 : decode cX7_slabEntries 96 = .ok (.iconst 5, 1) := by decide +kernel
theorem dX7_slabEntries_97 : decode cX7_slabEntries 97 = .ok (.iconst (-1), 1) := by decide +kernel
theorem dX7_slabEntries_98 : decode cX7_slabEntries 98 = .ok (.iload_n 2, 1) := by decide +kernel
theorem dX7_slabEntries_99 : decode cX7_slabEntries 99 = .ok (.invokevirtual 231, 3) := by decide +kernel
theorem dX7_slabEntries_102 : decode cX7_slabEntries 102 = .ok (.return_, 1) := by decide +kernel
theorem dX7_pieceEntries_0 : decode cX7_pieceEntries 0 = .ok (.aload_n 0, 1) := by decide +kernel
theorem dX7_pieceEntries_1 : decode cX7_pieceEntries 1 = .ok (.getfield 20, 3) := by decide +kernel
theorem dX7_pieceEntries_4 : decode cX7_pieceEntries 4 = .ok (.iload_n 1, 1) := by decide +kernel
theorem dX7_pieceEntries_5 : decode cX7_pieceEntries 5 = .ok (.iaload, 1) := by decide +kernel
theorem dX7_pieceEntries_6 : decode cX7_pieceEntries 6 = .ok (.istore_n 3, 1) := by decide +kernel
theorem dX7_pieceEntries_7 : decode cX7_pieceEntries 7 = .ok (.aload_n 0, 1) := by decide +kernel
theorem dX7_pieceEntries_8 : decode cX7_pieceEntries 8 = .ok (.getfield 23, 3) := by decide +kernel
theorem dX7_pieceEntries_11 : decode cX7_pieceEntries 11 = .ok (.iload_n 2, 1) := by decide +kernel
theorem dX7_pieceEntries_12 : decode cX7_pieceEntries 12 = .ok (.iaload, 1) := by decide +kernel
theorem dX7_pieceEntries_13 : decode cX7_pieceEntries 13 = .ok (.iconst 1, 1) := by decide +kernel
theorem dX7_pieceEntries_14 : decode cX7_pieceEntries 14 = .ok (.if_icmp .ne 26, 3) := by decide +kernel
theorem dX7_pieceEntries_17 : decode cX7_pieceEntries 17 = .ok (.aload_n 0, 1) := by decide +kernel
theorem dX7_pieceEntries_18 : decode cX7_pieceEntries 18 = .ok (.iload_n 1, 1) := by decide +kernel
theorem dX7_pieceEntries_19 : decode cX7_pieceEntries 19 = .ok (.aload_n 0, 1) := by decide +kernel
theorem dX7_pieceEntries_20 : decode cX7_pieceEntries 20 = .ok (.getfield 17, 3) := by decide +kernel
theorem dX7_pieceEntries_23 : decode cX7_pieceEntries 23 = .ok (.iload_n 1, 1) := by decide +kernel
theorem dX7_pieceEntries_24 : decode cX7_pieceEntries 24 = .ok (.iaload, 1) := by decide +kernel
theorem dX7_pieceEntries_25 : decode cX7_pieceEntries 25 = .ok (.iload_n 3, 1) := by decide +kernel
theorem dX7_pieceEntries_26 : decode cX7_pieceEntries 26 = .ok (.ifCond .ge 7, 3) := by decide +kernel
theorem dX7_pieceEntries_29 : decode cX7_pieceEntries 29 = .ok (.iconst 4, 1) := by decide +kernel
theorem dX7_pieceEntries_30 : decode cX7_pieceEntries 30 = .ok (.goto 4, 3) := by decide +kernel
theorem dX7_pieceEntries_33 : decode cX7_pieceEntries 33 = .ok (.iconst 3, 1) := by decide +kernel
theorem dX7_pieceEntries_34 : decode cX7_pieceEntries 34 = .ok (.iload_n 3, 1) := by decide +kernel
theorem dX7_pieceEntries_35 : decode cX7_pieceEntries 35 = .ok (.iload_n 2, 1) := by decide +kernel
theorem dX7_pieceEntries_36 : decode cX7_pieceEntries 36 = .ok (.invokevirtual 231, 3) := by decide +kernel
theorem dX7_pieceEntries_39 : decode cX7_pieceEntries 39 = .ok (.return_, 1) := by decide +kernel
theorem dX7_pieceEntries_40 : decode cX7_pieceEntries 40 = .ok (.aload_n 0, 1) := by decide +kernel
theorem dX7_pieceEntries_41 : decode cX7_pieceEntries 41 = .ok (.iload_n 1, 1) := by decide +kernel
theorem dX7_pieceEntries_42 : decode cX7_pieceEntries 42 = .ok (.iconst 1, 1) := by decide +kernel
theorem dX7_pieceEntries_43 : decode cX7_pieceEntries 43 = .ok (.iconst 2, 1) := by decide +kernel
theorem dX7_pieceEntries_44 : decode cX7_pieceEntries 44 = .ok (.iconst (-1), 1) := by decide +kernel
theorem dX7_pieceEntries_45 : decode cX7_pieceEntries 45 = .ok (.iload_n 2, 1) := by decide +kernel
theorem dX7_pieceEntries_46 : decode cX7_pieceEntries 46 = .ok (.invokevirtual 231, 3) := by decide +kernel
theorem dX7_pieceEntries_49 : decode cX7_pieceEntries 49 = .ok (.iload_n 3, 1) := by decide +kernel
theorem dX7_pieceEntries_50 : decode cX7_pieceEntries 50 = .ok (.ifCond .ge 24, 3) := by decide +kernel
theorem dX7_pieceEntries_53 : decode cX7_pieceEntries 53 = .ok (.aload_n 0, 1) := by decide +kernel
theorem dX7_pieceEntries_54 : decode cX7_pieceEntries 54 = .ok (.iload_n 1, 1) := by decide +kernel
theorem dX7_pieceEntries_55 : decode cX7_pieceEntries 55 = .ok (.iconst 1, 1) := by decide +kernel
theorem dX7_pieceEntries_56 : decode cX7_pieceEntries 56 = .ok (.iadd, 1) := by decide +kernel
theorem dX7_pieceEntries_57 : decode cX7_pieceEntries 57 = .ok (.aload_n 0, 1) := by decide +kernel
theorem dX7_pieceEntries_58 : decode cX7_pieceEntries 58 = .ok (.getfield 17, 3) := by decide +kernel
theorem dX7_pieceEntries_61 : decode cX7_pieceEntries 61 = .ok (.iload_n 1, 1) := by decide +kernel
theorem dX7_pieceEntries_62 : decode cX7_pieceEntries 62 = .ok (.iaload, 1) := by decide +kernel
theorem dX7_pieceEntries_63 : decode cX7_pieceEntries 63 = .ok (.iconst 1, 1) := by decide +kernel
theorem dX7_pieceEntries_64 : decode cX7_pieceEntries 64 = .ok (.isub, 1) := by decide +kernel
theorem dX7_pieceEntries_65 : decode cX7_pieceEntries 65 = .ok (.iconst 4, 1) := by decide +kernel
theorem dX7_pieceEntries_66 : decode cX7_pieceEntries 66 = .ok (.iconst (-1), 1) := by decide +kernel
theorem dX7_pieceEntries_67 : decode cX7_pieceEntries 67 = .ok (.iload_n 2, 1) := by decide +kernel
theorem dX7_pieceEntries_68 : decode cX7_pieceEntries 68 = .ok (.invokevirtual 231, 3) := by decide +kernel
theorem dX7_pieceEntries_71 : decode cX7_pieceEntries 71 = .ok (.goto 79, 3) := by decide +kernel
theorem dX7_pieceEntries_74 : decode cX7_pieceEntries 74 = .ok (.aload_n 0, 1) := by decide +kernel
theorem dX7_pieceEntries_75 : decode cX7_pieceEntries 75 = .ok (.getfield 23, 3) := by decide +kernel
theorem dX7_pieceEntries_78 : decode cX7_pieceEntries 78 = .ok (.iload_n 2, 1) := by decide +kernel
theorem dX7_pieceEntries_79 : decode cX7_pieceEntries 79 = .ok (.iaload, 1) := by decide +kernel
theorem dX7_pieceEntries_80 : decode cX7_pieceEntries 80 = .ok (.iconst 5, 1) := by decide +kernel
theorem dX7_pieceEntries_81 : decode cX7_pieceEntries 81 = .ok (.if_icmp .ne 53, 3) := by decide +kernel
theorem dX7_pieceEntries_84 : decode cX7_pieceEntries 84 = .ok (.aload_n 0, 1) := by decide +kernel
theorem dX7_pieceEntries_85 : decode cX7_pieceEntries 85 = .ok (.iload_n 1, 1) := by decide +kernel
theorem dX7_pieceEntries_86 : decode cX7_pieceEntries 86 = .ok (.iconst 1, 1) := by decide +kernel
theorem dX7_pieceEntries_87 : decode cX7_pieceEntries 87 = .ok (.iadd, 1) := by decide +kernel
theorem dX7_pieceEntries_88 : decode cX7_pieceEntries 88 = .ok (.iconst 1, 1) := by decide +kernel
theorem dX7_pieceEntries_89 : decode cX7_pieceEntries 89 = .ok (.bipush 6, 2) := by decide +kernel
theorem dX7_pieceEntries_91 : decode cX7_pieceEntries 91 = .ok (.iload_n 3, 1) := by decide +kernel
theorem dX7_pieceEntries_92 : decode cX7_pieceEntries 92 = .ok (.iload_n 2, 1) := by decide +kernel
theorem dX7_pieceEntries_93 : decode cX7_pieceEntries 93 = .ok (.invokevirtual 231, 3) := by decide +kernel
theorem dX7_pieceEntries_96 : decode cX7_pieceEntries 96 = .ok (.aload_n 0, 1) := by decide +kernel
theorem dX7_pieceEntries_97 : decode cX7_pieceEntries 97 = .ok (.iload_n 1, 1) := by decide +kernel
theorem dX7_pieceEntries_98 : decode cX7_pieceEntries 98 = .ok (.iconst 2, 1) := by decide +kernel
theorem dX7_pieceEntries_99 : decode cX7_pieceEntries 99 = .ok (.iadd, 1) := by decide +kernel
theorem dX7_pieceEntries_100 : decode cX7_pieceEntries 100 = .ok (.aload_n 0, 1) := by decide +kernel
theorem dX7_pieceEntries_101 : decode cX7_pieceEntries 101 = .ok (.getfield 36, 3) := by decide +kernel
theorem dX7_pieceEntries_104 : decode cX7_pieceEntries 104 = .ok (.iload_n 3, 1) := by decide +kernel
theorem dX7_pieceEntries_105 : decode cX7_pieceEntries 105 = .ok (.iaload, 1) := by decide +kernel
theorem dX7_pieceEntries_106 : decode cX7_pieceEntries 106 = .ok (.iconst 3, 1) := by decide +kernel
theorem dX7_pieceEntries_107 : decode cX7_pieceEntries 107 = .ok (.iload_n 3, 1) := by decide +kernel
theorem dX7_pieceEntries_108 : decode cX7_pieceEntries 108 = .ok (.iload_n 2, 1) := by decide +kernel
theorem dX7_pieceEntries_109 : decode cX7_pieceEntries 109 = .ok (.invokevirtual 231, 3) := by decide +kernel
theorem dX7_pieceEntries_112 : decode cX7_pieceEntries 112 = .ok (.aload_n 0, 1) := by decide +kernel
theorem dX7_pieceEntries_113 : decode cX7_pieceEntries 113 = .ok (.iload_n 1, 1) := by decide +kernel
theorem dX7_pieceEntries_114 : decode cX7_pieceEntries 114 = .ok (.iconst 2, 1) := by decide +kernel
theorem dX7_pieceEntries_115 : decode cX7_pieceEntries 115 = .ok (.iadd, 1) := by decide +kernel
theorem dX7_pieceEntries_116 : decode cX7_pieceEntries 116 = .ok (.aload_n 0, 1) := by decide +kernel
theorem dX7_pieceEntries_117 : decode cX7_pieceEntries 117 = .ok (.getfield 36, 3) := by decide +kernel
theorem dX7_pieceEntries_120 : decode cX7_pieceEntries 120 = .ok (.iload_n 3, 1) := by decide +kernel
theorem dX7_pieceEntries_121 : decode cX7_pieceEntries 121 = .ok (.iaload, 1) := by decide +kernel
theorem dX7_pieceEntries_122 : decode cX7_pieceEntries 122 = .ok (.iadd, 1) := by decide +kernel
theorem dX7_pieceEntries_123 : decode cX7_pieceEntries 123 = .ok (.iconst 1, 1) := by decide +kernel
theorem dX7_pieceEntries_124 : decode cX7_pieceEntries 124 = .ok (.bipush 6, 2) := by decide +kernel
theorem dX7_pieceEntries_126 : decode cX7_pieceEntries 126 = .ok (.iload_n 3, 1) := by decide +kernel
theorem dX7_pieceEntries_127 : decode cX7_pieceEntries 127 = .ok (.iload_n 2, 1) := by decide +kernel
theorem dX7_pieceEntries_128 : decode cX7_pieceEntries 128 = .ok (.invokevirtual 231, 3) := by decide +kernel
theorem dX7_pieceEntries_131 : decode cX7_pieceEntries 131 = .ok (.goto 19, 3) := by decide +kernel
theorem dX7_pieceEntries_134 : decode cX7_pieceEntries 134 = .ok (.aload_n 0, 1) := by decide +kernel
theorem dX7_pieceEntries_135 : decode cX7_pieceEntries 135 = .ok (.iload_n 1, 1) := by decide +kernel
theorem dX7_pieceEntries_136 : decode cX7_pieceEntries 136 = .ok (.iconst 1, 1) := by decide +kernel
theorem dX7_pieceEntries_137 : decode cX7_pieceEntries 137 = .ok (.iadd, 1) := by decide +kernel
theorem dX7_pieceEntries_138 : decode cX7_pieceEntries 138 = .ok (.aload_n 0, 1) := by decide +kernel
theorem dX7_pieceEntries_139 : decode cX7_pieceEntries 139 = .ok (.getfield 36, 3) := by decide +kernel
theorem dX7_pieceEntries_142 : decode cX7_pieceEntries 142 = .ok (.iload_n 3, 1) := by decide +kernel
theorem dX7_pieceEntries_143 : decode cX7_pieceEntries 143 = .ok (.iaload, 1) := by decide +kernel
theorem dX7_pieceEntries_144 : decode cX7_pieceEntries 144 = .ok (.iconst 3, 1) := by decide +kernel
theorem dX7_pieceEntries_145 : decode cX7_pieceEntries 145 = .ok (.iload_n 3, 1) := by decide +kernel
theorem dX7_pieceEntries_146 : decode cX7_pieceEntries 146 = .ok (.iload_n 2, 1) := by decide +kernel
theorem dX7_pieceEntries_147 : decode cX7_pieceEntries 147 = .ok (.invokevirtual 231, 3) := by decide +kernel
theorem dX7_pieceEntries_150 : decode cX7_pieceEntries 150 = .ok (.return_, 1) := by decide +kernel
theorem dX7_peek_0 : decode cX7_peek 0 = .ok (.iload_n 1, 1) := by decide +kernel
theorem dX7_peek_1 : decode cX7_peek 1 = .ok (.ifCond .lt 14, 3) := by decide +kernel
theorem dX7_peek_4 : decode cX7_peek 4 = .ok (.iload_n 1, 1) := by decide +kernel
theorem dX7_peek_5 : decode cX7_peek 5 = .ok (.bipush 64, 2) := by decide +kernel
theorem dX7_peek_7 : decode cX7_peek 7 = .ok (.aload_n 0, 1) := by decide +kernel
theorem dX7_peek_8 : decode cX7_peek 8 = .ok (.getfield 94, 3) := by decide +kernel
theorem dX7_peek_11 : decode cX7_peek 11 = .ok (.imul, 1) := by decide +kernel
theorem dX7_peek_12 : decode cX7_peek 12 = .ok (.if_icmp .lt 9, 3) := by decide +kernel
theorem dX7_peek_15 : decode cX7_peek 15 = .ok (.aload_n 0, 1) := by decide +kernel
theorem dX7_peek_16 : decode cX7_peek 16 = .ok (.iconst (-1), 1) := by decide +kernel
theorem dX7_peek_17 : decode cX7_peek 17 = .ok (.invokevirtual 90, 3) := by decide +kernel
theorem dX7_peek_20 : decode cX7_peek 20 = .ok (.ireturn, 1) := by decide +kernel
theorem dX7_peek_21 : decode cX7_peek 21 = .ok (.aload_n 0, 1) := by decide +kernel
theorem dX7_peek_22 : decode cX7_peek 22 = .ok (.getfield 9, 3) := by decide +kernel
theorem dX7_peek_25 : decode cX7_peek 25 = .ok (.iload_n 1, 1) := by decide +kernel
theorem dX7_peek_26 : decode cX7_peek 26 = .ok (.bipush 64, 2) := by decide +kernel
theorem dX7_peek_28 : decode cX7_peek 28 = .ok (.idiv, 1) := by decide +kernel
theorem dX7_peek_29 : decode cX7_peek 29 = .ok (.iaload, 1) := by decide +kernel
theorem dX7_peek_30 : decode cX7_peek 30 = .ok (.bipush (-2), 2) := by decide +kernel
theorem dX7_peek_32 : decode cX7_peek 32 = .ok (.if_icmp .ne 10, 3) := by decide +kernel
theorem dX7_peek_35 : decode cX7_peek 35 = .ok (.aload_n 0, 1) := by decide +kernel
theorem dX7_peek_36 : decode cX7_peek 36 = .ok (.bipush (-2), 2) := by decide +kernel
theorem dX7_peek_38 : decode cX7_peek 38 = .ok (.invokevirtual 90, 3) := by decide +kernel
theorem dX7_peek_41 : decode cX7_peek 41 = .ok (.ireturn, 1) := by decide +kernel
theorem dX7_peek_42 : decode cX7_peek 42 = .ok (.aload_n 0, 1) := by decide +kernel
theorem dX7_peek_43 : decode cX7_peek 43 = .ok (.iconst (-1), 1) := by decide +kernel
theorem dX7_peek_44 : decode cX7_peek 44 = .ok (.iload_n 1, 1) := by decide +kernel
theorem dX7_peek_45 : decode cX7_peek 45 = .ok (.invokevirtual 241, 3) := by decide +kernel
theorem dX7_peek_48 : decode cX7_peek 48 = .ok (.aload_n 0, 1) := by decide +kernel
theorem dX7_peek_49 : decode cX7_peek 49 = .ok (.aload_n 0, 1) := by decide +kernel
theorem dX7_peek_50 : decode cX7_peek 50 = .ok (.getfield 13, 3) := by decide +kernel
theorem dX7_peek_53 : decode cX7_peek 53 = .ok (.iload_n 1, 1) := by decide +kernel
theorem dX7_peek_54 : decode cX7_peek 54 = .ok (.laload, 1) := by decide +kernel
theorem dX7_peek_55 : decode cX7_peek 55 = .ok (.putfield 104, 3) := by decide +kernel
theorem dX7_peek_58 : decode cX7_peek 58 = .ok (.aload_n 0, 1) := by decide +kernel
theorem dX7_peek_59 : decode cX7_peek 59 = .ok (.getfield 222, 3) := by decide +kernel
theorem dX7_peek_62 : decode cX7_peek 62 = .ok (.ireturn, 1) := by decide +kernel
theorem dX7_map_0 : decode cX7_map 0 = .ok (.iload_n 1, 1) := by decide +kernel
theorem dX7_map_1 : decode cX7_map 1 = .ok (.ifCond .ge 9, 3) := by decide +kernel
theorem dX7_map_4 : decode cX7_map 4 = .ok (.aload_n 0, 1) := by decide +kernel
theorem dX7_map_5 : decode cX7_map 5 = .ok (.iconst (-1), 1) := by decide +kernel
theorem dX7_map_6 : decode cX7_map 6 = .ok (.invokevirtual 90, 3) := by decide +kernel
theorem dX7_map_9 : decode cX7_map 9 = .ok (.ireturn, 1) := by decide +kernel
theorem dX7_map_10 : decode cX7_map 10 = .ok (.aload_n 0, 1) := by decide +kernel
theorem dX7_map_11 : decode cX7_map 11 = .ok (.iload_n 1, 1) := by decide +kernel
theorem dX7_map_12 : decode cX7_map 12 = .ok (.iconst (-1), 1) := by decide +kernel
theorem dX7_map_13 : decode cX7_map 13 = .ok (.invokevirtual 241, 3) := by decide +kernel
theorem dX7_map_16 : decode cX7_map 16 = .ok (.aload_n 0, 1) := by decide +kernel
theorem dX7_map_17 : decode cX7_map 17 = .ok (.getfield 203, 3) := by decide +kernel
theorem dX7_map_20 : decode cX7_map 20 = .ok (.ifCond .eq 12, 3) := by decide +kernel
theorem dX7_map_23 : decode cX7_map 23 = .ok (.iload_n 2, 1) := by decide +kernel
theorem dX7_map_24 : decode cX7_map 24 = .ok (.ifCond .lt 8, 3) := by decide +kernel
theorem dX7_map_27 : decode cX7_map 27 = .ok (.iload_n 2, 1) := by decide +kernel
theorem dX7_map_28 : decode cX7_map 28 = .ok (.iconst 4, 1) := by decide +kernel
theorem dX7_map_29 : decode cX7_map 29 = .ok (.if_icmp .le 9, 3) := by decide +kernel
theorem dX7_map_32 : decode cX7_map 32 = .ok (.aload_n 0, 1) := by decide +kernel
theorem dX7_map_33 : decode cX7_map 33 = .ok (.iconst (-1), 1) := by decide +kernel
theorem dX7_map_34 : decode cX7_map 34 = .ok (.invokevirtual 90, 3) := by decide +kernel
theorem dX7_map_37 : decode cX7_map 37 = .ok (.ireturn, 1) := by decide +kernel
theorem dX7_map_38 : decode cX7_map 38 = .ok (.aload_n 0, 1) := by decide +kernel
theorem dX7_map_39 : decode cX7_map 39 = .ok (.getfield 225, 3) := by decide +kernel
theorem dX7_map_42 : decode cX7_map 42 = .ok (.ifCond .ge 7, 3) := by decide +kernel
theorem dX7_map_45 : decode cX7_map 45 = .ok (.iconst (-1), 1) := by decide +kernel
theorem dX7_map_46 : decode cX7_map 46 = .ok (.goto 22, 3) := by decide +kernel
theorem dX7_map_49 : decode cX7_map 49 = .ok (.bipush 100, 2) := by decide +kernel
theorem dX7_map_51 : decode cX7_map 51 = .ok (.aload_n 0, 1) := by decide +kernel
theorem dX7_map_52 : decode cX7_map 52 = .ok (.getfield 29, 3) := by decide +kernel
theorem dX7_map_55 : decode cX7_map 55 = .ok (.aload_n 0, 1) := by decide +kernel
theorem dX7_map_56 : decode cX7_map 56 = .ok (.getfield 225, 3) := by decide +kernel
theorem dX7_map_59 : decode cX7_map 59 = .ok (.iaload, 1) := by decide +kernel
theorem dX7_map_60 : decode cX7_map 60 = .ok (.iconst 1, 1) := by decide +kernel
theorem dX7_map_61 : decode cX7_map 61 = .ok (.isub, 1) := by decide +kernel
theorem dX7_map_62 : decode cX7_map 62 = .ok (.imul, 1) := by decide +kernel
theorem dX7_map_63 : decode cX7_map 63 = .ok (.aload_n 0, 1) := by decide +kernel
theorem dX7_map_64 : decode cX7_map 64 = .ok (.getfield 225, 3) := by decide +kernel
theorem dX7_map_67 : decode cX7_map 67 = .ok (.iadd, 1) := by decide +kernel
theorem dX7_map_68 : decode cX7_map 68 = .ok (.istore_n 3, 1) := by decide +kernel
theorem dX7_map_69 : decode cX7_map 69 = .ok (.iload_n 2, 1) := by decide +kernel
theorem dX7_map_70 : decode cX7_map 70 = .ok (.ifCond .ne 10, 3) := by decide +kernel
theorem dX7_map_73 : decode cX7_map 73 = .ok (.aload_n 0, 1) := by decide +kernel
theorem dX7_map_74 : decode cX7_map 74 = .ok (.getfield 216, 3) := by decide +kernel
theorem dX7_map_77 : decode cX7_map 77 = .ok (.goto 40, 3) := by decide +kernel
theorem dX7_map_80 : decode cX7_map 80 = .ok (.iload_n 2, 1) := by decide +kernel
theorem dX7_map_81 : decode cX7_map 81 = .ok (.iconst 1, 1) := by decide +kernel
theorem dX7_map_82 : decode cX7_map 82 = .ok (.if_icmp .ne 10, 3) := by decide +kernel
theorem dX7_map_85 : decode cX7_map 85 = .ok (.aload_n 0, 1) := by decide +kernel
theorem dX7_map_86 : decode cX7_map 86 = .ok (.getfield 219, 3) := by decide +kernel
theorem dX7_map_89 : decode cX7_map 89 = .ok (.goto 28, 3) := by decide +kernel
theorem dX7_map_92 : decode cX7_map 92 = .ok (.iload_n 2, 1) := by decide +kernel
theorem dX7_map_93 : decode cX7_map 93 = .ok (.iconst 2, 1) := by decide +kernel
theorem dX7_map_94 : decode cX7_map 94 = .ok (.if_icmp .ne 10, 3) := by decide +kernel
theorem dX7_map_97 : decode cX7_map 97 = .ok (.aload_n 0, 1) := by decide +kernel
theorem dX7_map_98 : decode cX7_map 98 = .ok (.getfield 222, 3) := by decide +kernel
theorem dX7_map_101 : decode cX7_map 101 = .ok (.goto 16, 3) := by decide +kernel
theorem dX7_map_104 : decode cX7_map 104 = .ok (.iload_n 2, 1) := by decide +kernel
theorem dX7_map_105 : decode cX7_map 105 = .ok (.iconst 3, 1) := by decide +kernel
theorem dX7_map_106 : decode cX7_map 106 = .ok (.if_icmp .ne 7, 3) := by decide +kernel
theorem dX7_map_109 : decode cX7_map 109 = .ok (.iload_n 3, 1) := by decide +kernel
theorem dX7_map_110 : decode cX7_map 110 = .ok (.goto 7, 3) := by decide +kernel
theorem dX7_map_113 : decode cX7_map 113 = .ok (.aload_n 0, 1) := by decide +kernel
theorem dX7_map_114 : decode cX7_map 114 = .ok (.getfield 228, 3) := by decide +kernel
theorem dX7_map_117 : decode cX7_map 117 = .ok (.ireturn, 1) := by decide +kernel
theorem dX7_largest_0 : decode cX7_largest 0 = .ok (.aload_n 0, 1) := by decide +kernel
theorem dX7_largest_1 : decode cX7_largest 1 = .ok (.iload_n 1, 1) := by decide +kernel
theorem dX7_largest_2 : decode cX7_largest 2 = .ok (.invokevirtual 166, 3) := by decide +kernel
theorem dX7_largest_5 : decode cX7_largest 5 = .ok (.ifCond .ne 9, 3) := by decide +kernel
theorem dX7_largest_8 : decode cX7_largest 8 = .ok (.aload_n 0, 1) := by decide +kernel
theorem dX7_largest_9 : decode cX7_largest 9 = .ok (.iconst (-1), 1) := by decide +kernel
theorem dX7_largest_10 : decode cX7_largest 10 = .ok (.invokevirtual 90, 3) := by decide +kernel
theorem dX7_largest_13 : decode cX7_largest 13 = .ok (.ireturn, 1) := by decide +kernel
theorem dX7_largest_14 : decode cX7_largest 14 = .ok (.aload_n 0, 1) := by decide +kernel
theorem dX7_largest_15 : decode cX7_largest 15 = .ok (.iload_n 1, 1) := by decide +kernel
theorem dX7_largest_16 : decode cX7_largest 16 = .ok (.invokevirtual 169, 3) := by decide +kernel
theorem dX7_largest_19 : decode cX7_largest 19 = .ok (.istore_n 2, 1) := by decide +kernel
theorem dX7_largest_20 : decode cX7_largest 20 = .ok (.iload_n 2, 1) := by decide +kernel
theorem dX7_largest_21 : decode cX7_largest 21 = .ok (.ifCond .lt 59, 3) := by decide +kernel
theorem dX7_largest_24 : decode cX7_largest 24 = .ok (.aload_n 0, 1) := by decide +kernel
theorem dX7_largest_25 : decode cX7_largest 25 = .ok (.getfield 23, 3) := by decide +kernel
theorem dX7_largest_28 : decode cX7_largest 28 = .ok (.iload_n 1, 1) := by decide +kernel
theorem dX7_largest_29 : decode cX7_largest 29 = .ok (.iaload, 1) := by decide +kernel
theorem dX7_largest_30 : decode cX7_largest 30 = .ok (.iconst 1, 1) := by decide +kernel
theorem dX7_largest_31 : decode cX7_largest 31 = .ok (.if_icmp .gt 7, 3) := by decide +kernel
theorem dX7_largest_34 : decode cX7_largest 34 = .ok (.iconst 1, 1) := by decide +kernel
theorem dX7_largest_35 : decode cX7_largest 35 = .ok (.goto 19, 3) := by decide +kernel
theorem dX7_largest_38 : decode cX7_largest 38 = .ok (.aload_n 0, 1) := by decide +kernel
theorem dX7_largest_39 : decode cX7_largest 39 = .ok (.iload_n 1, 1) := by decide +kernel
theorem dX7_largest_40 : decode cX7_largest 40 = .ok (.iload_n 2, 1) := by decide +kernel
theorem dX7_largest_41 : decode cX7_largest 41 = .ok (.invokevirtual 117, 3) := by decide +kernel
theorem dX7_largest_44 : decode cX7_largest 44 = .ok (.iconst 1, 1) := by decide +kernel
theorem dX7_largest_45 : decode cX7_largest 45 = .ok (.iadd, 1) := by decide +kernel
theorem dX7_largest_46 : decode cX7_largest 46 = .ok (.bipush 64, 2) := by decide +kernel
theorem dX7_largest_48 : decode cX7_largest 48 = .ok (.iadd, 1) := by decide +kernel
theorem dX7_largest_49 : decode cX7_largest 49 = .ok (.iconst 1, 1) := by decide +kernel
theorem dX7_largest_50 : decode cX7_largest 50 = .ok (.isub, 1) := by decide +kernel
theorem dX7_largest_51 : decode cX7_largest 51 = .ok (.bipush 64, 2) := by decide +kernel
theorem dX7_largest_53 : decode cX7_largest 53 = .ok (.idiv, 1) := by decide +kernel
theorem dX7_largest_54 : decode cX7_largest 54 = .ok (.istore_n 3, 1) := by decide +kernel
theorem dX7_largest_55 : decode cX7_largest 55 = .ok (.aload_n 0, 1) := by decide +kernel
theorem dX7_largest_56 : decode cX7_largest 56 = .ok (.iload_n 1, 1) := by decide +kernel
theorem dX7_largest_57 : decode cX7_largest 57 = .ok (.iload_n 2, 1) := by decide +kernel
theorem dX7_largest_58 : decode cX7_largest 58 = .ok (.invokevirtual 131, 3) := by decide +kernel
theorem dX7_largest_61 : decode cX7_largest 61 = .ok (.ifCond .ge 11, 3) := by decide +kernel
theorem dX7_largest_64 : decode cX7_largest 64 = .ok (.aload_n 0, 1) := by decide +kernel
theorem dX7_largest_65 : decode cX7_largest 65 = .ok (.iload_n 3, 1) := by decide +kernel
theorem dX7_largest_66 : decode cX7_largest 66 = .ok (.invokevirtual 134, 3) := by decide +kernel
theorem dX7_largest_69 : decode cX7_largest 69 = .ok (.ifCond .lt 5, 3) := by decide +kernel
theorem dX7_largest_72 : decode cX7_largest 72 = .ok (.iload_n 2, 1) := by decide +kernel
theorem dX7_largest_73 : decode cX7_largest 73 = .ok (.ireturn, 1) := by decide +kernel
theorem dX7_largest_74 : decode cX7_largest 74 = .ok (.iinc 2 (-1), 3) := by decide +kernel
theorem dX7_largest_77 : decode cX7_largest 77 = .ok (.goto (-57), 3) := by decide +kernel
theorem dX7_largest_80 : decode cX7_largest 80 = .ok (.aload_n 0, 1) := by decide +kernel
theorem dX7_largest_81 : decode cX7_largest 81 = .ok (.bipush (-6), 2) := by decide +kernel
theorem dX7_largest_83 : decode cX7_largest 83 = .ok (.invokevirtual 90, 3) := by decide +kernel
theorem dX7_largest_86 : decode cX7_largest 86 = .ok (.ireturn, 1) := by decide +kernel
theorem dX7_told_0 : decode cX7_told 0 = .ok (.aload_n 0, 1) := by decide +kernel
theorem dX7_told_1 : decode cX7_told 1 = .ok (.iload_n 1, 1) := by decide +kernel
theorem dX7_told_2 : decode cX7_told 2 = .ok (.invokevirtual 166, 3) := by decide +kernel
theorem dX7_told_5 : decode cX7_told 5 = .ok (.ifCond .eq 12, 3) := by decide +kernel
theorem dX7_told_8 : decode cX7_told 8 = .ok (.iload_n 2, 1) := by decide +kernel
theorem dX7_told_9 : decode cX7_told 9 = .ok (.ifCond .lt 8, 3) := by decide +kernel
theorem dX7_told_12 : decode cX7_told 12 = .ok (.iload_n 2, 1) := by decide +kernel
theorem dX7_told_13 : decode cX7_told 13 = .ok (.iconst 3, 1) := by decide +kernel
theorem dX7_told_14 : decode cX7_told 14 = .ok (.if_icmp .le 9, 3) := by decide +kernel
theorem dX7_told_17 : decode cX7_told 17 = .ok (.aload_n 0, 1) := by decide +kernel
theorem dX7_told_18 : decode cX7_told 18 = .ok (.iconst (-1), 1) := by decide +kernel
theorem dX7_told_19 : decode cX7_told 19 = .ok (.invokevirtual 90, 3) := by decide +kernel
theorem dX7_told_22 : decode cX7_told 22 = .ok (.ireturn, 1) := by decide +kernel
theorem dX7_told_23 : decode cX7_told 23 = .ok (.iload_n 2, 1) := by decide +kernel
theorem dX7_told_24 : decode cX7_told 24 = .ok (.ifCond .ne 10, 3) := by decide +kernel
theorem dX7_told_27 : decode cX7_told 27 = .ok (.aload_n 0, 1) := by decide +kernel
theorem dX7_told_28 : decode cX7_told 28 = .ok (.getfield 23, 3) := by decide +kernel
theorem dX7_told_31 : decode cX7_told 31 = .ok (.iload_n 1, 1) := by decide +kernel
theorem dX7_told_32 : decode cX7_told 32 = .ok (.iaload, 1) := by decide +kernel
theorem dX7_told_33 : decode cX7_told 33 = .ok (.ireturn, 1) := by decide +kernel
theorem dX7_told_34 : decode cX7_told 34 = .ok (.iconst 0, 1) := by decide +kernel
theorem dX7_told_35 : decode cX7_told 35 = .ok (.istore_n 3, 1) := by decide +kernel
theorem dX7_told_36 : decode cX7_told 36 = .ok (.iconst 0, 1) := by decide +kernel
theorem dX7_told_37 : decode cX7_told 37 = .ok (.istore 4, 2) := by decide +kernel
theorem dX7_told_39 : decode cX7_told 39 = .ok (.iload 4, 2) := by decide +kernel
theorem dX7_told_41 : decode cX7_told 41 = .ok (.aload_n 0, 1) := by decide +kernel
theorem dX7_told_42 : decode cX7_told 42 = .ok (.getfield 94, 3) := by decide +kernel
theorem dX7_told_45 : decode cX7_told 45 = .ok (.if_icmp .ge 33, 3) := by decide +kernel
theorem dX7_told_48 : decode cX7_told 48 = .ok (.iload_n 2, 1) := by decide +kernel
theorem dX7_told_49 : decode cX7_told 49 = .ok (.iconst 1, 1) := by decide +kernel
theorem dX7_told_50 : decode cX7_told 50 = .ok (.if_icmp .ne 28, 3) := by decide +kernel
theorem dX7_told_53 : decode cX7_told 53 = .ok (.iload_n 3, 1) := by decide +kernel
theorem dX7_told_54 : decode cX7_told 54 = .ok (.aload_n 0, 1) := by decide +kernel
theorem dX7_told_55 : decode cX7_told 55 = .ok (.getfield 9, 3) := by decide +kernel
theorem dX7_told_58 : decode cX7_told 58 = .ok (.iload 4, 2) := by decide +kernel
theorem dX7_told_60 : decode cX7_told 60 = .ok (.iaload, 1) := by decide +kernel
theorem dX7_told_61 : decode cX7_told 61 = .ok (.iload_n 1, 1) := by decide +kernel
theorem dX7_told_62 : decode cX7_told 62 = .ok (.if_icmp .ne 7, 3) := by decide +kernel
theorem dX7_told_65 : decode cX7_told 65 = .ok (.iconst 1, 1) := by decide +kernel
theorem dX7_told_66 : decode cX7_told 66 = .ok (.goto 4, 3) := by decide +kernel
theorem dX7_told_69 : decode cX7_told 69 = .ok (.iconst 0, 1) := by decide +kernel
theorem dX7_told_70 : decode cX7_told 70 = .ok (.iadd, 1) := by decide +kernel
theorem dX7_told_71 : decode cX7_told 71 = .ok (.istore_n 3, 1) := by decide +kernel
theorem dX7_told_72 : decode cX7_told 72 = .ok (.iinc 4 1, 3) := by decide +kernel
theorem dX7_told_75 : decode cX7_told 75 = .ok (.goto (-36), 3) := by decide +kernel
theorem dX7_told_78 : decode cX7_told 78 = .ok (.iconst 0, 1) := by decide +kernel
theorem dX7_told_79 : decode cX7_told 79 = .ok (.istore 4, 2) := by decide +kernel
theorem dX7_told_81 : decode cX7_told 81 = .ok (.iload 4, 2) := by decide +kernel
theorem dX7_told_83 : decode cX7_told 83 = .ok (.bipush 100, 2) := by decide +kernel
theorem dX7_told_85 : decode cX7_told 85 = .ok (.if_icmp .ge 43, 3) := by decide +kernel
theorem dX7_told_88 : decode cX7_told 88 = .ok (.iload_n 2, 1) := by decide +kernel
theorem dX7_told_89 : decode cX7_told 89 = .ok (.iconst 2, 1) := by decide +kernel
theorem dX7_told_90 : decode cX7_told 90 = .ok (.if_icmp .ne 38, 3) := by decide +kernel
theorem dX7_told_93 : decode cX7_told 93 = .ok (.iload_n 3, 1) := by decide +kernel
theorem dX7_told_94 : decode cX7_told 94 = .ok (.aload_n 0, 1) := by decide +kernel
theorem dX7_told_95 : decode cX7_told 95 = .ok (.getfield 32, 3) := by decide +kernel
theorem dX7_told_98 : decode cX7_told 98 = .ok (.iload 4, 2) := by decide +kernel
theorem dX7_told_100 : decode cX7_told 100 = .ok (.baload, 1) := by decide +kernel
theorem dX7_told_101 : decode cX7_told 101 = .ok (.ifCond .eq 18, 3) := by decide +kernel
theorem dX7_told_104 : decode cX7_told 104 = .ok (.aload_n 0, 1) := by decide +kernel
theorem dX7_told_105 : decode cX7_told 105 = .ok (.getfield 39, 3) := by decide +kernel
theorem dX7_told_108 : decode cX7_told 108 = .ok (.iload 4, 2) := by decide +kernel
theorem dX7_told_110 : decode cX7_told 110 = .ok (.iaload, 1) := by decide +kernel
theorem dX7_told_111 : decode cX7_told 111 = .ok (.iload_n 1, 1) := by decide +kernel
theorem dX7_told_112 : decode cX7_told 112 = .ok (.if_icmp .ne 7, 3) := by decide +kernel
theorem dX7_told_115 : decode cX7_told 115 = .ok (.iconst 1, 1) := by decide +kernel
theorem dX7_told_116 : decode cX7_told 116 = .ok (.goto 4, 3) := by decide +kernel
theorem dX7_told_119 : decode cX7_told 119 = .ok (.iconst 0, 1) := by decide +kernel
theorem dX7_told_120 : decode cX7_told 120 = .ok (.iadd, 1) := by decide +kernel
theorem dX7_told_121 : decode cX7_told 121 = .ok (.istore_n 3, 1) := by decide +kernel
theorem dX7_told_122 : decode cX7_told 122 = .ok (.iinc 4 1, 3) := by decide +kernel
theorem dX7_told_125 : decode cX7_told 125 = .ok (.goto (-44), 3) := by decide +kernel
theorem dX7_told_128 : decode cX7_told 128 = .ok (.iconst 0, 1) := by decide +kernel
theorem dX7_told_129 : decode cX7_told 129 = .ok (.istore 4, 2) := by decide +kernel
theorem dX7_told_131 : decode cX7_told 131 = .ok (.iload 4, 2) := by decide +kernel
theorem dX7_told_133 : decode cX7_told 133 = .ok (.bipush 64, 2) := by decide +kernel
theorem dX7_told_135 : decode cX7_told 135 = .ok (.aload_n 0, 1) := by decide +kernel
theorem dX7_told_136 : decode cX7_told 136 = .ok (.getfield 94, 3) := by decide +kernel
theorem dX7_told_139 : decode cX7_told 139 = .ok (.imul, 1) := by decide +kernel
theorem dX7_told_140 : decode cX7_told 140 = .ok (.if_icmp .ge 32, 3) := by decide +kernel
theorem dX7_told_143 : decode cX7_told 143 = .ok (.iload_n 2, 1) := by decide +kernel
theorem dX7_told_144 : decode cX7_told 144 = .ok (.iconst 3, 1) := by decide +kernel
theorem dX7_told_145 : decode cX7_told 145 = .ok (.if_icmp .ne 27, 3) := by decide +kernel
theorem dX7_told_148 : decode cX7_told 148 = .ok (.iload_n 3, 1) := by decide +kernel
theorem dX7_told_149 : decode cX7_told 149 = .ok (.aload_n 0, 1) := by decide +kernel
theorem dX7_told_150 : decode cX7_told 150 = .ok (.iload 4, 2) := by decide +kernel
theorem dX7_told_152 : decode cX7_told 152 = .ok (.iload_n 1, 1) := by decide +kernel
theorem dX7_told_153 : decode cX7_told 153 = .ok (.invokevirtual 121, 3) := by decide +kernel
theorem dX7_told_156 : decode cX7_told 156 = .ok (.ifCond .eq 7, 3) := by decide +kernel
theorem dX7_told_159 : decode cX7_told 159 = .ok (.iconst 1, 1) := by decide +kernel
theorem dX7_told_160 : decode cX7_told 160 = .ok (.goto 4, 3) := by decide +kernel
theorem dX7_told_163 : decode cX7_told 163 = .ok (.iconst 0, 1) := by decide +kernel
theorem dX7_told_164 : decode cX7_told 164 = .ok (.iadd, 1) := by decide +kernel
theorem dX7_told_165 : decode cX7_told 165 = .ok (.istore_n 3, 1) := by decide +kernel
theorem dX7_told_166 : decode cX7_told 166 = .ok (.iinc 4 1, 3) := by decide +kernel
theorem dX7_told_169 : decode cX7_told 169 = .ok (.goto (-38), 3) := by decide +kernel
theorem dX7_told_172 : decode cX7_told 172 = .ok (.iload_n 3, 1) := by decide +kernel
theorem dX7_told_173 : decode cX7_told 173 = .ok (.ireturn, 1) := by decide +kernel
theorem dX7_count_0 : decode cX7_count 0 = .ok (.iconst 0, 1) := by decide +kernel
theorem dX7_count_1 : decode cX7_count 1 = .ok (.istore_n 2, 1) := by decide +kernel
theorem dX7_count_2 : decode cX7_count 2 = .ok (.iload_n 1, 1) := by decide +kernel
theorem dX7_count_3 : decode cX7_count 3 = .ok (.tableswitch 95 0 4 #[33, 38, 74, 79, 84], 33) := by decide +kernel
theorem dX7_count_36 : decode cX7_count 36 = .ok (.aload_n 0, 1) := by decide +kernel
theorem dX7_count_37 : decode cX7_count 37 = .ok (.getfield 94, 3) := by decide +kernel
theorem dX7_count_40 : decode cX7_count 40 = .ok (.ireturn, 1) := by decide +kernel
theorem dX7_count_41 : decode cX7_count 41 = .ok (.iconst 0, 1) := by decide +kernel
theorem dX7_count_42 : decode cX7_count 42 = .ok (.istore_n 3, 1) := by decide +kernel
theorem dX7_count_43 : decode cX7_count 43 = .ok (.iload_n 3, 1) := by decide +kernel
theorem dX7_count_44 : decode cX7_count 44 = .ok (.aload_n 0, 1) := by decide +kernel
theorem dX7_count_45 : decode cX7_count 45 = .ok (.getfield 94, 3) := by decide +kernel
theorem dX7_count_48 : decode cX7_count 48 = .ok (.if_icmp .ge 27, 3) := by decide +kernel
theorem dX7_count_51 : decode cX7_count 51 = .ok (.iload_n 2, 1) := by decide +kernel
theorem dX7_count_52 : decode cX7_count 52 = .ok (.aload_n 0, 1) := by decide +kernel
theorem dX7_count_53 : decode cX7_count 53 = .ok (.getfield 9, 3) := by decide +kernel
theorem dX7_count_56 : decode cX7_count 56 = .ok (.iload_n 3, 1) := by decide +kernel
theorem dX7_count_57 : decode cX7_count 57 = .ok (.iaload, 1) := by decide +kernel
theorem dX7_count_58 : decode cX7_count 58 = .ok (.iconst (-1), 1) := by decide +kernel
theorem dX7_count_59 : decode cX7_count 59 = .ok (.if_icmp .ne 7, 3) := by decide +kernel
theorem dX7_count_62 : decode cX7_count 62 = .ok (.iconst 1, 1) := by decide +kernel
theorem dX7_count_63 : decode cX7_count 63 = .ok (.goto 4, 3) := by decide +kernel
theorem dX7_count_66 : decode cX7_count 66 = .ok (.iconst 0, 1) := by decide +kernel
theorem dX7_count_67 : decode cX7_count 67 = .ok (.iadd, 1) := by decide +kernel
theorem dX7_count_68 : decode cX7_count 68 = .ok (.istore_n 2, 1) := by decide +kernel
theorem dX7_count_69 : decode cX7_count 69 = .ok (.iinc 3 1, 3) := by decide +kernel
theorem dX7_count_72 : decode cX7_count 72 = .ok (.goto (-29), 3) := by decide +kernel
theorem dX7_count_75 : decode cX7_count 75 = .ok (.iload_n 2, 1) := by decide +kernel
theorem dX7_count_76 : decode cX7_count 76 = .ok (.ireturn, 1) := by decide +kernel
theorem dX7_count_77 : decode cX7_count 77 = .ok (.aload_n 0, 1) := by decide +kernel
theorem dX7_count_78 : decode cX7_count 78 = .ok (.getfield 98, 3) := by decide +kernel
theorem dX7_count_81 : decode cX7_count 81 = .ok (.ireturn, 1) := by decide +kernel
theorem dX7_count_82 : decode cX7_count 82 = .ok (.aload_n 0, 1) := by decide +kernel
theorem dX7_count_83 : decode cX7_count 83 = .ok (.getfield 101, 3) := by decide +kernel
theorem dX7_count_86 : decode cX7_count 86 = .ok (.ireturn, 1) := by decide +kernel
theorem dX7_count_87 : decode cX7_count 87 = .ok (.aload_n 0, 1) := by decide +kernel
theorem dX7_count_88 : decode cX7_count 88 = .ok (.iconst (-1), 1) := by decide +kernel
theorem dX7_count_89 : decode cX7_count 89 = .ok (.iconst (-1), 1) := by decide +kernel
theorem dX7_count_90 : decode cX7_count 90 = .ok (.invokevirtual 241, 3) := by decide +kernel
theorem dX7_count_93 : decode cX7_count 93 = .ok (.aload_n 0, 1) := by decide +kernel
theorem dX7_count_94 : decode cX7_count 94 = .ok (.getfield 207, 3) := by decide +kernel
theorem dX7_count_97 : decode cX7_count 97 = .ok (.ireturn, 1) := by decide +kernel
theorem dX7_count_98 : decode cX7_count 98 = .ok (.aload_n 0, 1) := by decide +kernel
theorem dX7_count_99 : decode cX7_count 99 = .ok (.iconst (-1), 1) := by decide +kernel
theorem dX7_count_100 : decode cX7_count 100 = .ok (.invokevirtual 90, 3) := by decide +kernel
theorem dX7_count_103 : decode cX7_count 103 = .ok (.ireturn, 1) := by decide +kernel
theorem dX7_put_0 : decode cX7_put 0 = .ok (.iconst 0, 1) := by decide +kernel
theorem dX7_put_1 : decode cX7_put 1 = .ok (.istore_n 2, 1) := by decide +kernel
theorem dX7_put_2 : decode cX7_put 2 = .ok (.iload_n 2, 1) := by decide +kernel
theorem dX7_put_3 : decode cX7_put 3 = .ok (.aload_n 0, 1) := by decide +kernel
theorem dX7_put_4 : decode cX7_put 4 = .ok (.arraylength, 1) := by decide +kernel
theorem dX7_put_5 : decode cX7_put 5 = .ok (.if_icmp .ge 15, 3) := by decide +kernel
theorem dX7_put_8 : decode cX7_put 8 = .ok (.aload_n 1, 1) := by decide +kernel
theorem dX7_put_9 : decode cX7_put 9 = .ok (.iload_n 2, 1) := by decide +kernel
theorem dX7_put_10 : decode cX7_put 10 = .ok (.aload_n 0, 1) := by decide +kernel
theorem dX7_put_11 : decode cX7_put 11 = .ok (.iload_n 2, 1) := by decide +kernel
theorem dX7_put_12 : decode cX7_put 12 = .ok (.iaload, 1) := by decide +kernel
theorem dX7_put_13 : decode cX7_put 13 = .ok (.iastore, 1) := by decide +kernel
theorem dX7_put_14 : decode cX7_put 14 = .ok (.iinc 2 1, 3) := by decide +kernel
theorem dX7_put_17 : decode cX7_put 17 = .ok (.goto (-15), 3) := by decide +kernel
theorem dX7_put_20 : decode cX7_put 20 = .ok (.return_, 1) := by decide +kernel
theorem dX7_put__0 : decode cX7_put_ 0 = .ok (.iconst 0, 1) := by decide +kernel
theorem dX7_put__1 : decode cX7_put_ 1 = .ok (.istore_n 2, 1) := by decide +kernel
theorem dX7_put__2 : decode cX7_put_ 2 = .ok (.iload_n 2, 1) := by decide +kernel
theorem dX7_put__3 : decode cX7_put_ 3 = .ok (.aload_n 0, 1) := by decide +kernel
theorem dX7_put__4 : decode cX7_put_ 4 = .ok (.arraylength, 1) := by decide +kernel
theorem dX7_put__5 : decode cX7_put_ 5 = .ok (.if_icmp .ge 15, 3) := by decide +kernel
theorem dX7_put__8 : decode cX7_put_ 8 = .ok (.aload_n 1, 1) := by decide +kernel
theorem dX7_put__9 : decode cX7_put_ 9 = .ok (.iload_n 2, 1) := by decide +kernel
theorem dX7_put__10 : decode cX7_put_ 10 = .ok (.aload_n 0, 1) := by decide +kernel
theorem dX7_put__11 : decode cX7_put_ 11 = .ok (.iload_n 2, 1) := by decide +kernel
theorem dX7_put__12 : decode cX7_put_ 12 = .ok (.laload, 1) := by decide +kernel
theorem dX7_put__13 : decode cX7_put_ 13 = .ok (.lastore, 1) := by decide +kernel
theorem dX7_put__14 : decode cX7_put_ 14 = .ok (.iinc 2 1, 3) := by decide +kernel
theorem dX7_put__17 : decode cX7_put_ 17 = .ok (.goto (-15), 3) := by decide +kernel
theorem dX7_put__20 : decode cX7_put_ 20 = .ok (.return_, 1) := by decide +kernel
theorem dX7_put___0 : decode cX7_put__ 0 = .ok (.iconst 0, 1) := by decide +kernel
theorem dX7_put___1 : decode cX7_put__ 1 = .ok (.istore_n 2, 1) := by decide +kernel
theorem dX7_put___2 : decode cX7_put__ 2 = .ok (.iload_n 2, 1) := by decide +kernel
theorem dX7_put___3 : decode cX7_put__ 3 = .ok (.aload_n 0, 1) := by decide +kernel
theorem dX7_put___4 : decode cX7_put__ 4 = .ok (.arraylength, 1) := by decide +kernel
theorem dX7_put___5 : decode cX7_put__ 5 = .ok (.if_icmp .ge 15, 3) := by decide +kernel
theorem dX7_put___8 : decode cX7_put__ 8 = .ok (.aload_n 1, 1) := by decide +kernel
theorem dX7_put___9 : decode cX7_put__ 9 = .ok (.iload_n 2, 1) := by decide +kernel
theorem dX7_put___10 : decode cX7_put__ 10 = .ok (.aload_n 0, 1) := by decide +kernel
theorem dX7_put___11 : decode cX7_put__ 11 = .ok (.iload_n 2, 1) := by decide +kernel
theorem dX7_put___12 : decode cX7_put__ 12 = .ok (.baload, 1) := by decide +kernel
theorem dX7_put___13 : decode cX7_put__ 13 = .ok (.bastore, 1) := by decide +kernel
theorem dX7_put___14 : decode cX7_put__ 14 = .ok (.iinc 2 1, 3) := by decide +kernel
theorem dX7_put___17 : decode cX7_put__ 17 = .ok (.goto (-15), 3) := by decide +kernel
theorem dX7_put___20 : decode cX7_put__ 20 = .ok (.return_, 1) := by decide +kernel
theorem dX7_save_0 : decode cX7_save 0 = .ok (.aload_n 0, 1) := by decide +kernel
theorem dX7_save_1 : decode cX7_save 1 = .ok (.iconst 1, 1) := by decide +kernel
theorem dX7_save_2 : decode cX7_save 2 = .ok (.putfield 244, 3) := by decide +kernel
theorem dX7_save_5 : decode cX7_save 5 = .ok (.aload_n 0, 1) := by decide +kernel
theorem dX7_save_6 : decode cX7_save 6 = .ok (.aload_n 0, 1) := by decide +kernel
theorem dX7_save_7 : decode cX7_save 7 = .ok (.getfield 94, 3) := by decide +kernel
theorem dX7_save_10 : decode cX7_save 10 = .ok (.putfield 247, 3) := by decide +kernel
theorem dX7_save_13 : decode cX7_save 13 = .ok (.aload_n 0, 1) := by decide +kernel
theorem dX7_save_14 : decode cX7_save 14 = .ok (.aload_n 0, 1) := by decide +kernel
theorem dX7_save_15 : decode cX7_save 15 = .ok (.getfield 98, 3) := by decide +kernel
theorem dX7_save_18 : decode cX7_save 18 = .ok (.putfield 250, 3) := by decide +kernel
theorem dX7_save_21 : decode cX7_save 21 = .ok (.aload_n 0, 1) := by decide +kernel
theorem dX7_save_22 : decode cX7_save 22 = .ok (.aload_n 0, 1) := by decide +kernel
theorem dX7_save_23 : decode cX7_save 23 = .ok (.getfield 101, 3) := by decide +kernel
theorem dX7_save_26 : decode cX7_save 26 = .ok (.putfield 253, 3) := by decide +kernel
theorem dX7_save_29 : decode cX7_save 29 = .ok (.aload_n 0, 1) := by decide +kernel
theorem dX7_save_30 : decode cX7_save 30 = .ok (.getfield 9, 3) := by decide +kernel
theorem dX7_save_33 : decode cX7_save 33 = .ok (.aload_n 0, 1) := by decide +kernel
theorem dX7_save_34 : decode cX7_save 34 = .ok (.getfield 51, 3) := by decide +kernel
theorem dX7_save_37 : decode cX7_save 37 = .ok (.invokestatic 256, 3) := by decide +kernel
theorem dX7_save_40 : decode cX7_save 40 = .ok (.aload_n 0, 1) := by decide +kernel
theorem dX7_save_41 : decode cX7_save 41 = .ok (.getfield 13, 3) := by decide +kernel
theorem dX7_save_44 : decode cX7_save 44 = .ok (.aload_n 0, 1) := by decide +kernel
theorem dX7_save_45 : decode cX7_save 45 = .ok (.getfield 54, 3) := by decide +kernel
theorem dX7_save_48 : decode cX7_save 48 = .ok (.invokestatic 260, 3) := by decide +kernel
theorem dX7_save_51 : decode cX7_save 51 = .ok (.aload_n 0, 1) := by decide +kernel
theorem dX7_save_52 : decode cX7_save 52 = .ok (.getfield 17, 3) := by decide +kernel
theorem dX7_save_55 : decode cX7_save 55 = .ok (.aload_n 0, 1) := by decide +kernel
theorem dX7_save_56 : decode cX7_save 56 = .ok (.getfield 57, 3) := by decide +kernel
theorem dX7_save_59 : decode cX7_save 59 = .ok (.invokestatic 256, 3) := by decide +kernel
theorem dX7_save_62 : decode cX7_save 62 = .ok (.aload_n 0, 1) := by decide +kernel
theorem dX7_save_63 : decode cX7_save 63 = .ok (.getfield 20, 3) := by decide +kernel
theorem dX7_save_66 : decode cX7_save 66 = .ok (.aload_n 0, 1) := by decide +kernel
theorem dX7_save_67 : decode cX7_save 67 = .ok (.getfield 60, 3) := by decide +kernel
theorem dX7_save_70 : decode cX7_save 70 = .ok (.invokestatic 256, 3) := by decide +kernel
theorem dX7_save_73 : decode cX7_save 73 = .ok (.aload_n 0, 1) := by decide +kernel
theorem dX7_save_74 : decode cX7_save 74 = .ok (.getfield 23, 3) := by decide +kernel
theorem dX7_save_77 : decode cX7_save 77 = .ok (.aload_n 0, 1) := by decide +kernel
theorem dX7_save_78 : decode cX7_save 78 = .ok (.getfield 63, 3) := by decide +kernel
theorem dX7_save_81 : decode cX7_save 81 = .ok (.invokestatic 256, 3) := by decide +kernel
theorem dX7_save_84 : decode cX7_save 84 = .ok (.aload_n 0, 1) := by decide +kernel
theorem dX7_save_85 : decode cX7_save 85 = .ok (.getfield 26, 3) := by decide +kernel
theorem dX7_save_88 : decode cX7_save 88 = .ok (.aload_n 0, 1) := by decide +kernel
theorem dX7_save_89 : decode cX7_save 89 = .ok (.getfield 66, 3) := by decide +kernel
theorem dX7_save_92 : decode cX7_save 92 = .ok (.invokestatic 260, 3) := by decide +kernel
theorem dX7_save_95 : decode cX7_save 95 = .ok (.aload_n 0, 1) := by decide +kernel
theorem dX7_save_96 : decode cX7_save 96 = .ok (.getfield 29, 3) := by decide +kernel
theorem dX7_save_99 : decode cX7_save 99 = .ok (.aload_n 0, 1) := by decide +kernel
theorem dX7_save_100 : decode cX7_save 100 = .ok (.getfield 69, 3) := by decide +kernel
theorem dX7_save_103 : decode cX7_save 103 = .ok (.invokestatic 256, 3) := by decide +kernel
theorem dX7_save_106 : decode cX7_save 106 = .ok (.aload_n 0, 1) := by decide +kernel
theorem dX7_save_107 : decode cX7_save 107 = .ok (.getfield 32, 3) := by decide +kernel
theorem dX7_save_110 : decode cX7_save 110 = .ok (.aload_n 0, 1) := by decide +kernel
theorem dX7_save_111 : decode cX7_save 111 = .ok (.getfield 72, 3) := by decide +kernel
theorem dX7_save_114 : decode cX7_save 114 = .ok (.invokestatic 263, 3) := by decide +kernel
theorem dX7_save_117 : decode cX7_save 117 = .ok (.aload_n 0, 1) := by decide +kernel
theorem dX7_save_118 : decode cX7_save 118 = .ok (.getfield 36, 3) := by decide +kernel
theorem dX7_save_121 : decode cX7_save 121 = .ok (.aload_n 0, 1) := by decide +kernel
theorem dX7_save_122 : decode cX7_save 122 = .ok (.getfield 75, 3) := by decide +kernel
theorem dX7_save_125 : decode cX7_save 125 = .ok (.invokestatic 256, 3) := by decide +kernel
theorem dX7_save_128 : decode cX7_save 128 = .ok (.aload_n 0, 1) := by decide +kernel
theorem dX7_save_129 : decode cX7_save 129 = .ok (.getfield 39, 3) := by decide +kernel
theorem dX7_save_132 : decode cX7_save 132 = .ok (.aload_n 0, 1) := by decide +kernel
theorem dX7_save_133 : decode cX7_save 133 = .ok (.getfield 78, 3) := by decide +kernel
theorem dX7_save_136 : decode cX7_save 136 = .ok (.invokestatic 256, 3) := by decide +kernel
theorem dX7_save_139 : decode cX7_save 139 = .ok (.aload_n 0, 1) := by decide +kernel
theorem dX7_save_140 : decode cX7_save 140 = .ok (.getfield 42, 3) := by decide +kernel
theorem dX7_save_143 : decode cX7_save 143 = .ok (.aload_n 0, 1) := by decide +kernel
theorem dX7_save_144 : decode cX7_save 144 = .ok (.getfield 81, 3) := by decide +kernel
theorem dX7_save_147 : decode cX7_save 147 = .ok (.invokestatic 256, 3) := by decide +kernel
theorem dX7_save_150 : decode cX7_save 150 = .ok (.aload_n 0, 1) := by decide +kernel
theorem dX7_save_151 : decode cX7_save 151 = .ok (.getfield 45, 3) := by decide +kernel
theorem dX7_save_154 : decode cX7_save 154 = .ok (.aload_n 0, 1) := by decide +kernel
theorem dX7_save_155 : decode cX7_save 155 = .ok (.getfield 84, 3) := by decide +kernel
theorem dX7_save_158 : decode cX7_save 158 = .ok (.invokestatic 256, 3) := by decide +kernel
theorem dX7_save_161 : decode cX7_save 161 = .ok (.iconst 1, 1) := by decide +kernel
theorem dX7_save_162 : decode cX7_save 162 = .ok (.ireturn, 1) := by decide +kernel
theorem dX7_back_0 : decode cX7_back 0 = .ok (.aload_n 0, 1) := by decide +kernel
theorem dX7_back_1 : decode cX7_back 1 = .ok (.getfield 244, 3) := by decide +kernel
theorem dX7_back_4 : decode cX7_back 4 = .ok (.ifCond .ne 10, 3) := by decide +kernel
theorem dX7_back_7 : decode cX7_back 7 = .ok (.aload_n 0, 1) := by decide +kernel
theorem dX7_back_8 : decode cX7_back 8 = .ok (.bipush (-4), 2) := by decide +kernel
theorem dX7_back_10 : decode cX7_back 10 = .ok (.invokevirtual 90, 3) := by decide +kernel
theorem dX7_back_13 : decode cX7_back 13 = .ok (.ireturn, 1) := by decide +kernel
theorem dX7_back_14 : decode cX7_back 14 = .ok (.aload_n 0, 1) := by decide +kernel
theorem dX7_back_15 : decode cX7_back 15 = .ok (.aload_n 0, 1) := by decide +kernel
theorem dX7_back_16 : decode cX7_back 16 = .ok (.getfield 247, 3) := by decide +kernel
theorem dX7_back_19 : decode cX7_back 19 = .ok (.putfield 94, 3) := by decide +kernel
theorem dX7_back_22 : decode cX7_back 22 = .ok (.aload_n 0, 1) := by decide +kernel
theorem dX7_back_23 : decode cX7_back 23 = .ok (.aload_n 0, 1) := by decide +kernel
theorem dX7_back_24 : decode cX7_back 24 = .ok (.getfield 250, 3) := by decide +kernel
theorem dX7_back_27 : decode cX7_back 27 = .ok (.putfield 98, 3) := by decide +kernel
theorem dX7_back_30 : decode cX7_back 30 = .ok (.aload_n 0, 1) := by decide +kernel
theorem dX7_back_31 : decode cX7_back 31 = .ok (.aload_n 0, 1) := by decide +kernel
theorem dX7_back_32 : decode cX7_back 32 = .ok (.getfield 253, 3) := by decide +kernel
theorem dX7_back_35 : decode cX7_back 35 = .ok (.putfield 101, 3) := by decide +kernel
theorem dX7_back_38 : decode cX7_back 38 = .ok (.aload_n 0, 1) := by decide +kernel
theorem dX7_back_39 : decode cX7_back 39 = .ok (.getfield 51, 3) := by decide +kernel
theorem dX7_back_42 : decode cX7_back 42 = .ok (.aload_n 0, 1) := by decide +kernel
theorem dX7_back_43 : decode cX7_back 43 = .ok (.getfield 9, 3) := by decide +kernel
theorem dX7_back_46 : decode cX7_back 46 = .ok (.invokestatic 256, 3) := by decide +kernel
theorem dX7_back_49 : decode cX7_back 49 = .ok (.aload_n 0, 1) := by decide +kernel
theorem dX7_back_50 : decode cX7_back 50 = .ok (.getfield 54, 3) := by decide +kernel
theorem dX7_back_53 : decode cX7_back 53 = .ok (.aload_n 0, 1) := by decide +kernel
theorem dX7_back_54 : decode cX7_back 54 = .ok (.getfield 13, 3) := by decide +kernel
theorem dX7_back_57 : decode cX7_back 57 = .ok (.invokestatic 260, 3) := by decide +kernel
theorem dX7_back_60 : decode cX7_back 60 = .ok (.aload_n 0, 1) := by decide +kernel
theorem dX7_back_61 : decode cX7_back 61 = .ok (.getfield 57, 3) := by decide +kernel
theorem dX7_back_64 : decode cX7_back 64 = .ok (.aload_n 0, 1) := by decide +kernel
theorem dX7_back_65 : decode cX7_back 65 = .ok (.getfield 17, 3) := by decide +kernel
theorem dX7_back_68 : decode cX7_back 68 = .ok (.invokestatic 256, 3) := by decide +kernel
theorem dX7_back_71 : decode cX7_back 71 = .ok (.aload_n 0, 1) := by decide +kernel
theorem dX7_back_72 : decode cX7_back 72 = .ok (.getfield 60, 3) := by decide +kernel
theorem dX7_back_75 : decode cX7_back 75 = .ok (.aload_n 0, 1) := by decide +kernel
theorem dX7_back_76 : decode cX7_back 76 = .ok (.getfield 20, 3) := by decide +kernel
theorem dX7_back_79 : decode cX7_back 79 = .ok (.invokestatic 256, 3) := by decide +kernel
theorem dX7_back_82 : decode cX7_back 82 = .ok (.aload_n 0, 1) := by decide +kernel
theorem dX7_back_83 : decode cX7_back 83 = .ok (.getfield 63, 3) := by decide +kernel
theorem dX7_back_86 : decode cX7_back 86 = .ok (.aload_n 0, 1) := by decide +kernel
theorem dX7_back_87 : decode cX7_back 87 = .ok (.getfield 23, 3) := by decide +kernel
theorem dX7_back_90 : decode cX7_back 90 = .ok (.invokestatic 256, 3) := by decide +kernel
theorem dX7_back_93 : decode cX7_back 93 = .ok (.aload_n 0, 1) := by decide +kernel
theorem dX7_back_94 : decode cX7_back 94 = .ok (.getfield 66, 3) := by decide +kernel
theorem dX7_back_97 : decode cX7_back 97 = .ok (.aload_n 0, 1) := by decide +kernel
theorem dX7_back_98 : decode cX7_back 98 = .ok (.getfield 26, 3) := by decide +kernel
theorem dX7_back_101 : decode cX7_back 101 = .ok (.invokestatic 260, 3) := by decide +kernel
theorem dX7_back_104 : decode cX7_back 104 = .ok (.aload_n 0, 1) := by decide +kernel
theorem dX7_back_105 : decode cX7_back 105 = .ok (.getfield 69, 3) := by decide +kernel
theorem dX7_back_108 : decode cX7_back 108 = .ok (.aload_n 0, 1) := by decide +kernel
theorem dX7_back_109 : decode cX7_back 109 = .ok (.getfield 29, 3) := by decide +kernel
theorem dX7_back_112 : decode cX7_back 112 = .ok (.invokestatic 256, 3) := by decide +kernel
theorem dX7_back_115 : decode cX7_back 115 = .ok (.aload_n 0, 1) := by decide +kernel
theorem dX7_back_116 : decode cX7_back 116 = .ok (.getfield 72, 3) := by decide +kernel
theorem dX7_back_119 : decode cX7_back 119 = .ok (.aload_n 0, 1) := by decide +kernel
theorem dX7_back_120 : decode cX7_back 120 = .ok (.getfield 32, 3) := by decide +kernel
theorem dX7_back_123 : decode cX7_back 123 = .ok (.invokestatic 263, 3) := by decide +kernel
theorem dX7_back_126 : decode cX7_back 126 = .ok (.aload_n 0, 1) := by decide +kernel
theorem dX7_back_127 : decode cX7_back 127 = .ok (.getfield 75, 3) := by decide +kernel
theorem dX7_back_130 : decode cX7_back 130 = .ok (.aload_n 0, 1) := by decide +kernel
theorem dX7_back_131 : decode cX7_back 131 = .ok (.getfield 36, 3) := by decide +kernel
theorem dX7_back_134 : decode cX7_back 134 = .ok (.invokestatic 256, 3) := by decide +kernel
theorem dX7_back_137 : decode cX7_back 137 = .ok (.aload_n 0, 1) := by decide +kernel
theorem dX7_back_138 : decode cX7_back 138 = .ok (.getfield 78, 3) := by decide +kernel
theorem dX7_back_141 : decode cX7_back 141 = .ok (.aload_n 0, 1) := by decide +kernel
theorem dX7_back_142 : decode cX7_back 142 = .ok (.getfield 39, 3) := by decide +kernel
theorem dX7_back_145 : decode cX7_back 145 = .ok (.invokestatic 256, 3) := by decide +kernel
theorem dX7_back_148 : decode cX7_back 148 = .ok (.aload_n 0, 1) := by decide +kernel
theorem dX7_back_149 : decode cX7_back 149 = .ok (.getfield 81, 3) := by decide +kernel
theorem dX7_back_152 : decode cX7_back 152 = .ok (.aload_n 0, 1) := by decide +kernel
theorem dX7_back_153 : decode cX7_back 153 = .ok (.getfield 42, 3) := by decide +kernel
theorem dX7_back_156 : decode cX7_back 156 = .ok (.invokestatic 256, 3) := by decide +kernel
theorem dX7_back_159 : decode cX7_back 159 = .ok (.aload_n 0, 1) := by decide +kernel
theorem dX7_back_160 : decode cX7_back 160 = .ok (.getfield 84, 3) := by decide +kernel
theorem dX7_back_163 : decode cX7_back 163 = .ok (.aload_n 0, 1) := by decide +kernel
theorem dX7_back_164 : decode cX7_back 164 = .ok (.getfield 45, 3) := by decide +kernel
theorem dX7_back_167 : decode cX7_back 167 = .ok (.invokestatic 256, 3) := by decide +kernel
theorem dX7_back_170 : decode cX7_back 170 = .ok (.iconst 1, 1) := by decide +kernel
theorem dX7_back_171 : decode cX7_back 171 = .ok (.ireturn, 1) := by decide +kernel
theorem dX7_hold_0 : decode cX7_hold 0 = .ok (.iload_n 1, 1) := by decide +kernel
theorem dX7_hold_1 : decode cX7_hold 1 = .ok (.ifCond .lt 18, 3) := by decide +kernel
theorem dX7_hold_4 : decode cX7_hold 4 = .ok (.iload_n 1, 1) := by decide +kernel
theorem dX7_hold_5 : decode cX7_hold 5 = .ok (.iconst 3, 1) := by decide +kernel
theorem dX7_hold_6 : decode cX7_hold 6 = .ok (.if_icmp .gt 13, 3) := by decide +kernel
theorem dX7_hold_9 : decode cX7_hold 9 = .ok (.iload_n 2, 1) := by decide +kernel
theorem dX7_hold_10 : decode cX7_hold 10 = .ok (.ifCond .lt 9, 3) := by decide +kernel
theorem dX7_hold_13 : decode cX7_hold 13 = .ok (.iload_n 2, 1) := by decide +kernel
theorem dX7_hold_14 : decode cX7_hold 14 = .ok (.bipush 99, 2) := by decide +kernel
theorem dX7_hold_16 : decode cX7_hold 16 = .ok (.if_icmp .le 9, 3) := by decide +kernel
theorem dX7_hold_19 : decode cX7_hold 19 = .ok (.aload_n 0, 1) := by decide +kernel
theorem dX7_hold_20 : decode cX7_hold 20 = .ok (.iconst (-1), 1) := by decide +kernel
theorem dX7_hold_21 : decode cX7_hold 21 = .ok (.invokevirtual 90, 3) := by decide +kernel
theorem dX7_hold_24 : decode cX7_hold 24 = .ok (.ireturn, 1) := by decide +kernel
theorem dX7_hold_25 : decode cX7_hold 25 = .ok (.aload_n 0, 1) := by decide +kernel
theorem dX7_hold_26 : decode cX7_hold 26 = .ok (.getfield 45, 3) := by decide +kernel
theorem dX7_hold_29 : decode cX7_hold 29 = .ok (.iload_n 1, 1) := by decide +kernel
theorem dX7_hold_30 : decode cX7_hold 30 = .ok (.iaload, 1) := by decide +kernel
theorem dX7_hold_31 : decode cX7_hold 31 = .ok (.istore_n 3, 1) := by decide +kernel
theorem dX7_hold_32 : decode cX7_hold 32 = .ok (.aload_n 0, 1) := by decide +kernel
theorem dX7_hold_33 : decode cX7_hold 33 = .ok (.getfield 45, 3) := by decide +kernel
theorem dX7_hold_36 : decode cX7_hold 36 = .ok (.iload_n 1, 1) := by decide +kernel
theorem dX7_hold_37 : decode cX7_hold 37 = .ok (.iload_n 2, 1) := by decide +kernel
theorem dX7_hold_38 : decode cX7_hold 38 = .ok (.iastore, 1) := by decide +kernel
theorem dX7_hold_39 : decode cX7_hold 39 = .ok (.iload_n 3, 1) := by decide +kernel
theorem dX7_hold_40 : decode cX7_hold 40 = .ok (.ireturn, 1) := by decide +kernel
theorem dX7_throwIt_0 : decode cX7_throwIt 0 = .ok (.iload_n 1, 1) := by decide +kernel
theorem dX7_throwIt_1 : decode cX7_throwIt 1 = .ok (.ifCond .lt 17, 3) := by decide +kernel
theorem dX7_throwIt_4 : decode cX7_throwIt 4 = .ok (.iload_n 1, 1) := by decide +kernel
theorem dX7_throwIt_5 : decode cX7_throwIt 5 = .ok (.iconst 3, 1) := by decide +kernel
theorem dX7_throwIt_6 : decode cX7_throwIt 6 = .ok (.if_icmp .gt 12, 3) := by decide +kernel
theorem dX7_throwIt_9 : decode cX7_throwIt 9 = .ok (.aload_n 0, 1) := by decide +kernel
theorem dX7_throwIt_10 : decode cX7_throwIt 10 = .ok (.getfield 45, 3) := by decide +kernel
theorem dX7_throwIt_13 : decode cX7_throwIt 13 = .ok (.iload_n 1, 1) := by decide +kernel
theorem dX7_throwIt_14 : decode cX7_throwIt 14 = .ok (.iaload, 1) := by decide +kernel
theorem dX7_throwIt_15 : decode cX7_throwIt 15 = .ok (.ifCond .ne 23, 3) := by decide +kernel
theorem dX7_throwIt_18 : decode cX7_throwIt 18 = .ok (.aload_n 0, 1) := by decide +kernel
theorem dX7_throwIt_19 : decode cX7_throwIt 19 = .ok (.iload_n 1, 1) := by decide +kernel
theorem dX7_throwIt_20 : decode cX7_throwIt 20 = .ok (.ifCond .lt 8, 3) := by decide +kernel
theorem dX7_throwIt_23 : decode cX7_throwIt 23 = .ok (.iload_n 1, 1) := by decide +kernel
theorem dX7_throwIt_24 : decode cX7_throwIt 24 = .ok (.iconst 3, 1) := by decide +kernel
theorem dX7_throwIt_25 : decode cX7_throwIt 25 = .ok (.if_icmp .le 7, 3) := by decide +kernel
theorem dX7_throwIt_28 : decode cX7_throwIt 28 = .ok (.iconst (-1), 1) := by decide +kernel
theorem dX7_throwIt_29 : decode cX7_throwIt 29 = .ok (.goto 5, 3) := by decide +kernel
theorem dX7_throwIt_32 : decode cX7_throwIt 32 = .ok (.bipush (-4), 2) := by decide +kernel
theorem dX7_throwIt_34 : decode cX7_throwIt 34 = .ok (.invokevirtual 90, 3) := by decide +kernel
theorem dX7_throwIt_37 : decode cX7_throwIt 37 = .ok (.ireturn, 1) := by decide +kernel
theorem dX7_throwIt_38 : decode cX7_throwIt 38 = .ok (.aload_n 0, 1) := by decide +kernel
theorem dX7_throwIt_39 : decode cX7_throwIt 39 = .ok (.getfield 45, 3) := by decide +kernel
theorem dX7_throwIt_42 : decode cX7_throwIt 42 = .ok (.iload_n 1, 1) := by decide +kernel
theorem dX7_throwIt_43 : decode cX7_throwIt 43 = .ok (.iaload, 1) := by decide +kernel
theorem dX7_throwIt_44 : decode cX7_throwIt 44 = .ok (.ireturn, 1) := by decide +kernel
theorem dX7_found_0 : decode cX7_found 0 = .ok (.iload_n 1, 1) := by decide +kernel
theorem dX7_found_1 : decode cX7_found 1 = .ok (.ifCond .ge 19, 3) := by decide +kernel
theorem dX7_found_4 : decode cX7_found 4 = .ok (.iload_n 1, 1) := by decide +kernel
theorem dX7_found_5 : decode cX7_found 5 = .ok (.bipush (-9), 2) := by decide +kernel
theorem dX7_found_7 : decode cX7_found 7 = .ok (.if_icmp .lt 13, 3) := by decide +kernel
theorem dX7_found_10 : decode cX7_found 10 = .ok (.aload_n 0, 1) := by decide +kernel
theorem dX7_found_11 : decode cX7_found 11 = .ok (.getfield 48, 3) := by decide +kernel
theorem dX7_found_14 : decode cX7_found 14 = .ok (.iload_n 1, 1) := by decide +kernel
theorem dX7_found_15 : decode cX7_found 15 = .ok (.ineg, 1) := by decide +kernel
theorem dX7_found_16 : decode cX7_found 16 = .ok (.iaload, 1) := by decide +kernel
theorem dX7_found_17 : decode cX7_found 17 = .ok (.goto 8, 3) := by decide +kernel
theorem dX7_found_20 : decode cX7_found 20 = .ok (.aload_n 0, 1) := by decide +kernel
theorem dX7_found_21 : decode cX7_found 21 = .ok (.iconst (-1), 1) := by decide +kernel
theorem dX7_found_22 : decode cX7_found 22 = .ok (.invokevirtual 90, 3) := by decide +kernel
theorem dX7_found_25 : decode cX7_found 25 = .ok (.ireturn, 1) := by decide +kernel
