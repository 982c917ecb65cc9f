theorem dX10_isPlaceItem_9 : decode cX10_isPlaceItem 9 = .ok (.aload_n 0, 1) := by decide +kernel
theorem dX10_isPlaceItem_10 : decode cX10_isPlaceItem 10 = .ok (.iconst 3, 1) := by decide +kernel
theorem dX10_isPlaceItem_11 : decode cX10_isPlaceItem 11 = .ok (.invokevirtual 116, 3) := by decide +kernel
theorem dX10_isPlaceItem_14 : decode cX10_isPlaceItem 14 = .ok (.ireturn, 1) := by decide +kernel
theorem dX10_isPlaceItem_15 : decode cX10_isPlaceItem 15 = .ok (.iconst 0, 1) := by decide +kernel
theorem dX10_isPlaceItem_16 : decode cX10_isPlaceItem 16 = .ok (.istore_n 1, 1) := by decide +kernel
theorem dX10_isPlaceItem_17 : decode cX10_isPlaceItem 17 = .ok (.iload_n 1, 1) := by decide +kernel
theorem dX10_isPlaceItem_18 : decode cX10_isPlaceItem 18 = .ok (.iconst 2, 1) := by decide +kernel
theorem dX10_isPlaceItem_19 : decode cX10_isPlaceItem 19 = .ok (.if_icmp .ge 46, 3) := by decide +kernel
theorem dX10_isPlaceItem_22 : decode cX10_isPlaceItem 22 = .ok (.aload_n 0, 1) := by decide +kernel
theorem dX10_isPlaceItem_23 : decode cX10_isPlaceItem 23 = .ok (.iconst 0, 1) := by decide +kernel
theorem dX10_isPlaceItem_24 : decode cX10_isPlaceItem 24 = .ok (.iload_n 1, 1) := by decide +kernel
theorem dX10_isPlaceItem_25 : decode cX10_isPlaceItem 25 = .ok (.ifCond .ne 7, 3) := by decide +kernel
theorem dX10_isPlaceItem_28 : decode cX10_isPlaceItem 28 = .ok (.iconst 3, 1) := by decide +kernel
theorem dX10_isPlaceItem_29 : decode cX10_isPlaceItem 29 = .ok (.goto 5, 3) := by decide +kernel
theorem dX10_isPlaceItem_32 : decode cX10_isPlaceItem 32 = .ok (.bipush 99, 2) := by decide +kernel
theorem dX10_isPlaceItem_34 : decode cX10_isPlaceItem 34 = .ok (.invokevirtual 120, 3) := by decide +kernel
theorem dX10_isPlaceItem_37 : decode cX10_isPlaceItem 37 = .ok (.ifCond .ne 5, 3) := by decide +kernel
theorem dX10_isPlaceItem_40 : decode cX10_isPlaceItem 40 = .ok (.iconst 0, 1) := by decide +kernel
theorem dX10_isPlaceItem_41 : decode cX10_isPlaceItem 41 = .ok (.ireturn, 1) := by decide +kernel
theorem dX10_isPlaceItem_42 : decode cX10_isPlaceItem 42 = .ok (.aload_n 0, 1) := by decide +kernel
theorem dX10_isPlaceItem_43 : decode cX10_isPlaceItem 43 = .ok (.getfield 17, 3) := by decide +kernel
theorem dX10_isPlaceItem_46 : decode cX10_isPlaceItem 46 = .ok (.iconst 2, 1) := by decide +kernel
theorem dX10_isPlaceItem_47 : decode cX10_isPlaceItem 47 = .ok (.aload_n 0, 1) := by decide +kernel
theorem dX10_isPlaceItem_48 : decode cX10_isPlaceItem 48 = .ok (.getfield 135, 3) := by decide +kernel
theorem dX10_isPlaceItem_51 : decode cX10_isPlaceItem 51 = .ok (.imul, 1) := by decide +kernel
theorem dX10_isPlaceItem_52 : decode cX10_isPlaceItem 52 = .ok (.iload_n 1, 1) := by decide +kernel
theorem dX10_isPlaceItem_53 : decode cX10_isPlaceItem 53 = .ok (.iadd, 1) := by decide +kernel
theorem dX10_isPlaceItem_54 : decode cX10_isPlaceItem 54 = .ok (.aload_n 0, 1) := by decide +kernel
theorem dX10_isPlaceItem_55 : decode cX10_isPlaceItem 55 = .ok (.getfield 101, 3) := by decide +kernel
theorem dX10_isPlaceItem_58 : decode cX10_isPlaceItem 58 = .ok (.iastore, 1) := by decide +kernel
theorem dX10_isPlaceItem_59 : decode cX10_isPlaceItem 59 = .ok (.iinc 1 1, 3) := by decide +kernel
theorem dX10_isPlaceItem_62 : decode cX10_isPlaceItem 62 = .ok (.goto (-45), 3) := by decide +kernel
theorem dX10_isPlaceItem_65 : decode cX10_isPlaceItem 65 = .ok (.aload_n 0, 1) := by decide +kernel
theorem dX10_isPlaceItem_66 : decode cX10_isPlaceItem 66 = .ok (.dup, 1) := by decide +kernel
theorem dX10_isPlaceItem_67 : decode cX10_isPlaceItem 67 = .ok (.getfield 135, 3) := by decide +kernel
theorem dX10_isPlaceItem_70 : decode cX10_isPlaceItem 70 = .ok (.iconst 1, 1) := by decide +kernel
theorem dX10_isPlaceItem_71 : decode cX10_isPlaceItem 71 = .ok (.iadd, 1) := by decide +kernel
theorem dX10_isPlaceItem_72 : decode cX10_isPlaceItem 72 = .ok (.putfield 135, 3) := by decide +kernel
theorem dX10_isPlaceItem_75 : decode cX10_isPlaceItem 75 = .ok (.aload_n 0, 1) := by decide +kernel
theorem dX10_isPlaceItem_76 : decode cX10_isPlaceItem 76 = .ok (.invokevirtual 131, 3) := by decide +kernel
theorem dX10_isPlaceItem_79 : decode cX10_isPlaceItem 79 = .ok (.ireturn, 1) := by decide +kernel
theorem dX10_isChannelItem_0 : decode cX10_isChannelItem 0 = .ok (.aload_n 0, 1) := by decide +kernel
theorem dX10_isChannelItem_1 : decode cX10_isChannelItem 1 = .ok (.getfield 138, 3) := by decide +kernel
theorem dX10_isChannelItem_4 : decode cX10_isChannelItem 4 = .ok (.bipush 10, 2) := by decide +kernel
theorem dX10_isChannelItem_6 : decode cX10_isChannelItem 6 = .ok (.if_icmp .ne 9, 3) := by decide +kernel
theorem dX10_isChannelItem_9 : decode cX10_isChannelItem 9 = .ok (.aload_n 0, 1) := by decide +kernel
theorem dX10_isChannelItem_10 : decode cX10_isChannelItem 10 = .ok (.iconst 3, 1) := by decide +kernel
theorem dX10_isChannelItem_11 : decode cX10_isChannelItem 11 = .ok (.invokevirtual 116, 3) := by decide +kernel
theorem dX10_isChannelItem_14 : decode cX10_isChannelItem 14 = .ok (.ireturn, 1) := by decide +kernel
theorem dX10_isChannelItem_15 : decode cX10_isChannelItem 15 = .ok (.iconst 3, 1) := by decide +kernel
theorem dX10_isChannelItem_16 : decode cX10_isChannelItem 16 = .ok (.aload_n 0, 1) := by decide +kernel
theorem dX10_isChannelItem_17 : decode cX10_isChannelItem 17 = .ok (.getfield 138, 3) := by decide +kernel
theorem dX10_isChannelItem_20 : decode cX10_isChannelItem 20 = .ok (.imul, 1) := by decide +kernel
theorem dX10_isChannelItem_21 : decode cX10_isChannelItem 21 = .ok (.istore_n 1, 1) := by decide +kernel
theorem dX10_isChannelItem_22 : decode cX10_isChannelItem 22 = .ok (.iconst 0, 1) := by decide +kernel
theorem dX10_isChannelItem_23 : decode cX10_isChannelItem 23 = .ok (.istore_n 2, 1) := by decide +kernel
theorem dX10_isChannelItem_24 : decode cX10_isChannelItem 24 = .ok (.iload_n 2, 1) := by decide +kernel
theorem dX10_isChannelItem_25 : decode cX10_isChannelItem 25 = .ok (.iconst 2, 1) := by decide +kernel
theorem dX10_isChannelItem_26 : decode cX10_isChannelItem 26 = .ok (.if_icmp .ge 37, 3) := by decide +kernel
theorem dX10_isChannelItem_29 : decode cX10_isChannelItem 29 = .ok (.aload_n 0, 1) := by decide +kernel
theorem dX10_isChannelItem_30 : decode cX10_isChannelItem 30 = .ok (.iconst 0, 1) := by decide +kernel
theorem dX10_isChannelItem_31 : decode cX10_isChannelItem 31 = .ok (.aload_n 0, 1) := by decide +kernel
theorem dX10_isChannelItem_32 : decode cX10_isChannelItem 32 = .ok (.getfield 135, 3) := by decide +kernel
theorem dX10_isChannelItem_35 : decode cX10_isChannelItem 35 = .ok (.iconst 1, 1) := by decide +kernel
theorem dX10_isChannelItem_36 : decode cX10_isChannelItem 36 = .ok (.isub, 1) := by decide +kernel
theorem dX10_isChannelItem_37 : decode cX10_isChannelItem 37 = .ok (.invokevirtual 120, 3) := by decide +kernel
theorem dX10_isChannelItem_40 : decode cX10_isChannelItem 40 = .ok (.ifCond .ne 5, 3) := by decide +kernel
theorem dX10_isChannelItem_43 : decode cX10_isChannelItem 43 = .ok (.iconst 0, 1) := by decide +kernel
theorem dX10_isChannelItem_44 : decode cX10_isChannelItem 44 = .ok (.ireturn, 1) := by decide +kernel
theorem dX10_isChannelItem_45 : decode cX10_isChannelItem 45 = .ok (.aload_n 0, 1) := by decide +kernel
theorem dX10_isChannelItem_46 : decode cX10_isChannelItem 46 = .ok (.getfield 20, 3) := by decide +kernel
theorem dX10_isChannelItem_49 : decode cX10_isChannelItem 49 = .ok (.iload_n 1, 1) := by decide +kernel
theorem dX10_isChannelItem_50 : decode cX10_isChannelItem 50 = .ok (.iload_n 2, 1) := by decide +kernel
theorem dX10_isChannelItem_51 : decode cX10_isChannelItem 51 = .ok (.iadd, 1) := by decide +kernel
theorem dX10_isChannelItem_52 : decode cX10_isChannelItem 52 = .ok (.aload_n 0, 1) := by decide +kernel
theorem dX10_isChannelItem_53 : decode cX10_isChannelItem 53 = .ok (.getfield 101, 3) := by decide +kernel
theorem dX10_isChannelItem_56 : decode cX10_isChannelItem 56 = .ok (.iastore, 1) := by decide +kernel
theorem dX10_isChannelItem_57 : decode cX10_isChannelItem 57 = .ok (.iinc 2 1, 3) := by decide +kernel
theorem dX10_isChannelItem_60 : decode cX10_isChannelItem 60 = .ok (.goto (-36), 3) := by decide +kernel
theorem dX10_isChannelItem_63 : decode cX10_isChannelItem 63 = .ok (.aload_n 0, 1) := by decide +kernel
theorem dX10_isChannelItem_64 : decode cX10_isChannelItem 64 = .ok (.getfield 20, 3) := by decide +kernel
theorem dX10_isChannelItem_67 : decode cX10_isChannelItem 67 = .ok (.iload_n 1, 1) := by decide +kernel
theorem dX10_isChannelItem_68 : decode cX10_isChannelItem 68 = .ok (.iaload, 1) := by decide +kernel
theorem dX10_isChannelItem_69 : decode cX10_isChannelItem 69 = .ok (.istore_n 2, 1) := by decide +kernel
theorem dX10_isChannelItem_70 : decode cX10_isChannelItem 70 = .ok (.aload_n 0, 1) := by decide +kernel
theorem dX10_isChannelItem_71 : decode cX10_isChannelItem 71 = .ok (.getfield 17, 3) := by decide +kernel
theorem dX10_isChannelItem_74 : decode cX10_isChannelItem 74 = .ok (.iconst 2, 1) := by decide +kernel
theorem dX10_isChannelItem_75 : decode cX10_isChannelItem 75 = .ok (.aload_n 0, 1) := by decide +kernel
theorem dX10_isChannelItem_76 : decode cX10_isChannelItem 76 = .ok (.getfield 101, 3) := by decide +kernel
theorem dX10_isChannelItem_79 : decode cX10_isChannelItem 79 = .ok (.imul, 1) := by decide +kernel
theorem dX10_isChannelItem_80 : decode cX10_isChannelItem 80 = .ok (.iconst 1, 1) := by decide +kernel
theorem dX10_isChannelItem_81 : decode cX10_isChannelItem 81 = .ok (.iadd, 1) := by decide +kernel
theorem dX10_isChannelItem_82 : decode cX10_isChannelItem 82 = .ok (.iaload, 1) := by decide +kernel
theorem dX10_isChannelItem_83 : decode cX10_isChannelItem 83 = .ok (.aload_n 0, 1) := by decide +kernel
theorem dX10_isChannelItem_84 : decode cX10_isChannelItem 84 = .ok (.getfield 17, 3) := by decide +kernel
theorem dX10_isChannelItem_87 : decode cX10_isChannelItem 87 = .ok (.iconst 2, 1) := by decide +kernel
theorem dX10_isChannelItem_88 : decode cX10_isChannelItem 88 = .ok (.iload_n 2, 1) := by decide +kernel
theorem dX10_isChannelItem_89 : decode cX10_isChannelItem 89 = .ok (.imul, 1) := by decide +kernel
theorem dX10_isChannelItem_90 : decode cX10_isChannelItem 90 = .ok (.iconst 1, 1) := by decide +kernel
theorem dX10_isChannelItem_91 : decode cX10_isChannelItem 91 = .ok (.iadd, 1) := by decide +kernel
theorem dX10_isChannelItem_92 : decode cX10_isChannelItem 92 = .ok (.iaload, 1) := by decide +kernel
theorem dX10_isChannelItem_93 : decode cX10_isChannelItem 93 = .ok (.if_icmp .ge 7, 3) := by decide +kernel
theorem dX10_isChannelItem_96 : decode cX10_isChannelItem 96 = .ok (.iconst 1, 1) := by decide +kernel
theorem dX10_isChannelItem_97 : decode cX10_isChannelItem 97 = .ok (.goto 4, 3) := by decide +kernel
theorem dX10_isChannelItem_100 : decode cX10_isChannelItem 100 = .ok (.iconst 0, 1) := by decide +kernel
theorem dX10_isChannelItem_101 : decode cX10_isChannelItem 101 = .ok (.istore_n 3, 1) := by decide +kernel
theorem dX10_isChannelItem_102 : decode cX10_isChannelItem 102 = .ok (.iconst 0, 1) := by decide +kernel
theorem dX10_isChannelItem_103 : decode cX10_isChannelItem 103 = .ok (.istore 4, 2) := by decide +kernel
theorem dX10_isChannelItem_105 : decode cX10_isChannelItem 105 = .ok (.iload 4, 2) := by decide +kernel
theorem dX10_isChannelItem_107 : decode cX10_isChannelItem 107 = .ok (.aload_n 0, 1) := by decide +kernel
theorem dX10_isChannelItem_108 : decode cX10_isChannelItem 108 = .ok (.getfield 138, 3) := by decide +kernel
theorem dX10_isChannelItem_111 : decode cX10_isChannelItem 111 = .ok (.if_icmp .ge 50, 3) := by decide +kernel
theorem dX10_isChannelItem_114 : decode cX10_isChannelItem 114 = .ok (.iload_n 3, 1) := by decide +kernel
theorem dX10_isChannelItem_115 : decode cX10_isChannelItem 115 = .ok (.ifCond .eq 38, 3) := by decide +kernel
theorem dX10_isChannelItem_118 : decode cX10_isChannelItem 118 = .ok (.aload_n 0, 1) := by decide +kernel
theorem dX10_isChannelItem_119 : decode cX10_isChannelItem 119 = .ok (.getfield 20, 3) := by decide +kernel
theorem dX10_isChannelItem_122 : decode cX10_isChannelItem 122 = .ok (.iconst 3, 1) := by decide +kernel
theorem dX10_isChannelItem_123 : decode cX10_isChannelItem 123 = .ok (.iload 4, 2) := by decide +kernel
theorem dX10_isChannelItem_125 : decode cX10_isChannelItem 125 = .ok (.imul, 1) := by decide +kernel
theorem dX10_isChannelItem_126 : decode cX10_isChannelItem 126 = .ok (.iaload, 1) := by decide +kernel
theorem dX10_isChannelItem_127 : decode cX10_isChannelItem 127 = .ok (.iload_n 2, 1) := by decide +kernel
theorem dX10_isChannelItem_128 : decode cX10_isChannelItem 128 = .ok (.if_icmp .ne 21, 3) := by decide +kernel
theorem dX10_isChannelItem_131 : decode cX10_isChannelItem 131 = .ok (.aload_n 0, 1) := by decide +kernel
theorem dX10_isChannelItem_132 : decode cX10_isChannelItem 132 = .ok (.getfield 20, 3) := by decide +kernel
theorem dX10_isChannelItem_135 : decode cX10_isChannelItem 135 = .ok (.iconst 3, 1) := by decide +kernel
theorem dX10_isChannelItem_136 : decode cX10_isChannelItem 136 = .ok (.iload 4, 2) := by decide +kernel
theorem dX10_isChannelItem_138 : decode cX10_isChannelItem 138 = .ok (.imul, 1) := by decide +kernel
theorem dX10_isChannelItem_139 : decode cX10_isChannelItem 139 = .ok (.iconst 1, 1) := by decide +kernel
theorem dX10_isChannelItem_140 : decode cX10_isChannelItem 140 = .ok (.iadd, 1) := by decide +kernel
theorem dX10_isChannelItem_141 : decode cX10_isChannelItem 141 = .ok (.iaload, 1) := by decide +kernel
theorem dX10_isChannelItem_142 : decode cX10_isChannelItem 142 = .ok (.aload_n 0, 1) := by decide +kernel
theorem dX10_isChannelItem_143 : decode cX10_isChannelItem 143 = .ok (.getfield 101, 3) := by decide +kernel
theorem dX10_isChannelItem_146 : decode cX10_isChannelItem 146 = .ok (.if_icmp .eq 7, 3) := by decide +kernel
theorem dX10_isChannelItem_149 : decode cX10_isChannelItem 149 = .ok (.iconst 1, 1) := by decide +kernel
theorem dX10_isChannelItem_150 : decode cX10_isChannelItem 150 = .ok (.goto 4, 3) := by decide +kernel
theorem dX10_isChannelItem_153 : decode cX10_isChannelItem 153 = .ok (.iconst 0, 1) := by decide +kernel
theorem dX10_isChannelItem_154 : decode cX10_isChannelItem 154 = .ok (.istore_n 3, 1) := by decide +kernel
theorem dX10_isChannelItem_155 : decode cX10_isChannelItem 155 = .ok (.iinc 4 1, 3) := by decide +kernel
theorem dX10_isChannelItem_158 : decode cX10_isChannelItem 158 = .ok (.goto (-53), 3) := by decide +kernel
theorem dX10_isChannelItem_161 : decode cX10_isChannelItem 161 = .ok (.iload_n 3, 1) := by decide +kernel
theorem dX10_isChannelItem_162 : decode cX10_isChannelItem 162 = .ok (.ifCond .ne 9, 3) := by decide +kernel
theorem dX10_isChannelItem_165 : decode cX10_isChannelItem 165 = .ok (.aload_n 0, 1) := by decide +kernel
theorem dX10_isChannelItem_166 : decode cX10_isChannelItem 166 = .ok (.iconst 4, 1) := by decide +kernel
theorem dX10_isChannelItem_167 : decode cX10_isChannelItem 167 = .ok (.invokevirtual 116, 3) := by decide +kernel
theorem dX10_isChannelItem_170 : decode cX10_isChannelItem 170 = .ok (.ireturn, 1) := by decide +kernel
theorem dX10_isChannelItem_171 : decode cX10_isChannelItem 171 = .ok (.aload_n 0, 1) := by decide +kernel
theorem dX10_isChannelItem_172 : decode cX10_isChannelItem 172 = .ok (.iconst 1, 1) := by decide +kernel
theorem dX10_isChannelItem_173 : decode cX10_isChannelItem 173 = .ok (.bipush 9, 2) := by decide +kernel
theorem dX10_isChannelItem_175 : decode cX10_isChannelItem 175 = .ok (.invokevirtual 120, 3) := by decide +kernel
theorem dX10_isChannelItem_178 : decode cX10_isChannelItem 178 = .ok (.ifCond .ne 5, 3) := by decide +kernel
theorem dX10_isChannelItem_181 : decode cX10_isChannelItem 181 = .ok (.iconst 0, 1) := by decide +kernel
theorem dX10_isChannelItem_182 : decode cX10_isChannelItem 182 = .ok (.ireturn, 1) := by decide +kernel
theorem dX10_isChannelItem_183 : decode cX10_isChannelItem 183 = .ok (.aload_n 0, 1) := by decide +kernel
theorem dX10_isChannelItem_184 : decode cX10_isChannelItem 184 = .ok (.getfield 20, 3) := by decide +kernel
theorem dX10_isChannelItem_187 : decode cX10_isChannelItem 187 = .ok (.iload_n 1, 1) := by decide +kernel
theorem dX10_isChannelItem_188 : decode cX10_isChannelItem 188 = .ok (.iconst 2, 1) := by decide +kernel
theorem dX10_isChannelItem_189 : decode cX10_isChannelItem 189 = .ok (.iadd, 1) := by decide +kernel
theorem dX10_isChannelItem_190 : decode cX10_isChannelItem 190 = .ok (.aload_n 0, 1) := by decide +kernel
theorem dX10_isChannelItem_191 : decode cX10_isChannelItem 191 = .ok (.getfield 101, 3) := by decide +kernel
theorem dX10_isChannelItem_194 : decode cX10_isChannelItem 194 = .ok (.iastore, 1) := by decide +kernel
theorem dX10_isChannelItem_195 : decode cX10_isChannelItem 195 = .ok (.aload_n 0, 1) := by decide +kernel
theorem dX10_isChannelItem_196 : decode cX10_isChannelItem 196 = .ok (.dup, 1) := by decide +kernel
theorem dX10_isChannelItem_197 : decode cX10_isChannelItem 197 = .ok (.getfield 138, 3) := by decide +kernel
theorem dX10_isChannelItem_200 : decode cX10_isChannelItem 200 = .ok (.iconst 1, 1) := by decide +kernel
theorem dX10_isChannelItem_201 : decode cX10_isChannelItem 201 = .ok (.iadd, 1) := by decide +kernel
theorem dX10_isChannelItem_202 : decode cX10_isChannelItem 202 = .ok (.putfield 138, 3) := by decide +kernel
theorem dX10_isChannelItem_205 : decode cX10_isChannelItem 205 = .ok (.aload_n 0, 1) := by decide +kernel
theorem dX10_isChannelItem_206 : decode cX10_isChannelItem 206 = .ok (.invokevirtual 131, 3) := by decide +kernel
theorem dX10_isChannelItem_209 : decode cX10_isChannelItem 209 = .ok (.ireturn, 1) := by decide +kernel
theorem dX10_isClause_0 : decode cX10_isClause 0 = .ok (.aload_n 0, 1) := by decide +kernel
theorem dX10_isClause_1 : decode cX10_isClause 1 = .ok (.getfield 107, 3) := by decide +kernel
theorem dX10_isClause_4 : decode cX10_isClause 4 = .ok (.bipush 115, 2) := by decide +kernel
theorem dX10_isClause_6 : decode cX10_isClause 6 = .ok (.if_icmp .ne 23, 3) := by decide +kernel
theorem dX10_isClause_9 : decode cX10_isClause 9 = .ok (.aload_n 0, 1) := by decide +kernel
theorem dX10_isClause_10 : decode cX10_isClause 10 = .ok (.getfield 127, 3) := by decide +kernel
theorem dX10_isClause_13 : decode cX10_isClause 13 = .ok (.ifCond .eq 11, 3) := by decide +kernel
theorem dX10_isClause_16 : decode cX10_isClause 16 = .ok (.aload_n 0, 1) := by decide +kernel
theorem dX10_isClause_17 : decode cX10_isClause 17 = .ok (.iconst 3, 1) := by decide +kernel
theorem dX10_isClause_18 : decode cX10_isClause 18 = .ok (.invokevirtual 116, 3) := by decide +kernel
theorem dX10_isClause_21 : decode cX10_isClause 21 = .ok (.goto 7, 3) := by decide +kernel
theorem dX10_isClause_24 : decode cX10_isClause 24 = .ok (.aload_n 0, 1) := by decide +kernel
theorem dX10_isClause_25 : decode cX10_isClause 25 = .ok (.invokevirtual 141, 3) := by decide +kernel
theorem dX10_isClause_28 : decode cX10_isClause 28 = .ok (.ireturn, 1) := by decide +kernel
theorem dX10_isClause_29 : decode cX10_isClause 29 = .ok (.aload_n 0, 1) := by decide +kernel
theorem dX10_isClause_30 : decode cX10_isClause 30 = .ok (.getfield 127, 3) := by decide +kernel
theorem dX10_isClause_33 : decode cX10_isClause 33 = .ok (.ifCond .ne 9, 3) := by decide +kernel
theorem dX10_isClause_36 : decode cX10_isClause 36 = .ok (.aload_n 0, 1) := by decide +kernel
theorem dX10_isClause_37 : decode cX10_isClause 37 = .ok (.iconst 1, 1) := by decide +kernel
theorem dX10_isClause_38 : decode cX10_isClause 38 = .ok (.invokevirtual 116, 3) := by decide +kernel
theorem dX10_isClause_41 : decode cX10_isClause 41 = .ok (.ireturn, 1) := by decide +kernel
theorem dX10_isClause_42 : decode cX10_isClause 42 = .ok (.aload_n 0, 1) := by decide +kernel
theorem dX10_isClause_43 : decode cX10_isClause 43 = .ok (.getfield 107, 3) := by decide +kernel
theorem dX10_isClause_46 : decode cX10_isClause 46 = .ok (.bipush 112, 2) := by decide +kernel
theorem dX10_isClause_48 : decode cX10_isClause 48 = .ok (.if_icmp .ne 10, 3) := by decide +kernel
theorem dX10_isClause_51 : decode cX10_isClause 51 = .ok (.aload_n 0, 1) := by decide +kernel
theorem dX10_isClause_52 : decode cX10_isClause 52 = .ok (.invokevirtual 144, 3) := by decide +kernel
theorem dX10_isClause_55 : decode cX10_isClause 55 = .ok (.goto 24, 3) := by decide +kernel
theorem dX10_isClause_58 : decode cX10_isClause 58 = .ok (.aload_n 0, 1) := by decide +kernel
theorem dX10_isClause_59 : decode cX10_isClause 59 = .ok (.getfield 107, 3) := by decide +kernel
theorem dX10_isClause_62 : decode cX10_isClause 62 = .ok (.bipush 99, 2) := by decide +kernel
theorem dX10_isClause_64 : decode cX10_isClause 64 = .ok (.if_icmp .ne 10, 3) := by decide +kernel
theorem dX10_isClause_67 : decode cX10_isClause 67 = .ok (.aload_n 0, 1) := by decide +kernel
theorem dX10_isClause_68 : decode cX10_isClause 68 = .ok (.invokevirtual 147, 3) := by decide +kernel
theorem dX10_isClause_71 : decode cX10_isClause 71 = .ok (.goto 8, 3) := by decide +kernel
theorem dX10_isClause_74 : decode cX10_isClause 74 = .ok (.aload_n 0, 1) := by decide +kernel
theorem dX10_isClause_75 : decode cX10_isClause 75 = .ok (.iconst 1, 1) := by decide +kernel
theorem dX10_isClause_76 : decode cX10_isClause 76 = .ok (.invokevirtual 116, 3) := by decide +kernel
theorem dX10_isClause_79 : decode cX10_isClause 79 = .ok (.ireturn, 1) := by decide +kernel
theorem dX10_isRead_0 : decode cX10_isRead 0 = .ok (.aload_n 0, 1) := by decide +kernel
theorem dX10_isRead_1 : decode cX10_isRead 1 = .ok (.iconst 0, 1) := by decide +kernel
theorem dX10_isRead_2 : decode cX10_isRead 2 = .ok (.putfield 95, 3) := by decide +kernel
theorem dX10_isRead_5 : decode cX10_isRead 5 = .ok (.aload_n 0, 1) := by decide +kernel
theorem dX10_isRead_6 : decode cX10_isRead 6 = .ok (.iconst 0, 1) := by decide +kernel
theorem dX10_isRead_7 : decode cX10_isRead 7 = .ok (.putfield 127, 3) := by decide +kernel
theorem dX10_isRead_10 : decode cX10_isRead 10 = .ok (.aload_n 0, 1) := by decide +kernel
theorem dX10_isRead_11 : decode cX10_isRead 11 = .ok (.iconst 0, 1) := by decide +kernel
theorem dX10_isRead_12 : decode cX10_isRead 12 = .ok (.putfield 124, 3) := by decide +kernel
theorem dX10_isRead_15 : decode cX10_isRead 15 = .ok (.aload_n 0, 1) := by decide +kernel
theorem dX10_isRead_16 : decode cX10_isRead 16 = .ok (.iconst 0, 1) := by decide +kernel
theorem dX10_isRead_17 : decode cX10_isRead 17 = .ok (.putfield 135, 3) := by decide +kernel
theorem dX10_isRead_20 : decode cX10_isRead 20 = .ok (.aload_n 0, 1) := by decide +kernel
theorem dX10_isRead_21 : decode cX10_isRead 21 = .ok (.iconst 0, 1) := by decide +kernel
theorem dX10_isRead_22 : decode cX10_isRead 22 = .ok (.putfield 138, 3) := by decide +kernel
theorem dX10_isRead_25 : decode cX10_isRead 25 = .ok (.aload_n 0, 1) := by decide +kernel
theorem dX10_isRead_26 : decode cX10_isRead 26 = .ok (.invokevirtual 113, 3) := by decide +kernel
theorem dX10_isRead_29 : decode cX10_isRead 29 = .ok (.aload_n 0, 1) := by decide +kernel
theorem dX10_isRead_30 : decode cX10_isRead 30 = .ok (.getfield 107, 3) := by decide +kernel
theorem dX10_isRead_33 : decode cX10_isRead 33 = .ok (.bipush (-2), 2) := by decide +kernel
theorem dX10_isRead_35 : decode cX10_isRead 35 = .ok (.if_icmp .eq 19, 3) := by decide +kernel
theorem dX10_isRead_38 : decode cX10_isRead 38 = .ok (.aload_n 0, 1) := by decide +kernel
theorem dX10_isRead_39 : decode cX10_isRead 39 = .ok (.invokevirtual 150, 3) := by decide +kernel
theorem dX10_isRead_42 : decode cX10_isRead 42 = .ok (.ifCond .ne 5, 3) := by decide +kernel
theorem dX10_isRead_45 : decode cX10_isRead 45 = .ok (.iconst 0, 1) := by decide +kernel
theorem dX10_isRead_46 : decode cX10_isRead 46 = .ok (.ireturn, 1) := by decide +kernel
theorem dX10_isRead_47 : decode cX10_isRead 47 = .ok (.aload_n 0, 1) := by decide +kernel
theorem dX10_isRead_48 : decode cX10_isRead 48 = .ok (.invokevirtual 113, 3) := by decide +kernel
theorem dX10_isRead_51 : decode cX10_isRead 51 = .ok (.goto (-22), 3) := by decide +kernel
theorem dX10_isRead_54 : decode cX10_isRead 54 = .ok (.iconst 1, 1) := by decide +kernel
theorem dX10_isRead_55 : decode cX10_isRead 55 = .ok (.ireturn, 1) := by decide +kernel
theorem dX10_works_0 : decode cX10_works 0 = .ok (.aload_n 0, 1) := by decide +kernel
theorem dX10_works_1 : decode cX10_works 1 = .ok (.invokevirtual 153, 3) := by decide +kernel
theorem dX10_works_4 : decode cX10_works 4 = .ok (.istore_n 1, 1) := by decide +kernel
theorem dX10_works_5 : decode cX10_works 5 = .ok (.aload_n 0, 1) := by decide +kernel
theorem dX10_works_6 : decode cX10_works 6 = .ok (.iconst 0, 1) := by decide +kernel
theorem dX10_works_7 : decode cX10_works 7 = .ok (.putfield 91, 3) := by decide +kernel
theorem dX10_works_10 : decode cX10_works 10 = .ok (.iload_n 1, 1) := by decide +kernel
theorem dX10_works_11 : decode cX10_works 11 = .ok (.ifCond .ne 11, 3) := by decide +kernel
theorem dX10_works_14 : decode cX10_works 14 = .ok (.bipush (-10), 2) := by decide +kernel
theorem dX10_works_16 : decode cX10_works 16 = .ok (.aload_n 0, 1) := by decide +kernel
theorem dX10_works_17 : decode cX10_works 17 = .ok (.getfield 110, 3) := by decide +kernel
theorem dX10_works_20 : decode cX10_works 20 = .ok (.isub, 1) := by decide +kernel
theorem dX10_works_21 : decode cX10_works 21 = .ok (.ireturn, 1) := by decide +kernel
theorem dX10_works_22 : decode cX10_works 22 = .ok (.aload_n 0, 1) := by decide +kernel
theorem dX10_works_23 : decode cX10_works 23 = .ok (.iconst (-1), 1) := by decide +kernel
theorem dX10_works_24 : decode cX10_works 24 = .ok (.putfield 13, 3) := by decide +kernel
theorem dX10_works_27 : decode cX10_works 27 = .ok (.aload_n 0, 1) := by decide +kernel
theorem dX10_works_28 : decode cX10_works 28 = .ok (.aload_n 0, 1) := by decide +kernel
theorem dX10_works_29 : decode cX10_works 29 = .ok (.getfield 124, 3) := by decide +kernel
theorem dX10_works_32 : decode cX10_works 32 = .ok (.putfield 156, 3) := by decide +kernel
theorem dX10_works_35 : decode cX10_works 35 = .ok (.aload_n 0, 1) := by decide +kernel
theorem dX10_works_36 : decode cX10_works 36 = .ok (.aload_n 0, 1) := by decide +kernel
theorem dX10_works_37 : decode cX10_works 37 = .ok (.getfield 135, 3) := by decide +kernel
theorem dX10_works_40 : decode cX10_works 40 = .ok (.putfield 80, 3) := by decide +kernel
theorem dX10_works_43 : decode cX10_works 43 = .ok (.aload_n 0, 1) := by decide +kernel
theorem dX10_works_44 : decode cX10_works 44 = .ok (.aload_n 0, 1) := by decide +kernel
theorem dX10_works_45 : decode cX10_works 45 = .ok (.getfield 138, 3) := by decide +kernel
theorem dX10_works_48 : decode cX10_works 48 = .ok (.putfield 87, 3) := by decide +kernel
theorem dX10_works_51 : decode cX10_works 51 = .ok (.iconst 0, 1) := by decide +kernel
theorem dX10_works_52 : decode cX10_works 52 = .ok (.istore_n 2, 1) := by decide +kernel
theorem dX10_works_53 : decode cX10_works 53 = .ok (.iload_n 2, 1) := by decide +kernel
theorem dX10_works_54 : decode cX10_works 54 = .ok (.iconst 2, 1) := by decide +kernel
theorem dX10_works_55 : decode cX10_works 55 = .ok (.aload_n 0, 1) := by decide +kernel
theorem dX10_works_56 : decode cX10_works 56 = .ok (.getfield 80, 3) := by decide +kernel
theorem dX10_works_59 : decode cX10_works 59 = .ok (.imul, 1) := by decide +kernel
theorem dX10_works_60 : decode cX10_works 60 = .ok (.if_icmp .ge 21, 3) := by decide +kernel
theorem dX10_works_63 : decode cX10_works 63 = .ok (.aload_n 0, 1) := by decide +kernel
theorem dX10_works_64 : decode cX10_works 64 = .ok (.getfield 23, 3) := by decide +kernel
theorem dX10_works_67 : decode cX10_works 67 = .ok (.iload_n 2, 1) := by decide +kernel
theorem dX10_works_68 : decode cX10_works 68 = .ok (.aload_n 0, 1) := by decide +kernel
theorem dX10_works_69 : decode cX10_works 69 = .ok (.getfield 17, 3) := by decide +kernel
theorem dX10_works_72 : decode cX10_works 72 = .ok (.iload_n 2, 1) := by decide +kernel
theorem dX10_works_73 : decode cX10_works 73 = .ok (.iaload, 1) := by decide +kernel
theorem dX10_works_74 : decode cX10_works 74 = .ok (.iastore, 1) := by decide +kernel
theorem dX10_works_75 : decode cX10_works 75 = .ok (.iinc 2 1, 3) := by decide +kernel
theorem dX10_works_78 : decode cX10_works 78 = .ok (.goto (-25), 3) := by decide +kernel
theorem dX10_works_81 : decode cX10_works 81 = .ok (.iconst 0, 1) := by decide +kernel
theorem dX10_works_82 : decode cX10_works 82 = .ok (.istore_n 2, 1) := by decide +kernel
theorem dX10_works_83 : decode cX10_works 83 = .ok (.iload_n 2, 1) := by decide +kernel
theorem dX10_works_84 : decode cX10_works 84 = .ok (.iconst 3, 1) := by decide +kernel
theorem dX10_works_85 : decode cX10_works 85 = .ok (.aload_n 0, 1) := by decide +kernel
theorem dX10_works_86 : decode cX10_works 86 = .ok (.getfield 87, 3) := by decide +kernel
theorem dX10_works_89 : decode cX10_works 89 = .ok (.imul, 1) := by decide +kernel
theorem dX10_works_90 : decode cX10_works 90 = .ok (.if_icmp .ge 21, 3) := by decide +kernel
theorem dX10_works_93 : decode cX10_works 93 = .ok (.aload_n 0, 1) := by decide +kernel
theorem dX10_works_94 : decode cX10_works 94 = .ok (.getfield 26, 3) := by decide +kernel
theorem dX10_works_97 : decode cX10_works 97 = .ok (.iload_n 2, 1) := by decide +kernel
theorem dX10_works_98 : decode cX10_works 98 = .ok (.aload_n 0, 1) := by decide +kernel
theorem dX10_works_99 : decode cX10_works 99 = .ok (.getfield 20, 3) := by decide +kernel
theorem dX10_works_102 : decode cX10_works 102 = .ok (.iload_n 2, 1) := by decide +kernel
theorem dX10_works_103 : decode cX10_works 103 = .ok (.iaload, 1) := by decide +kernel
theorem dX10_works_104 : decode cX10_works 104 = .ok (.iastore, 1) := by decide +kernel
theorem dX10_works_105 : decode cX10_works 105 = .ok (.iinc 2 1, 3) := by decide +kernel
theorem dX10_works_108 : decode cX10_works 108 = .ok (.goto (-25), 3) := by decide +kernel
theorem dX10_works_111 : decode cX10_works 111 = .ok (.aload_n 0, 1) := by decide +kernel
theorem dX10_works_112 : decode cX10_works 112 = .ok (.getfield 29, 3) := by decide +kernel
theorem dX10_works_115 : decode cX10_works 115 = .ok (.invokestatic 73, 3) := by decide +kernel
theorem dX10_works_118 : decode cX10_works 118 = .ok (.aload_n 0, 1) := by decide +kernel
theorem dX10_works_119 : decode cX10_works 119 = .ok (.invokevirtual 77, 3) := by decide +kernel
theorem dX10_works_122 : decode cX10_works 122 = .ok (.aload_n 0, 1) := by decide +kernel
theorem dX10_works_123 : decode cX10_works 123 = .ok (.iconst 0, 1) := by decide +kernel
theorem dX10_works_124 : decode cX10_works 124 = .ok (.putfield 159, 3) := by decide +kernel
theorem dX10_works_127 : decode cX10_works 127 = .ok (.aload_n 0, 1) := by decide +kernel
theorem dX10_works_128 : decode cX10_works 128 = .ok (.iconst 0, 1) := by decide +kernel
theorem dX10_works_129 : decode cX10_works 129 = .ok (.putfield 162, 3) := by decide +kernel
theorem dX10_works_132 : decode cX10_works 132 = .ok (.aload_n 0, 1) := by decide +kernel
theorem dX10_works_133 : decode cX10_works 133 = .ok (.getfield 44, 3) := by decide +kernel
theorem dX10_works_136 : decode cX10_works 136 = .ok (.iconst 0, 1) := by decide +kernel
theorem dX10_works_137 : decode cX10_works 137 = .ok (.iconst 0, 1) := by decide +kernel
theorem dX10_works_138 : decode cX10_works 138 = .ok (.bastore, 1) := by decide +kernel
theorem dX10_works_139 : decode cX10_works 139 = .ok (.aload_n 0, 1) := by decide +kernel
theorem dX10_works_140 : decode cX10_works 140 = .ok (.getfield 44, 3) := by decide +kernel
theorem dX10_works_143 : decode cX10_works 143 = .ok (.iconst 1, 1) := by decide +kernel
theorem dX10_works_144 : decode cX10_works 144 = .ok (.iconst 0, 1) := by decide +kernel
theorem dX10_works_145 : decode cX10_works 145 = .ok (.bastore, 1) := by decide +kernel
theorem dX10_works_146 : decode cX10_works 146 = .ok (.aload_n 0, 1) := by decide +kernel
theorem dX10_works_147 : decode cX10_works 147 = .ok (.iconst 0, 1) := by decide +kernel
theorem dX10_works_148 : decode cX10_works 148 = .ok (.putfield 165, 3) := by decide +kernel
theorem dX10_works_151 : decode cX10_works 151 = .ok (.aload_n 0, 1) := by decide +kernel
theorem dX10_works_152 : decode cX10_works 152 = .ok (.getfield 80, 3) := by decide +kernel
theorem dX10_works_155 : decode cX10_works 155 = .ok (.ireturn, 1) := by decide +kernel
theorem dX10_fault_0 : decode cX10_fault 0 = .ok (.aload_n 0, 1) := by decide +kernel
theorem dX10_fault_1 : decode cX10_fault 1 = .ok (.getfield 13, 3) := by decide +kernel
theorem dX10_fault_4 : decode cX10_fault 4 = .ok (.ireturn, 1) := by decide +kernel
theorem dX10_onTheWay_0 : decode cX10_onTheWay 0 = .ok (.iconst 0, 1) := by decide +kernel
theorem dX10_onTheWay_1 : decode cX10_onTheWay 1 = .ok (.istore_n 1, 1) := by decide +kernel
theorem dX10_onTheWay_2 : decode cX10_onTheWay 2 = .ok (.iconst 0, 1) := by decide +kernel
theorem dX10_onTheWay_3 : decode cX10_onTheWay 3 = .ok (.istore_n 2, 1) := by decide +kernel
theorem dX10_onTheWay_4 : decode cX10_onTheWay 4 = .ok (.iload_n 2, 1) := by decide +kernel
theorem dX10_onTheWay_5 : decode cX10_onTheWay 5 = .ok (.bipush 80, 2) := by decide +kernel
theorem dX10_onTheWay_7 : decode cX10_onTheWay 7 = .ok (.if_icmp .ge 21, 3) := by decide +kernel
theorem dX10_onTheWay_10 : decode cX10_onTheWay 10 = .ok (.iload_n 1, 1) := by decide +kernel
theorem dX10_onTheWay_11 : decode cX10_onTheWay 11 = .ok (.aload_n 0, 1) := by decide +kernel
theorem dX10_onTheWay_12 : decode cX10_onTheWay 12 = .ok (.getfield 29, 3) := by decide +kernel
theorem dX10_onTheWay_15 : decode cX10_onTheWay 15 = .ok (.iload_n 2, 1) := by decide +kernel
theorem dX10_onTheWay_16 : decode cX10_onTheWay 16 = .ok (.iaload, 1) := by decide +kernel
theorem dX10_onTheWay_17 : decode cX10_onTheWay 17 = .ok (.invokestatic 168, 3) := by decide +kernel
theorem dX10_onTheWay_20 : decode cX10_onTheWay 20 = .ok (.iadd, 1) := by decide +kernel
theorem dX10_onTheWay_21 : decode cX10_onTheWay 21 = .ok (.istore_n 1, 1) := by decide +kernel
theorem dX10_onTheWay_22 : decode cX10_onTheWay 22 = .ok (.iinc 2 1, 3) := by decide +kernel
theorem dX10_onTheWay_25 : decode cX10_onTheWay 25 = .ok (.goto (-21), 3) := by decide +kernel
theorem dX10_onTheWay_28 : decode cX10_onTheWay 28 = .ok (.iload_n 1, 1) := by decide +kernel
theorem dX10_onTheWay_29 : decode cX10_onTheWay 29 = .ok (.ireturn, 1) := by decide +kernel
theorem dX10_blockedIn_0 : decode cX10_blockedIn 0 = .ok (.iconst 0, 1) := by decide +kernel
theorem dX10_blockedIn_1 : decode cX10_blockedIn 1 = .ok (.istore_n 2, 1) := by decide +kernel
theorem dX10_blockedIn_2 : decode cX10_blockedIn 2 = .ok (.iconst 0, 1) := by decide +kernel
theorem dX10_blockedIn_3 : decode cX10_blockedIn 3 = .ok (.istore_n 3, 1) := by decide +kernel
theorem dX10_blockedIn_4 : decode cX10_blockedIn 4 = .ok (.iload_n 3, 1) := by decide +kernel
theorem dX10_blockedIn_5 : decode cX10_blockedIn 5 = .ok (.aload_n 0, 1) := by decide +kernel
theorem dX10_blockedIn_6 : decode cX10_blockedIn 6 = .ok (.getfield 87, 3) := by decide +kernel
theorem dX10_blockedIn_9 : decode cX10_blockedIn 9 = .ok (.if_icmp .ge 33, 3) := by decide +kernel
theorem dX10_blockedIn_12 : decode cX10_blockedIn 12 = .ok (.iload_n 2, 1) := by decide +kernel
theorem dX10_blockedIn_13 : decode cX10_blockedIn 13 = .ok (.aload_n 1, 1) := by decide +kernel
theorem dX10_blockedIn_14 : decode cX10_blockedIn 14 = .ok (.sipush 152, 3) := by decide +kernel
theorem dX10_blockedIn_17 : decode cX10_blockedIn 17 = .ok (.iload_n 3, 1) := by decide +kernel
theorem dX10_blockedIn_18 : decode cX10_blockedIn 18 = .ok (.iadd, 1) := by decide +kernel
theorem dX10_blockedIn_19 : decode cX10_blockedIn 19 = .ok (.iaload, 1) := by decide +kernel
theorem dX10_blockedIn_20 : decode cX10_blockedIn 20 = .ok (.aload_n 0, 1) := by decide +kernel
theorem dX10_blockedIn_21 : decode cX10_blockedIn 21 = .ok (.getfield 156, 3) := by decide +kernel
theorem dX10_blockedIn_24 : decode cX10_blockedIn 24 = .ok (.if_icmp .lt 9, 3) := by decide +kernel
theorem dX10_blockedIn_27 : decode cX10_blockedIn 27 = .ok (.iconst 1, 1) := by decide +kernel
theorem dX10_blockedIn_28 : decode cX10_blockedIn 28 = .ok (.iload_n 3, 1) := by decide +kernel
theorem dX10_blockedIn_29 : decode cX10_blockedIn 29 = .ok (.ishl, 1) := by decide +kernel
theorem dX10_blockedIn_30 : decode cX10_blockedIn 30 = .ok (.goto 4, 3) := by decide +kernel
theorem dX10_blockedIn_33 : decode cX10_blockedIn 33 = .ok (.iconst 0, 1) := by decide +kernel
theorem dX10_blockedIn_34 : decode cX10_blockedIn 34 = .ok (.ior, 1) := by decide +kernel
theorem dX10_blockedIn_35 : decode cX10_blockedIn 35 = .ok (.istore_n 2, 1) := by decide +kernel
theorem dX10_blockedIn_36 : decode cX10_blockedIn 36 = .ok (.iinc 3 1, 3) := by decide +kernel
theorem dX10_blockedIn_39 : decode cX10_blockedIn 39 = .ok (.goto (-35), 3) := by decide +kernel
theorem dX10_blockedIn_42 : decode cX10_blockedIn 42 = .ok (.iload_n 2, 1) := by decide +kernel
theorem dX10_blockedIn_43 : decode cX10_blockedIn 43 = .ok (.ireturn, 1) := by decide +kernel
theorem dX10_told_0 : decode cX10_told 0 = .ok (.iload_n 1, 1) := by decide +kernel
theorem dX10_told_1 : decode cX10_told 1 = .ok (.tableswitch 126 0 10 #[59, 64, 69, 74, 79, 88, 97, 106, 111, 116, 121], 59) := by decide +kernel
theorem dX10_told_60 : decode cX10_told 60 = .ok (.aload_n 0, 1) := by decide +kernel
theorem dX10_told_61 : decode cX10_told 61 = .ok (.getfield 156, 3) := by decide +kernel
theorem dX10_told_64 : decode cX10_told 64 = .ok (.ireturn, 1) := by decide +kernel
theorem dX10_told_65 : decode cX10_told 65 = .ok (.aload_n 0, 1) := by decide +kernel
theorem dX10_told_66 : decode cX10_told 66 = .ok (.getfield 80, 3) := by decide +kernel
theorem dX10_told_69 : decode cX10_told 69 = .ok (.ireturn, 1) := by decide +kernel
theorem dX10_told_70 : decode cX10_told 70 = .ok (.aload_n 0, 1) := by decide +kernel
theorem dX10_told_71 : decode cX10_told 71 = .ok (.getfield 87, 3) := by decide +kernel
theorem dX10_told_74 : decode cX10_told 74 = .ok (.ireturn, 1) := by decide +kernel
theorem dX10_told_75 : decode cX10_told 75 = .ok (.aload_n 0, 1) := by decide +kernel
theorem dX10_told_76 : decode cX10_told 76 = .ok (.getfield 91, 3) := by decide +kernel
theorem dX10_told_79 : decode cX10_told 79 = .ok (.ireturn, 1) := by decide +kernel
theorem dX10_told_80 : decode cX10_told 80 = .ok (.aload_n 0, 1) := by decide +kernel
theorem dX10_told_81 : decode cX10_told 81 = .ok (.getfield 29, 3) := by decide +kernel
theorem dX10_told_84 : decode cX10_told 84 = .ok (.sipush 173, 3) := by decide +kernel
theorem dX10_told_87 : decode cX10_told 87 = .ok (.iaload, 1) := by decide +kernel
theorem dX10_told_88 : decode cX10_told 88 = .ok (.ireturn, 1) := by decide +kernel
theorem dX10_told_89 : decode cX10_told 89 = .ok (.aload_n 0, 1) := by decide +kernel
theorem dX10_told_90 : decode cX10_told 90 = .ok (.getfield 29, 3) := by decide +kernel
theorem dX10_told_93 : decode cX10_told 93 = .ok (.sipush 172, 3) := by decide +kernel
theorem dX10_told_96 : decode cX10_told 96 = .ok (.iaload, 1) := by decide +kernel
theorem dX10_told_97 : decode cX10_told 97 = .ok (.ireturn, 1) := by decide +kernel
theorem dX10_told_98 : decode cX10_told 98 = .ok (.aload_n 0, 1) := by decide +kernel
theorem dX10_told_99 : decode cX10_told 99 = .ok (.aload_n 0, 1) := by decide +kernel
theorem dX10_told_100 : decode cX10_told 100 = .ok (.getfield 29, 3) := by decide +kernel
theorem dX10_told_103 : decode cX10_told 103 = .ok (.invokevirtual 172, 3) := by decide +kernel
theorem dX10_told_106 : decode cX10_told 106 = .ok (.ireturn, 1) := by decide +kernel
theorem dX10_told_107 : decode cX10_told 107 = .ok (.aload_n 0, 1) := by decide +kernel
theorem dX10_told_108 : decode cX10_told 108 = .ok (.invokevirtual 176, 3) := by decide +kernel
theorem dX10_told_111 : decode cX10_told 111 = .ok (.ireturn, 1) := by decide +kernel
theorem dX10_told_112 : decode cX10_told 112 = .ok (.aload_n 0, 1) := by decide +kernel
theorem dX10_told_113 : decode cX10_told 113 = .ok (.getfield 159, 3) := by decide +kernel
theorem dX10_told_116 : decode cX10_told 116 = .ok (.ireturn, 1) := by decide +kernel
theorem dX10_told_117 : decode cX10_told 117 = .ok (.aload_n 0, 1) := by decide +kernel
theorem dX10_told_118 : decode cX10_told 118 = .ok (.getfield 162, 3) := by decide +kernel
theorem dX10_told_121 : decode cX10_told 121 = .ok (.ireturn, 1) := by decide +kernel
theorem dX10_told_122 : decode cX10_told 122 = .ok (.aload_n 0, 1) := by decide +kernel
theorem dX10_told_123 : decode cX10_told 123 = .ok (.getfield 165, 3) := by decide +kernel
theorem dX10_told_126 : decode cX10_told 126 = .ok (.ireturn, 1) := by decide +kernel
theorem dX10_told_127 : decode cX10_told 127 = .ok (.ldc 90, 2) := by decide +kernel
theorem dX10_told_129 : decode cX10_told 129 = .ok (.ireturn, 1) := by decide +kernel
theorem dX10_place_0 : decode cX10_place 0 = .ok (.aload_n 0, 1) := by decide +kernel
theorem dX10_place_1 : decode cX10_place 1 = .ok (.iload_n 1, 1) := by decide +kernel
theorem dX10_place_2 : decode cX10_place 2 = .ok (.invokevirtual 180, 3) := by decide +kernel
theorem dX10_place_5 : decode cX10_place 5 = .ok (.ifCond .ne 6, 3) := by decide +kernel
theorem dX10_place_8 : decode cX10_place 8 = .ok (.ldc 183, 2) := by decide +kernel
theorem dX10_place_10 : decode cX10_place 10 = .ok (.ireturn, 1) := by decide +kernel
theorem dX10_place_11 : decode cX10_place 11 = .ok (.iload_n 2, 1) := by decide +kernel
theorem dX10_place_12 : decode cX10_place 12 = .ok (.iconst 0, 1) := by decide +kernel
theorem dX10_place_13 : decode cX10_place 13 = .ok (.iconst 2, 1) := by decide +kernel
theorem dX10_place_14 : decode cX10_place 14 = .ok (.invokestatic 83, 3) := by decide +kernel
theorem dX10_place_17 : decode cX10_place 17 = .ok (.ifCond .ne 6, 3) := by decide +kernel
theorem dX10_place_20 : decode cX10_place 20 = .ok (.ldc 90, 2) := by decide +kernel
theorem dX10_place_22 : decode cX10_place 22 = .ok (.ireturn, 1) := by decide +kernel
theorem dX10_place_23 : decode cX10_place 23 = .ok (.iload_n 2, 1) := by decide +kernel
theorem dX10_place_24 : decode cX10_place 24 = .ok (.iconst 2, 1) := by decide +kernel
theorem dX10_place_25 : decode cX10_place 25 = .ok (.if_icmp .ge 16, 3) := by decide +kernel
theorem dX10_place_28 : decode cX10_place 28 = .ok (.aload_n 0, 1) := by decide +kernel
theorem dX10_place_29 : decode cX10_place 29 = .ok (.getfield 23, 3) := by decide +kernel
theorem dX10_place_32 : decode cX10_place 32 = .ok (.iconst 2, 1) := by decide +kernel
theorem dX10_place_33 : decode cX10_place 33 = .ok (.iload_n 1, 1) := by decide +kernel
theorem dX10_place_34 : decode cX10_place 34 = .ok (.imul, 1) := by decide +kernel
theorem dX10_place_35 : decode cX10_place 35 = .ok (.iload_n 2, 1) := by decide +kernel
theorem dX10_place_36 : decode cX10_place 36 = .ok (.iadd, 1) := by decide +kernel
theorem dX10_place_37 : decode cX10_place 37 = .ok (.iaload, 1) := by decide +kernel
theorem dX10_place_38 : decode cX10_place 38 = .ok (.goto 12, 3) := by decide +kernel
theorem dX10_place_41 : decode cX10_place 41 = .ok (.aload_n 0, 1) := by decide +kernel
theorem dX10_place_42 : decode cX10_place 42 = .ok (.getfield 29, 3) := by decide +kernel
theorem dX10_place_45 : decode cX10_place 45 = .ok (.bipush 80, 2) := by decide +kernel
theorem dX10_place_47 : decode cX10_place 47 = .ok (.iload_n 1, 1) := by decide +kernel
theorem dX10_place_48 : decode cX10_place 48 = .ok (.iadd, 1) := by decide +kernel
theorem dX10_place_49 : decode cX10_place 49 = .ok (.iaload, 1) := by decide +kernel
theorem dX10_place_50 : decode cX10_place 50 = .ok (.ireturn, 1) := by decide +kernel
theorem dX10_channel_0 : decode cX10_channel 0 = .ok (.aload_n 0, 1) := by decide +kernel
theorem dX10_channel_1 : decode cX10_channel 1 = .ok (.iload_n 1, 1) := by decide +kernel
theorem dX10_channel_2 : decode cX10_channel 2 = .ok (.invokevirtual 184, 3) := by decide +kernel
theorem dX10_channel_5 : decode cX10_channel 5 = .ok (.ifCond .ne 6, 3) := by decide +kernel
theorem dX10_channel_8 : decode cX10_channel 8 = .ok (.ldc 183, 2) := by decide +kernel
theorem dX10_channel_10 : decode cX10_channel 10 = .ok (.ireturn, 1) := by decide +kernel
theorem dX10_channel_11 : decode cX10_channel 11 = .ok (.iload_n 2, 1) := by decide +kernel
theorem dX10_channel_12 : decode cX10_channel 12 = .ok (.iconst 0, 1) := by decide +kernel
theorem dX10_channel_13 : decode cX10_channel 13 = .ok (.iconst 5, 1) := by decide +kernel
theorem dX10_channel_14 : decode cX10_channel 14 = .ok (.invokestatic 83, 3) := by decide +kernel
theorem dX10_channel_17 : decode cX10_channel 17 = .ok (.ifCond .ne 6, 3) := by decide +kernel
theorem dX10_channel_20 : decode cX10_channel 20 = .ok (.ldc 90, 2) := by decide +kernel
theorem dX10_channel_22 : decode cX10_channel 22 = .ok (.ireturn, 1) := by decide +kernel
theorem dX10_channel_23 : decode cX10_channel 23 = .ok (.iload_n 2, 1) := by decide +kernel
theorem dX10_channel_24 : decode cX10_channel 24 = .ok (.iconst 3, 1) := by decide +kernel
theorem dX10_channel_25 : decode cX10_channel 25 = .ok (.if_icmp .ge 16, 3) := by decide +kernel
theorem dX10_channel_28 : decode cX10_channel 28 = .ok (.aload_n 0, 1) := by decide +kernel
theorem dX10_channel_29 : decode cX10_channel 29 = .ok (.getfield 26, 3) := by decide +kernel
theorem dX10_channel_32 : decode cX10_channel 32 = .ok (.iconst 3, 1) := by decide +kernel
theorem dX10_channel_33 : decode cX10_channel 33 = .ok (.iload_n 1, 1) := by decide +kernel
theorem dX10_channel_34 : decode cX10_channel 34 = .ok (.imul, 1) := by decide +kernel
theorem dX10_channel_35 : decode cX10_channel 35 = .ok (.iload_n 2, 1) := by decide +kernel
theorem dX10_channel_36 : decode cX10_channel 36 = .ok (.iadd, 1) := by decide +kernel
theorem dX10_channel_37 : decode cX10_channel 37 = .ok (.iaload, 1) := by decide +kernel
theorem dX10_channel_38 : decode cX10_channel 38 = .ok (.goto 51, 3) := by decide +kernel
theorem dX10_channel_41 : decode cX10_channel 41 = .ok (.iload_n 2, 1) := by decide +kernel
theorem dX10_channel_42 : decode cX10_channel 42 = .ok (.iconst 3, 1) := by decide +kernel
theorem dX10_channel_43 : decode cX10_channel 43 = .ok (.if_icmp .ne 16, 3) := by decide +kernel
theorem dX10_channel_46 : decode cX10_channel 46 = .ok (.aload_n 0, 1) := by decide +kernel
theorem dX10_channel_47 : decode cX10_channel 47 = .ok (.getfield 29, 3) := by decide +kernel
theorem dX10_channel_50 : decode cX10_channel 50 = .ok (.sipush 152, 3) := by decide +kernel
theorem dX10_channel_53 : decode cX10_channel 53 = .ok (.iload_n 1, 1) := by decide +kernel
theorem dX10_channel_54 : decode cX10_channel 54 = .ok (.iadd, 1) := by decide +kernel
theorem dX10_channel_55 : decode cX10_channel 55 = .ok (.iaload, 1) := by decide +kernel
theorem dX10_channel_56 : decode cX10_channel 56 = .ok (.goto 33, 3) := by decide +kernel
theorem dX10_channel_59 : decode cX10_channel 59 = .ok (.iload_n 2, 1) := by decide +kernel
theorem dX10_channel_60 : decode cX10_channel 60 = .ok (.iconst 4, 1) := by decide +kernel
theorem dX10_channel_61 : decode cX10_channel 61 = .ok (.if_icmp .ne 18, 3) := by decide +kernel
theorem dX10_channel_64 : decode cX10_channel 64 = .ok (.aload_n 0, 1) := by decide +kernel
theorem dX10_channel_65 : decode cX10_channel 65 = .ok (.getfield 29, 3) := by decide +kernel
theorem dX10_channel_68 : decode cX10_channel 68 = .ok (.sipush 172, 3) := by decide +kernel
theorem dX10_channel_71 : decode cX10_channel 71 = .ok (.iaload, 1) := by decide +kernel
theorem dX10_channel_72 : decode cX10_channel 72 = .ok (.iload_n 1, 1) := by decide +kernel
theorem dX10_channel_73 : decode cX10_channel 73 = .ok (.ishr, 1) := by decide +kernel
theorem dX10_channel_74 : decode cX10_channel 74 = .ok (.iconst 1, 1) := by decide +kernel
theorem dX10_channel_75 : decode cX10_channel 75 = .ok (.iand, 1) := by decide +kernel
theorem dX10_channel_76 : decode cX10_channel 76 = .ok (.goto 13, 3) := by decide +kernel
theorem dX10_channel_79 : decode cX10_channel 79 = .ok (.aload_n 0, 1) := by decide +kernel
theorem dX10_channel_80 : decode cX10_channel 80 = .ok (.getfield 29, 3) := by decide +kernel
theorem dX10_channel_83 : decode cX10_channel 83 = .ok (.sipush 162, 3) := by decide +kernel
theorem dX10_channel_86 : decode cX10_channel 86 = .ok (.iload_n 1, 1) := by decide +kernel
theorem dX10_channel_87 : decode cX10_channel 87 = .ok (.iadd, 1) := by decide +kernel
theorem dX10_channel_88 : decode cX10_channel 88 = .ok (.iaload, 1) := by decide +kernel
theorem dX10_channel_89 : decode cX10_channel 89 = .ok (.ireturn, 1) := by decide +kernel
theorem dX10_first_0 : decode cX10_first 0 = .ok (.aload_n 0, 1) := by decide +kernel
theorem dX10_first_1 : decode cX10_first 1 = .ok (.iload_n 1, 1) := by decide +kernel
theorem dX10_first_2 : decode cX10_first 2 = .ok (.invokevirtual 180, 3) := by decide +kernel
theorem dX10_first_5 : decode cX10_first 5 = .ok (.ifCond .eq 27, 3) := by decide +kernel
theorem dX10_first_8 : decode cX10_first 8 = .ok (.iload_n 2, 1) := by decide +kernel
theorem dX10_first_9 : decode cX10_first 9 = .ok (.invokestatic 187, 3) := by decide +kernel
theorem dX10_first_12 : decode cX10_first 12 = .ok (.ifCond .eq 20, 3) := by decide +kernel
theorem dX10_first_15 : decode cX10_first 15 = .ok (.aload_n 0, 1) := by decide +kernel
theorem dX10_first_16 : decode cX10_first 16 = .ok (.getfield 29, 3) := by decide +kernel
theorem dX10_first_19 : decode cX10_first 19 = .ok (.bipush 88, 2) := by decide +kernel
theorem dX10_first_21 : decode cX10_first 21 = .ok (.bipush 8, 2) := by decide +kernel
theorem dX10_first_23 : decode cX10_first 23 = .ok (.iload_n 1, 1) := by decide +kernel
theorem dX10_first_24 : decode cX10_first 24 = .ok (.imul, 1) := by decide +kernel
theorem dX10_first_25 : decode cX10_first 25 = .ok (.iadd, 1) := by decide +kernel
theorem dX10_first_26 : decode cX10_first 26 = .ok (.iload_n 2, 1) := by decide +kernel
theorem dX10_first_27 : decode cX10_first 27 = .ok (.iadd, 1) := by decide +kernel
theorem dX10_first_28 : decode cX10_first 28 = .ok (.iaload, 1) := by decide +kernel
theorem dX10_first_29 : decode cX10_first 29 = .ok (.goto 5, 3) := by decide +kernel
theorem dX10_first_32 : decode cX10_first 32 = .ok (.ldc 183, 2) := by decide +kernel
theorem dX10_first_34 : decode cX10_first 34 = .ok (.ireturn, 1) := by decide +kernel
theorem dX10_copy_0 : decode cX10_copy 0 = .ok (.iconst 0, 1) := by decide +kernel
theorem dX10_copy_1 : decode cX10_copy 1 = .ok (.istore 4, 2) := by decide +kernel
theorem dX10_copy_3 : decode cX10_copy 3 = .ok (.iload 4, 2) := by decide +kernel
theorem dX10_copy_5 : decode cX10_copy 5 = .ok (.sipush 174, 3) := by decide +kernel
theorem dX10_copy_8 : decode cX10_copy 8 = .ok (.if_icmp .ge 21, 3) := by decide +kernel
theorem dX10_copy_11 : decode cX10_copy 11 = .ok (.aload_n 2, 1) := by decide +kernel
theorem dX10_copy_12 : decode cX10_copy 12 = .ok (.iload_n 3, 1) := by decide +kernel
theorem dX10_copy_13 : decode cX10_copy 13 = .ok (.iload 4, 2) := by decide +kernel
theorem dX10_copy_15 : decode cX10_copy 15 = .ok (.iadd, 1) := by decide +kernel
theorem dX10_copy_16 : decode cX10_copy 16 = .ok (.aload_n 0, 1) := by decide +kernel
theorem dX10_copy_17 : decode cX10_copy 17 = .ok (.iload_n 1, 1) := by decide +kernel
theorem dX10_copy_18 : decode cX10_copy 18 = .ok (.iload 4, 2) := by decide +kernel
theorem dX10_copy_20 : decode cX10_copy 20 = .ok (.iadd, 1) := by decide +kernel
theorem dX10_copy_21 : decode cX10_copy 21 = .ok (.iaload, 1) := by decide +kernel
theorem dX10_copy_22 : decode cX10_copy 22 = .ok (.iastore, 1) := by decide +kernel
theorem dX10_copy_23 : decode cX10_copy 23 = .ok (.iinc 4 1, 3) := by decide +kernel
theorem dX10_copy_26 : decode cX10_copy 26 = .ok (.goto (-23), 3) := by decide +kernel
theorem dX10_copy_29 : decode cX10_copy 29 = .ok (.return_, 1) := by decide +kernel
theorem dX10_note_0 : decode cX10_note 0 = .ok (.aload_n 0, 1) := by decide +kernel
theorem dX10_note_1 : decode cX10_note 1 = .ok (.getfield 165, 3) := by decide +kernel
theorem dX10_note_4 : decode cX10_note 4 = .ok (.bipush 20, 2) := by decide +kernel
theorem dX10_note_6 : decode cX10_note 6 = .ok (.if_icmp .ne 44, 3) := by decide +kernel
theorem dX10_note_9 : decode cX10_note 9 = .ok (.iconst 0, 1) := by decide +kernel
theorem dX10_note_10 : decode cX10_note 10 = .ok (.istore_n 1, 1) := by decide +kernel
theorem dX10_note_11 : decode cX10_note 11 = .ok (.iload_n 1, 1) := by decide +kernel
theorem dX10_note_12 : decode cX10_note 12 = .ok (.sipush 3306, 3) := by decide +kernel
theorem dX10_note_15 : decode cX10_note 15 = .ok (.if_icmp .ge 25, 3) := by decide +kernel
theorem dX10_note_18 : decode cX10_note 18 = .ok (.aload_n 0, 1) := by decide +kernel
theorem dX10_note_19 : decode cX10_note 19 = .ok (.getfield 35, 3) := by decide +kernel
theorem dX10_note_22 : decode cX10_note 22 = .ok (.iload_n 1, 1) := by decide +kernel
theorem dX10_note_23 : decode cX10_note 23 = .ok (.aload_n 0, 1) := by decide +kernel
theorem dX10_note_24 : decode cX10_note 24 = .ok (.getfield 35, 3) := by decide +kernel
theorem dX10_note_27 : decode cX10_note 27 = .ok (.iload_n 1, 1) := by decide +kernel
theorem dX10_note_28 : decode cX10_note 28 = .ok (.sipush 174, 3) := by decide +kernel
theorem dX10_note_31 : decode cX10_note 31 = .ok (.iadd, 1) := by decide +kernel
theorem dX10_note_32 : decode cX10_note 32 = .ok (.iaload, 1) := by decide +kernel
theorem dX10_note_33 : decode cX10_note 33 = .ok (.iastore, 1) := by decide +kernel
theorem dX10_note_34 : decode cX10_note 34 = .ok (.iinc 1 1, 3) := by decide +kernel
theorem dX10_note_37 : decode cX10_note 37 = .ok (.goto (-26), 3) := by decide +kernel
theorem dX10_note_40 : decode cX10_note 40 = .ok (.aload_n 0, 1) := by decide +kernel
theorem dX10_note_41 : decode cX10_note 41 = .ok (.dup, 1) := by decide +kernel
theorem dX10_note_42 : decode cX10_note 42 = .ok (.getfield 165, 3) := by decide +kernel
theorem dX10_note_45 : decode cX10_note 45 = .ok (.iconst 1, 1) := by decide +kernel
theorem dX10_note_46 : decode cX10_note 46 = .ok (.isub, 1) := by decide +kernel
theorem dX10_note_47 : decode cX10_note 47 = .ok (.putfield 165, 3) := by decide +kernel
theorem dX10_note_50 : decode cX10_note 50 = .ok (.aload_n 0, 1) := by decide +kernel
theorem dX10_note_51 : decode cX10_note 51 = .ok (.getfield 29, 3) := by decide +kernel
theorem dX10_note_54 : decode cX10_note 54 = .ok (.iconst 0, 1) := by decide +kernel
theorem dX10_note_55 : decode cX10_note 55 = .ok (.aload_n 0, 1) := by decide +kernel
theorem dX10_note_56 : decode cX10_note 56 = .ok (.getfield 35, 3) := by decide +kernel
theorem dX10_note_59 : decode cX10_note 59 = .ok (.sipush 174, 3) := by decide +kernel
theorem dX10_note_62 : decode cX10_note 62 = .ok (.aload_n 0, 1) := by decide +kernel
theorem dX10_note_63 : decode cX10_note 63 = .ok (.getfield 165, 3) := by decide +kernel
theorem dX10_note_66 : decode cX10_note 66 = .ok (.imul, 1) := by decide +kernel
theorem dX10_note_67 : decode cX10_note 67 = .ok (.invokestatic 190, 3) := by decide +kernel
theorem dX10_note_70 : decode cX10_note 70 = .ok (.aload_n 0, 1) := by decide +kernel
theorem dX10_note_71 : decode cX10_note 71 = .ok (.dup, 1) := by decide +kernel
theorem dX10_note_72 : decode cX10_note 72 = .ok (.getfield 165, 3) := by decide +kernel
theorem dX10_note_75 : decode cX10_note 75 = .ok (.iconst 1, 1) := by decide +kernel
theorem dX10_note_76 : decode cX10_note 76 = .ok (.iadd, 1) := by decide +kernel
theorem dX10_note_77 : decode cX10_note 77 = .ok (.putfield 165, 3) := by decide +kernel
theorem dX10_note_80 : decode cX10_note 80 = .ok (.return_, 1) := by decide +kernel
theorem dX10_hearAt_0 : decode cX10_hearAt 0 = .ok (.aload_n 0, 1) := by decide +kernel
theorem dX10_hearAt_1 : decode cX10_hearAt 1 = .ok (.bipush 80, 2) := by decide +kernel
theorem dX10_hearAt_3 : decode cX10_hearAt 3 = .ok (.iload_n 1, 1) := by decide +kernel
theorem dX10_hearAt_4 : decode cX10_hearAt 4 = .ok (.iadd, 1) := by decide +kernel
theorem dX10_hearAt_5 : decode cX10_hearAt 5 = .ok (.aload_n 0, 1) := by decide +kernel
theorem dX10_hearAt_6 : decode cX10_hearAt 6 = .ok (.bipush 80, 2) := by decide +kernel
theorem dX10_hearAt_8 : decode cX10_hearAt 8 = .ok (.iload_n 1, 1) := by decide +kernel
theorem dX10_hearAt_9 : decode cX10_hearAt 9 = .ok (.iadd, 1) := by decide +kernel
theorem dX10_hearAt_10 : decode cX10_hearAt 10 = .ok (.iaload, 1) := by decide +kernel
theorem dX10_hearAt_11 : decode cX10_hearAt 11 = .ok (.iload_n 2, 1) := by decide +kernel
theorem dX10_hearAt_12 : decode cX10_hearAt 12 = .ok (.ior, 1) := by decide +kernel
theorem dX10_hearAt_13 : decode cX10_hearAt 13 = .ok (.iastore, 1) := by decide +kernel
theorem dX10_hearAt_14 : decode cX10_hearAt 14 = .ok (.iconst 0, 1) := by decide +kernel
theorem dX10_hearAt_15 : decode cX10_hearAt 15 = .ok (.istore_n 3, 1) := by decide +kernel
theorem dX10_hearAt_16 : decode cX10_hearAt 16 = .ok (.iload_n 3, 1) := by decide +kernel
theorem dX10_hearAt_17 : decode cX10_hearAt 17 = .ok (.bipush 8, 2) := by decide +kernel
theorem dX10_hearAt_19 : decode cX10_hearAt 19 = .ok (.if_icmp .ge 74, 3) := by decide +kernel
theorem dX10_hearAt_22 : decode cX10_hearAt 22 = .ok (.iload_n 2, 1) := by decide +kernel
theorem dX10_hearAt_23 : decode cX10_hearAt 23 = .ok (.iload_n 3, 1) := by decide +kernel
theorem dX10_hearAt_24 : decode cX10_hearAt 24 = .ok (.invokestatic 194, 3) := by decide +kernel
theorem dX10_hearAt_27 : decode cX10_hearAt 27 = .ok (.ifCond .eq 22, 3) := by decide +kernel
theorem dX10_hearAt_30 : decode cX10_hearAt 30 = .ok (.aload_n 0, 1) := by decide +kernel
theorem dX10_hearAt_31 : decode cX10_hearAt 31 = .ok (.bipush 88, 2) := by decide +kernel
theorem dX10_hearAt_33 : decode cX10_hearAt 33 = .ok (.bipush 8, 2) := by decide +kernel
theorem dX10_hearAt_35 : decode cX10_hearAt 35 = .ok (.iload_n 1, 1) := by decide +kernel
theorem dX10_hearAt_36 : decode cX10_hearAt 36 = .ok (.imul, 1) := by decide +kernel
theorem dX10_hearAt_37 : decode cX10_hearAt 37 = .ok (.iadd, 1) := by decide +kernel
theorem dX10_hearAt_38 : decode cX10_hearAt 38 = .ok (.iload_n 3, 1) := by decide +kernel
theorem dX10_hearAt_39 : decode cX10_hearAt 39 = .ok (.iadd, 1) := by decide +kernel
theorem dX10_hearAt_40 : decode cX10_hearAt 40 = .ok (.iaload, 1) := by decide +kernel
theorem dX10_hearAt_41 : decode cX10_hearAt 41 = .ok (.iconst (-1), 1) := by decide +kernel
theorem dX10_hearAt_42 : decode cX10_hearAt 42 = .ok (.if_icmp .ne 7, 3) := by decide +kernel
theorem dX10_hearAt_45 : decode cX10_hearAt 45 = .ok (.iconst 1, 1) := by decide +kernel
theorem dX10_hearAt_46 : decode cX10_hearAt 46 = .ok (.goto 4, 3) := by decide +kernel
theorem dX10_hearAt_49 : decode cX10_hearAt 49 = .ok (.iconst 0, 1) := by decide +kernel
theorem dX10_hearAt_50 : decode cX10_hearAt 50 = .ok (.istore 4, 2) := by decide +kernel
theorem dX10_hearAt_52 : decode cX10_hearAt 52 = .ok (.aload_n 0, 1) := by decide +kernel
theorem dX10_hearAt_53 : decode cX10_hearAt 53 = .ok (.bipush 88, 2) := by decide +kernel
theorem dX10_hearAt_55 : decode cX10_hearAt 55 = .ok (.bipush 8, 2) := by decide +kernel
theorem dX10_hearAt_57 : decode cX10_hearAt 57 = .ok (.iload_n 1, 1) := by decide +kernel
theorem dX10_hearAt_58 : decode cX10_hearAt 58 = .ok (.imul, 1) := by decide +kernel
theorem dX10_hearAt_59 : decode cX10_hearAt 59 = .ok (.iadd, 1) := by decide +kernel
theorem dX10_hearAt_60 : decode cX10_hearAt 60 = .ok (.iload_n 3, 1) := by decide +kernel
theorem dX10_hearAt_61 : decode cX10_hearAt 61 = .ok (.iadd, 1) := by decide +kernel
theorem dX10_hearAt_62 : decode cX10_hearAt 62 = .ok (.iload 4, 2) := by decide +kernel
theorem dX10_hearAt_64 : decode cX10_hearAt 64 = .ok (.ifCond .eq 11, 3) := by decide +kernel
theorem dX10_hearAt_67 : decode cX10_hearAt 67 = .ok (.aload_n 0, 1) := by decide +kernel
theorem dX10_hearAt_68 : decode cX10_hearAt 68 = .ok (.sipush 173, 3) := by decide +kernel
theorem dX10_hearAt_71 : decode cX10_hearAt 71 = .ok (.iaload, 1) := by decide +kernel
theorem dX10_hearAt_72 : decode cX10_hearAt 72 = .ok (.goto 14, 3) := by decide +kernel
theorem dX10_hearAt_75 : decode cX10_hearAt 75 = .ok (.aload_n 0, 1) := by decide +kernel
theorem dX10_hearAt_76 : decode cX10_hearAt 76 = .ok (.bipush 88, 2) := by decide +kernel
theorem dX10_hearAt_78 : decode cX10_hearAt 78 = .ok (.bipush 8, 2) := by decide +kernel
theorem dX10_hearAt_80 : decode cX10_hearAt 80 = .ok (.iload_n 1, 1) := by decide +kernel
theorem dX10_hearAt_81 : decode cX10_hearAt 81 = .ok (.imul, 1) := by decide +kernel
theorem dX10_hearAt_82 : decode cX10_hearAt 82 = .ok (.iadd, 1) := by decide +kernel
theorem dX10_hearAt_83 : decode cX10_hearAt 83 = .ok (.iload_n 3, 1) := by decide +kernel
theorem dX10_hearAt_84 : decode cX10_hearAt 84 = .ok (.iadd, 1) := by decide +kernel
theorem dX10_hearAt_85 : decode cX10_hearAt 85 = .ok (.iaload, 1) := by decide +kernel
theorem dX10_hearAt_86 : decode cX10_hearAt 86 = .ok (.iastore, 1) := by decide +kernel
theorem dX10_hearAt_87 : decode cX10_hearAt 87 = .ok (.iinc 3 1, 3) := by decide +kernel
theorem dX10_hearAt_90 : decode cX10_hearAt 90 = .ok (.goto (-74), 3) := by decide +kernel
theorem dX10_hearAt_93 : decode cX10_hearAt 93 = .ok (.return_, 1) := by decide +kernel
theorem dX10_goesOn_0 : decode cX10_goesOn 0 = .ok (.aload_n 0, 1) := by decide +kernel
theorem dX10_goesOn_1 : decode cX10_goesOn 1 = .ok (.getfield 23, 3) := by decide +kernel
theorem dX10_goesOn_4 : decode cX10_goesOn 4 = .ok (.iconst 2, 1) := by decide +kernel
theorem dX10_goesOn_5 : decode cX10_goesOn 5 = .ok (.iload_n 1, 1) := by decide +kernel
theorem dX10_goesOn_6 : decode cX10_goesOn 6 = .ok (.imul, 1) := by decide +kernel
theorem dX10_goesOn_7 : decode cX10_goesOn 7 = .ok (.iaload, 1) := by decide +kernel
theorem dX10_goesOn_8 : decode cX10_goesOn 8 = .ok (.istore_n 3, 1) := by decide +kernel
theorem dX10_goesOn_9 : decode cX10_goesOn 9 = .ok (.iload_n 3, 1) := by decide +kernel
theorem dX10_goesOn_10 : decode cX10_goesOn 10 = .ok (.iconst 3, 1) := by decide +kernel
theorem dX10_goesOn_11 : decode cX10_goesOn 11 = .ok (.if_icmp .ne 7, 3) := by decide +kernel
theorem dX10_goesOn_14 : decode cX10_goesOn 14 = .ok (.iconst 0, 1) := by decide +kernel
theorem dX10_goesOn_15 : decode cX10_goesOn 15 = .ok (.goto 16, 3) := by decide +kernel
theorem dX10_goesOn_18 : decode cX10_goesOn 18 = .ok (.iload_n 3, 1) := by decide +kernel
theorem dX10_goesOn_19 : decode cX10_goesOn 19 = .ok (.iconst 1, 1) := by decide +kernel
theorem dX10_goesOn_20 : decode cX10_goesOn 20 = .ok (.if_icmp .ne 10, 3) := by decide +kernel
theorem dX10_goesOn_23 : decode cX10_goesOn 23 = .ok (.iload_n 2, 1) := by decide +kernel
theorem dX10_goesOn_24 : decode cX10_goesOn 24 = .ok (.bipush 85, 2) := by decide +kernel
theorem dX10_goesOn_26 : decode cX10_goesOn 26 = .ok (.iand, 1) := by decide +kernel
theorem dX10_goesOn_27 : decode cX10_goesOn 27 = .ok (.goto 4, 3) := by decide +kernel
theorem dX10_goesOn_30 : decode cX10_goesOn 30 = .ok (.iload_n 2, 1) := by decide +kernel
theorem dX10_goesOn_31 : decode cX10_goesOn 31 = .ok (.ireturn, 1) := by decide +kernel
theorem dX10_passHour_0 : decode cX10_passHour 0 = .ok (.iconst 0, 1) := by decide +kernel
theorem dX10_passHour_1 : decode cX10_passHour 1 = .ok (.istore_n 2, 1) := by decide +kernel
theorem dX10_passHour_2 : decode cX10_passHour 2 = .ok (.iload_n 2, 1) := by decide +kernel
theorem dX10_passHour_3 : decode cX10_passHour 3 = .ok (.aload_n 0, 1) := by decide +kernel
theorem dX10_passHour_4 : decode cX10_passHour 4 = .ok (.getfield 80, 3) := by decide +kernel
theorem dX10_passHour_7 : decode cX10_passHour 7 = .ok (.if_icmp .ge 175, 3) := by decide +kernel
theorem dX10_passHour_10 : decode cX10_passHour 10 = .ok (.aload_n 1, 1) := by decide +kernel
theorem dX10_passHour_11 : decode cX10_passHour 11 = .ok (.bipush 10, 2) := by decide +kernel
theorem dX10_passHour_13 : decode cX10_passHour 13 = .ok (.iload_n 2, 1) := by decide +kernel
theorem dX10_passHour_14 : decode cX10_passHour 14 = .ok (.imul, 1) := by decide +kernel
theorem dX10_passHour_15 : decode cX10_passHour 15 = .ok (.iaload, 1) := by decide +kernel
theorem dX10_passHour_16 : decode cX10_passHour 16 = .ok (.istore_n 3, 1) := by decide +kernel
theorem dX10_passHour_17 : decode cX10_passHour 17 = .ok (.aload_n 1, 1) := by decide +kernel
theorem dX10_passHour_18 : decode cX10_passHour 18 = .ok (.iload_n 2, 1) := by decide +kernel
theorem dX10_passHour_19 : decode cX10_passHour 19 = .ok (.iload_n 3, 1) := by decide +kernel
theorem dX10_passHour_20 : decode cX10_passHour 20 = .ok (.invokestatic 197, 3) := by decide +kernel
theorem dX10_passHour_23 : decode cX10_passHour 23 = .ok (.aload_n 0, 1) := by decide +kernel
theorem dX10_passHour_24 : decode cX10_passHour 24 = .ok (.iload_n 2, 1) := by decide +kernel
theorem dX10_passHour_25 : decode cX10_passHour 25 = .ok (.iload_n 3, 1) := by decide +kernel
theorem dX10_passHour_26 : decode cX10_passHour 26 = .ok (.invokevirtual 201, 3) := by decide +kernel
theorem dX10_passHour_29 : decode cX10_passHour 29 = .ok (.istore 4, 2) := by decide +kernel
theorem dX10_passHour_31 : decode cX10_passHour 31 = .ok (.iconst 0, 1) := by decide +kernel
theorem dX10_passHour_32 : decode cX10_passHour 32 = .ok (.istore 5, 2) := by decide +kernel
theorem dX10_passHour_34 : decode cX10_passHour 34 = .ok (.iload 5, 2) := by decide +kernel
theorem dX10_passHour_36 : decode cX10_passHour 36 = .ok (.aload_n 0, 1) := by decide +kernel
theorem dX10_passHour_37 : decode cX10_passHour 37 = .ok (.getfield 87, 3) := by decide +kernel
theorem dX10_passHour_40 : decode cX10_passHour 40 = .ok (.if_icmp .ge 136, 3) := by decide +kernel
theorem dX10_passHour_43 : decode cX10_passHour 43 = .ok (.iload 4, 2) := by decide +kernel
theorem dX10_passHour_45 : decode cX10_passHour 45 = .ok (.ifCond .eq 131, 3) := by decide +kernel
theorem dX10_passHour_48 : decode cX10_passHour 48 = .ok (.aload_n 0, 1) := by decide +kernel
theorem dX10_passHour_49 : decode cX10_passHour 49 = .ok (.getfield 26, 3) := by decide +kernel
theorem dX10_passHour_52 : decode cX10_passHour 52 = .ok (.iconst 3, 1) := by decide +kernel
theorem dX10_passHour_53 : decode cX10_passHour 53 = .ok (.iload 5, 2) := by decide +kernel
theorem dX10_passHour_55 : decode cX10_passHour 55 = .ok (.imul, 1) := by decide +kernel
theorem dX10_passHour_56 : decode cX10_passHour 56 = .ok (.iaload, 1) := by decide +kernel
theorem dX10_passHour_57 : decode cX10_passHour 57 = .ok (.iload_n 2, 1) := by decide +kernel
theorem dX10_passHour_58 : decode cX10_passHour 58 = .ok (.if_icmp .ne 112, 3) := by decide +kernel
theorem dX10_passHour_61 : decode cX10_passHour 61 = .ok (.aload_n 1, 1) := by decide +kernel
theorem dX10_passHour_62 : decode cX10_passHour 62 = .ok (.sipush 172, 3) := by decide +kernel
theorem dX10_passHour_65 : decode cX10_passHour 65 = .ok (.iaload, 1) := by decide +kernel
theorem dX10_passHour_66 : decode cX10_passHour 66 = .ok (.iload 5, 2) := by decide +kernel
theorem dX10_passHour_68 : decode cX10_passHour 68 = .ok (.invokestatic 194, 3) := by decide +kernel
theorem dX10_passHour_71 : decode cX10_passHour 71 = .ok (.ifCond .ne 99, 3) := by decide +kernel
theorem dX10_passHour_74 : decode cX10_passHour 74 = .ok (.aload_n 1, 1) := by decide +kernel
theorem dX10_passHour_75 : decode cX10_passHour 75 = .ok (.sipush 152, 3) := by decide +kernel
theorem dX10_passHour_78 : decode cX10_passHour 78 = .ok (.iload 5, 2) := by decide +kernel
theorem dX10_passHour_80 : decode cX10_passHour 80 = .ok (.iadd, 1) := by decide +kernel
theorem dX10_passHour_81 : decode cX10_passHour 81 = .ok (.iaload, 1) := by decide +kernel
theorem dX10_passHour_82 : decode cX10_passHour 82 = .ok (.aload_n 0, 1) := by decide +kernel
theorem dX10_passHour_83 : decode cX10_passHour 83 = .ok (.getfield 156, 3) := by decide +kernel
theorem dX10_passHour_86 : decode cX10_passHour 86 = .ok (.if_icmp .ge 84, 3) := by decide +kernel
theorem dX10_passHour_89 : decode cX10_passHour 89 = .ok (.bipush 10, 2) := by decide +kernel
theorem dX10_passHour_91 : decode cX10_passHour 91 = .ok (.aload_n 0, 1) := by decide +kernel
theorem dX10_passHour_92 : decode cX10_passHour 92 = .ok (.getfield 26, 3) := by decide +kernel
theorem dX10_passHour_95 : decode cX10_passHour 95 = .ok (.iconst 3, 1) := by decide +kernel
theorem dX10_passHour_96 : decode cX10_passHour 96 = .ok (.iload 5, 2) := by decide +kernel
theorem dX10_passHour_98 : decode cX10_passHour 98 = .ok (.imul, 1) := by decide +kernel
theorem dX10_passHour_99 : decode cX10_passHour 99 = .ok (.iconst 1, 1) := by decide +kernel
theorem dX10_passHour_100 : decode cX10_passHour 100 = .ok (.iadd, 1) := by decide +kernel
theorem dX10_passHour_101 : decode cX10_passHour 101 = .ok (.iaload, 1) := by decide +kernel
theorem dX10_passHour_102 : decode cX10_passHour 102 = .ok (.imul, 1) := by decide +kernel
theorem dX10_passHour_103 : decode cX10_passHour 103 = .ok (.aload_n 0, 1) := by decide +kernel
theorem dX10_passHour_104 : decode cX10_passHour 104 = .ok (.getfield 26, 3) := by decide +kernel
theorem dX10_passHour_107 : decode cX10_passHour 107 = .ok (.iconst 3, 1) := by decide +kernel
theorem dX10_passHour_108 : decode cX10_passHour 108 = .ok (.iload 5, 2) := by decide +kernel
theorem dX10_passHour_110 : decode cX10_passHour 110 = .ok (.imul, 1) := by decide +kernel
theorem dX10_passHour_111 : decode cX10_passHour 111 = .ok (.iconst 2, 1) := by decide +kernel
theorem dX10_passHour_112 : decode cX10_passHour 112 = .ok (.iadd, 1) := by decide +kernel
theorem dX10_passHour_113 : decode cX10_passHour 113 = .ok (.iaload, 1) := by decide +kernel
theorem dX10_passHour_114 : decode cX10_passHour 114 = .ok (.iadd, 1) := by decide +kernel
theorem dX10_passHour_115 : decode cX10_passHour 115 = .ok (.istore 6, 2) := by decide +kernel
theorem dX10_passHour_117 : decode cX10_passHour 117 = .ok (.aload_n 1, 1) := by decide +kernel
theorem dX10_passHour_118 : decode cX10_passHour 118 = .ok (.iload 6, 2) := by decide +kernel
theorem dX10_passHour_120 : decode cX10_passHour 120 = .ok (.aload_n 1, 1) := by decide +kernel
theorem dX10_passHour_121 : decode cX10_passHour 121 = .ok (.iload 6, 2) := by decide +kernel
theorem dX10_passHour_123 : decode cX10_passHour 123 = .ok (.iaload, 1) := by decide +kernel
theorem dX10_passHour_124 : decode cX10_passHour 124 = .ok (.iload 4, 2) := by decide +kernel
theorem dX10_passHour_126 : decode cX10_passHour 126 = .ok (.ior, 1) := by decide +kernel
theorem dX10_passHour_127 : decode cX10_passHour 127 = .ok (.iastore, 1) := by decide +kernel
theorem dX10_passHour_128 : decode cX10_passHour 128 = .ok (.aload_n 1, 1) := by decide +kernel
theorem dX10_passHour_129 : decode cX10_passHour 129 = .ok (.sipush 152, 3) := by decide +kernel
theorem dX10_passHour_132 : decode cX10_passHour 132 = .ok (.iload 5, 2) := by decide +kernel
theorem dX10_passHour_134 : decode cX10_passHour 134 = .ok (.iadd, 1) := by decide +kernel
theorem dX10_passHour_135 : decode cX10_passHour 135 = .ok (.dup2, 1) := by decide +kernel
theorem dX10_passHour_136 : decode cX10_passHour 136 = .ok (.iaload, 1) := by decide +kernel
theorem dX10_passHour_137 : decode cX10_passHour 137 = .ok (.iload 4, 2) := by decide +kernel
theorem dX10_passHour_139 : decode cX10_passHour 139 = .ok (.invokestatic 168, 3) := by decide +kernel
theorem dX10_passHour_142 : decode cX10_passHour 142 = .ok (.iadd, 1) := by decide +kernel
theorem dX10_passHour_143 : decode cX10_passHour 143 = .ok (.iastore, 1) := by decide +kernel
theorem dX10_passHour_144 : decode cX10_passHour 144 = .ok (.aload_n 1, 1) := by decide +kernel
theorem dX10_passHour_145 : decode cX10_passHour 145 = .ok (.sipush 162, 3) := by decide +kernel
theorem dX10_passHour_148 : decode cX10_passHour 148 = .ok (.iload 5, 2) := by decide +kernel
theorem dX10_passHour_150 : decode cX10_passHour 150 = .ok (.iadd, 1) := by decide +kernel
theorem dX10_passHour_151 : decode cX10_passHour 151 = .ok (.iaload, 1) := by decide +kernel
theorem dX10_passHour_152 : decode cX10_passHour 152 = .ok (.iconst (-1), 1) := by decide +kernel
theorem dX10_passHour_153 : decode cX10_passHour 153 = .ok (.if_icmp .eq 17, 3) := by decide +kernel
theorem dX10_passHour_156 : decode cX10_passHour 156 = .ok (.aload_n 1, 1) := by decide +kernel
theorem dX10_passHour_157 : decode cX10_passHour 157 = .ok (.aload_n 1, 1) := by decide +kernel
theorem dX10_passHour_158 : decode cX10_passHour 158 = .ok (.sipush 162, 3) := by decide +kernel
theorem dX10_passHour_161 : decode cX10_passHour 161 = .ok (.iload 5, 2) := by decide +kernel
theorem dX10_passHour_163 : decode cX10_passHour 163 = .ok (.iadd, 1) := by decide +kernel
theorem dX10_passHour_164 : decode cX10_passHour 164 = .ok (.iaload, 1) := by decide +kernel
theorem dX10_passHour_165 : decode cX10_passHour 165 = .ok (.iload 4, 2) := by decide +kernel
theorem dX10_passHour_167 : decode cX10_passHour 167 = .ok (.invokestatic 197, 3) := by decide +kernel
theorem dX10_passHour_170 : decode cX10_passHour 170 = .ok (.iinc 5 1, 3) := by decide +kernel
theorem dX10_passHour_173 : decode cX10_passHour 173 = .ok (.goto (-139), 3) := by decide +kernel
theorem dX10_passHour_176 : decode cX10_passHour 176 = .ok (.iinc 2 1, 3) := by decide +kernel
theorem dX10_passHour_179 : decode cX10_passHour 179 = .ok (.goto (-177), 3) := by decide +kernel
theorem dX10_passHour_182 : decode cX10_passHour 182 = .ok (.iconst 0, 1) := by decide +kernel
theorem dX10_passHour_183 : decode cX10_passHour 183 = .ok (.istore_n 2, 1) := by decide +kernel
theorem dX10_passHour_184 : decode cX10_passHour 184 = .ok (.iload_n 2, 1) := by decide +kernel
theorem dX10_passHour_185 : decode cX10_passHour 185 = .ok (.bipush 10, 2) := by decide +kernel
theorem dX10_passHour_187 : decode cX10_passHour 187 = .ok (.aload_n 0, 1) := by decide +kernel
theorem dX10_passHour_188 : decode cX10_passHour 188 = .ok (.getfield 80, 3) := by decide +kernel
theorem dX10_passHour_191 : decode cX10_passHour 191 = .ok (.imul, 1) := by decide +kernel
theorem dX10_passHour_192 : decode cX10_passHour 192 = .ok (.if_icmp .ge 30, 3) := by decide +kernel
theorem dX10_passHour_195 : decode cX10_passHour 195 = .ok (.aload_n 1, 1) := by decide +kernel
theorem dX10_passHour_196 : decode cX10_passHour 196 = .ok (.iload_n 2, 1) := by decide +kernel
theorem dX10_passHour_197 : decode cX10_passHour 197 = .ok (.iload_n 2, 1) := by decide +kernel
theorem dX10_passHour_198 : decode cX10_passHour 198 = .ok (.bipush 10, 2) := by decide +kernel
theorem dX10_passHour_200 : decode cX10_passHour 200 = .ok (.irem, 1) := by decide +kernel
theorem dX10_passHour_201 : decode cX10_passHour 201 = .ok (.bipush 9, 2) := by decide +kernel
theorem dX10_passHour_203 : decode cX10_passHour 203 = .ok (.if_icmp .ne 7, 3) := by decide +kernel
theorem dX10_passHour_206 : decode cX10_passHour 206 = .ok (.iconst 0, 1) := by decide +kernel
theorem dX10_passHour_207 : decode cX10_passHour 207 = .ok (.goto 8, 3) := by decide +kernel
theorem dX10_passHour_210 : decode cX10_passHour 210 = .ok (.aload_n 1, 1) := by decide +kernel
theorem dX10_passHour_211 : decode cX10_passHour 211 = .ok (.iload_n 2, 1) := by decide +kernel
theorem dX10_passHour_212 : decode cX10_passHour 212 = .ok (.iconst 1, 1) := by decide +kernel
theorem dX10_passHour_213 : decode cX10_passHour 213 = .ok (.iadd, 1) := by decide +kernel
theorem dX10_passHour_214 : decode cX10_passHour 214 = .ok (.iaload, 1) := by decide +kernel
theorem dX10_passHour_215 : decode cX10_passHour 215 = .ok (.iastore, 1) := by decide +kernel
theorem dX10_passHour_216 : decode cX10_passHour 216 = .ok (.iinc 2 1, 3) := by decide +kernel
theorem dX10_passHour_219 : decode cX10_passHour 219 = .ok (.goto (-35), 3) := by decide +kernel
theorem dX10_passHour_222 : decode cX10_passHour 222 = .ok (.aload_n 1, 1) := by decide +kernel
theorem dX10_passHour_223 : decode cX10_passHour 223 = .ok (.sipush 173, 3) := by decide +kernel
theorem dX10_passHour_226 : decode cX10_passHour 226 = .ok (.dup2, 1) := by decide +kernel
theorem dX10_passHour_227 : decode cX10_passHour 227 = .ok (.iaload, 1) := by decide +kernel
theorem dX10_passHour_228 : decode cX10_passHour 228 = .ok (.iconst 1, 1) := by decide +kernel
theorem dX10_passHour_229 : decode cX10_passHour 229 = .ok (.iadd, 1) := by decide +kernel
theorem dX10_passHour_230 : decode cX10_passHour 230 = .ok (.iastore, 1) := by decide +kernel
theorem dX10_passHour_231 : decode cX10_passHour 231 = .ok (.return_, 1) := by decide +kernel
theorem dX10_letIn_0 : decode cX10_letIn 0 = .ok (.iload_n 1, 1) := by decide +kernel
theorem dX10_letIn_1 : decode cX10_letIn 1 = .ok (.iconst 1, 1) := by decide +kernel
theorem dX10_letIn_2 : decode cX10_letIn 2 = .ok (.sipush 255, 3) := by decide +kernel
theorem dX10_letIn_5 : decode cX10_letIn 5 = .ok (.invokestatic 83, 3) := by decide +kernel
theorem dX10_letIn_8 : decode cX10_letIn 8 = .ok (.ifCond .ne 6, 3) := by decide +kernel
theorem dX10_letIn_11 : decode cX10_letIn 11 = .ok (.ldc 90, 2) := by decide +kernel
theorem dX10_letIn_13 : decode cX10_letIn 13 = .ok (.ireturn, 1) := by decide +kernel
theorem dX10_letIn_14 : decode cX10_letIn 14 = .ok (.aload_n 0, 1) := by decide +kernel
theorem dX10_letIn_15 : decode cX10_letIn 15 = .ok (.getfield 80, 3) := by decide +kernel
theorem dX10_letIn_18 : decode cX10_letIn 18 = .ok (.ifCond .ne 6, 3) := by decide +kernel
theorem dX10_letIn_21 : decode cX10_letIn 21 = .ok (.ldc 205, 2) := by decide +kernel
theorem dX10_letIn_23 : decode cX10_letIn 23 = .ok (.ireturn, 1) := by decide +kernel
theorem dX10_letIn_24 : decode cX10_letIn 24 = .ok (.aload_n 0, 1) := by decide +kernel
theorem dX10_letIn_25 : decode cX10_letIn 25 = .ok (.invokevirtual 206, 3) := by decide +kernel
theorem dX10_letIn_28 : decode cX10_letIn 28 = .ok (.aload_n 0, 1) := by decide +kernel
theorem dX10_letIn_29 : decode cX10_letIn 29 = .ok (.getfield 29, 3) := by decide +kernel
theorem dX10_letIn_32 : decode cX10_letIn 32 = .ok (.iconst 0, 1) := by decide +kernel
theorem dX10_letIn_33 : decode cX10_letIn 33 = .ok (.aload_n 0, 1) := by decide +kernel
theorem dX10_letIn_34 : decode cX10_letIn 34 = .ok (.getfield 29, 3) := by decide +kernel
theorem dX10_letIn_37 : decode cX10_letIn 37 = .ok (.iconst 0, 1) := by decide +kernel
theorem dX10_letIn_38 : decode cX10_letIn 38 = .ok (.iaload, 1) := by decide +kernel
theorem dX10_letIn_39 : decode cX10_letIn 39 = .ok (.iload_n 1, 1) := by decide +kernel
theorem dX10_letIn_40 : decode cX10_letIn 40 = .ok (.ior, 1) := by decide +kernel
theorem dX10_letIn_41 : decode cX10_letIn 41 = .ok (.iastore, 1) := by decide +kernel
theorem dX10_letIn_42 : decode cX10_letIn 42 = .ok (.aload_n 0, 1) := by decide +kernel
theorem dX10_letIn_43 : decode cX10_letIn 43 = .ok (.getfield 29, 3) := by decide +kernel
theorem dX10_letIn_46 : decode cX10_letIn 46 = .ok (.iconst 0, 1) := by decide +kernel
theorem dX10_letIn_47 : decode cX10_letIn 47 = .ok (.iaload, 1) := by decide +kernel
theorem dX10_letIn_48 : decode cX10_letIn 48 = .ok (.ireturn, 1) := by decide +kernel
theorem dX10_hour_0 : decode cX10_hour 0 = .ok (.iload_n 1, 1) := by decide +kernel
theorem dX10_hour_1 : decode cX10_hour 1 = .ok (.iconst 1, 1) := by decide +kernel
theorem dX10_hour_2 : decode cX10_hour 2 = .ok (.bipush 60, 2) := by decide +kernel
theorem dX10_hour_4 : decode cX10_hour 4 = .ok (.invokestatic 83, 3) := by decide +kernel
theorem dX10_hour_7 : decode cX10_hour 7 = .ok (.ifCond .ne 6, 3) := by decide +kernel
theorem dX10_hour_10 : decode cX10_hour 10 = .ok (.ldc 90, 2) := by decide +kernel
theorem dX10_hour_12 : decode cX10_hour 12 = .ok (.ireturn, 1) := by decide +kernel
theorem dX10_hour_13 : decode cX10_hour 13 = .ok (.aload_n 0, 1) := by decide +kernel
theorem dX10_hour_14 : decode cX10_hour 14 = .ok (.getfield 80, 3) := by decide +kernel
theorem dX10_hour_17 : decode cX10_hour 17 = .ok (.ifCond .ne 6, 3) := by decide +kernel
theorem dX10_hour_20 : decode cX10_hour 20 = .ok (.ldc 205, 2) := by decide +kernel
theorem dX10_hour_22 : decode cX10_hour 22 = .ok (.ireturn, 1) := by decide +kernel
theorem dX10_hour_23 : decode cX10_hour 23 = .ok (.aload_n 0, 1) := by decide +kernel
theorem dX10_hour_24 : decode cX10_hour 24 = .ok (.getfield 29, 3) := by decide +kernel
theorem dX10_hour_27 : decode cX10_hour 27 = .ok (.sipush 173, 3) := by decide +kernel
theorem dX10_hour_30 : decode cX10_hour 30 = .ok (.iaload, 1) := by decide +kernel
theorem dX10_hour_31 : decode cX10_hour 31 = .ok (.sipush 9000, 3) := by decide +kernel
theorem dX10_hour_34 : decode cX10_hour 34 = .ok (.if_icmp .le 6, 3) := by decide +kernel
theorem dX10_hour_37 : decode cX10_hour 37 = .ok (.ldc 94, 2) := by decide +kernel
theorem dX10_hour_39 : decode cX10_hour 39 = .ok (.ireturn, 1) := by decide +kernel
theorem dX10_hour_40 : decode cX10_hour 40 = .ok (.aload_n 0, 1) := by decide +kernel
theorem dX10_hour_41 : decode cX10_hour 41 = .ok (.invokevirtual 206, 3) := by decide +kernel
theorem dX10_hour_44 : decode cX10_hour 44 = .ok (.iconst 0, 1) := by decide +kernel
theorem dX10_hour_45 : decode cX10_hour 45 = .ok (.istore_n 2, 1) := by decide +kernel
theorem dX10_hour_46 : decode cX10_hour 46 = .ok (.iload_n 2, 1) := by decide +kernel
theorem dX10_hour_47 : decode cX10_hour 47 = .ok (.iload_n 1, 1) := by decide +kernel
theorem dX10_hour_48 : decode cX10_hour 48 = .ok (.if_icmp .ge 17, 3) := by decide +kernel
theorem dX10_hour_51 : decode cX10_hour 51 = .ok (.aload_n 0, 1) := by decide +kernel
theorem dX10_hour_52 : decode cX10_hour 52 = .ok (.aload_n 0, 1) := by decide +kernel
theorem dX10_hour_53 : decode cX10_hour 53 = .ok (.getfield 29, 3) := by decide +kernel
theorem dX10_hour_56 : decode cX10_hour 56 = .ok (.invokevirtual 209, 3) := by decide +kernel
theorem dX10_hour_59 : decode cX10_hour 59 = .ok (.iinc 2 1, 3) := by decide +kernel
theorem dX10_hour_62 : decode cX10_hour 62 = .ok (.goto (-16), 3) := by decide +kernel
theorem dX10_hour_65 : decode cX10_hour 65 = .ok (.aload_n 0, 1) := by decide +kernel
theorem dX10_hour_66 : decode cX10_hour 66 = .ok (.getfield 29, 3) := by decide +kernel
theorem dX10_hour_69 : decode cX10_hour 69 = .ok (.sipush 173, 3) := by decide +kernel
theorem dX10_hour_72 : decode cX10_hour 72 = .ok (.iaload, 1) := by decide +kernel
theorem dX10_hour_73 : decode cX10_hour 73 = .ok (.ireturn, 1) := by decide +kernel
theorem dX10_gate_0 : decode cX10_gate 0 = .ok (.aload_n 0, 1) := by decide +kernel
theorem dX10_gate_1 : decode cX10_gate 1 = .ok (.iload_n 1, 1) := by decide +kernel
theorem dX10_gate_2 : decode cX10_gate 2 = .ok (.invokevirtual 184, 3) := by decide +kernel
theorem dX10_gate_5 : decode cX10_gate 5 = .ok (.ifCond .ne 6, 3) := by decide +kernel
theorem dX10_gate_8 : decode cX10_gate 8 = .ok (.ldc 183, 2) := by decide +kernel
theorem dX10_gate_10 : decode cX10_gate 10 = .ok (.ireturn, 1) := by decide +kernel
theorem dX10_gate_11 : decode cX10_gate 11 = .ok (.aload_n 0, 1) := by decide +kernel
theorem dX10_gate_12 : decode cX10_gate 12 = .ok (.invokevirtual 206, 3) := by decide +kernel
theorem dX10_gate_15 : decode cX10_gate 15 = .ok (.aload_n 0, 1) := by decide +kernel
theorem dX10_gate_16 : decode cX10_gate 16 = .ok (.getfield 29, 3) := by decide +kernel
theorem dX10_gate_19 : decode cX10_gate 19 = .ok (.sipush 172, 3) := by decide +kernel
theorem dX10_gate_22 : decode cX10_gate 22 = .ok (.iaload, 1) := by decide +kernel
theorem dX10_gate_23 : decode cX10_gate 23 = .ok (.iload_n 1, 1) := by decide +kernel
theorem dX10_gate_24 : decode cX10_gate 24 = .ok (.ishr, 1) := by decide +kernel
theorem dX10_gate_25 : decode cX10_gate 25 = .ok (.iconst 1, 1) := by decide +kernel
theorem dX10_gate_26 : decode cX10_gate 26 = .ok (.iand, 1) := by decide +kernel
theorem dX10_gate_27 : decode cX10_gate 27 = .ok (.istore_n 3, 1) := by decide +kernel
theorem dX10_gate_28 : decode cX10_gate 28 = .ok (.aload_n 0, 1) := by decide +kernel
theorem dX10_gate_29 : decode cX10_gate 29 = .ok (.getfield 29, 3) := by decide +kernel
theorem dX10_gate_32 : decode cX10_gate 32 = .ok (.sipush 172, 3) := by decide +kernel
theorem dX10_gate_35 : decode cX10_gate 35 = .ok (.iload_n 2, 1) := by decide +kernel
theorem dX10_gate_36 : decode cX10_gate 36 = .ok (.ifCond .eq 18, 3) := by decide +kernel
theorem dX10_gate_39 : decode cX10_gate 39 = .ok (.aload_n 0, 1) := by decide +kernel
theorem dX10_gate_40 : decode cX10_gate 40 = .ok (.getfield 29, 3) := by decide +kernel
theorem dX10_gate_43 : decode cX10_gate 43 = .ok (.sipush 172, 3) := by decide +kernel
theorem dX10_gate_46 : decode cX10_gate 46 = .ok (.iaload, 1) := by decide +kernel
theorem dX10_gate_47 : decode cX10_gate 47 = .ok (.iconst 1, 1) := by decide +kernel
theorem dX10_gate_48 : decode cX10_gate 48 = .ok (.iload_n 1, 1) := by decide +kernel
theorem dX10_gate_49 : decode cX10_gate 49 = .ok (.ishl, 1) := by decide +kernel
theorem dX10_gate_50 : decode cX10_gate 50 = .ok (.ior, 1) := by decide +kernel
theorem dX10_gate_51 : decode cX10_gate 51 = .ok (.goto 17, 3) := by decide +kernel
theorem dX10_gate_54 : decode cX10_gate 54 = .ok (.aload_n 0, 1) := by decide +kernel
theorem dX10_gate_55 : decode cX10_gate 55 = .ok (.getfield 29, 3) := by decide +kernel
theorem dX10_gate_58 : decode cX10_gate 58 = .ok (.sipush 172, 3) := by decide +kernel
theorem dX10_gate_61 : decode cX10_gate 61 = .ok (.iaload, 1) := by decide +kernel
theorem dX10_gate_62 : decode cX10_gate 62 = .ok (.iconst 1, 1) := by decide +kernel
theorem dX10_gate_63 : decode cX10_gate 63 = .ok (.iload_n 1, 1) := by decide +kernel
theorem dX10_gate_64 : decode cX10_gate 64 = .ok (.ishl, 1) := by decide +kernel
theorem dX10_gate_65 : decode cX10_gate 65 = .ok (.iconst (-1), 1) := by decide +kernel
theorem dX10_gate_66 : decode cX10_gate 66 = .ok (.ixor, 1) := by decide +kernel
theorem dX10_gate_67 : decode cX10_gate 67 = .ok (.iand, 1) := by decide +kernel
theorem dX10_gate_68 : decode cX10_gate 68 = .ok (.iastore, 1) := by decide +kernel
theorem dX10_gate_69 : decode cX10_gate 69 = .ok (.iload_n 3, 1) := by decide +kernel
theorem dX10_gate_70 : decode cX10_gate 70 = .ok (.ireturn, 1) := by decide +kernel
theorem dX10_clear_0 : decode cX10_clear 0 = .ok (.aload_n 0, 1) := by decide +kernel
theorem dX10_clear_1 : decode cX10_clear 1 = .ok (.iload_n 1, 1) := by decide +kernel
theorem dX10_clear_2 : decode cX10_clear 2 = .ok (.invokevirtual 184, 3) := by decide +kernel
theorem dX10_clear_5 : decode cX10_clear 5 = .ok (.ifCond .ne 6, 3) := by decide +kernel
theorem dX10_clear_8 : decode cX10_clear 8 = .ok (.ldc 183, 2) := by decide +kernel
theorem dX10_clear_10 : decode cX10_clear 10 = .ok (.ireturn, 1) := by decide +kernel
theorem dX10_clear_11 : decode cX10_clear 11 = .ok (.aload_n 0, 1) := by decide +kernel
theorem dX10_clear_12 : decode cX10_clear 12 = .ok (.invokevirtual 206, 3) := by decide +kernel
theorem dX10_clear_15 : decode cX10_clear 15 = .ok (.aload_n 0, 1) := by decide +kernel
theorem dX10_clear_16 : decode cX10_clear 16 = .ok (.getfield 29, 3) := by decide +kernel
theorem dX10_clear_19 : decode cX10_clear 19 = .ok (.sipush 152, 3) := by decide +kernel
theorem dX10_clear_22 : decode cX10_clear 22 = .ok (.iload_n 1, 1) := by decide +kernel
theorem dX10_clear_23 : decode cX10_clear 23 = .ok (.iadd, 1) := by decide +kernel
theorem dX10_clear_24 : decode cX10_clear 24 = .ok (.iaload, 1) := by decide +kernel
theorem dX10_clear_25 : decode cX10_clear 25 = .ok (.istore_n 2, 1) := by decide +kernel
theorem dX10_clear_26 : decode cX10_clear 26 = .ok (.aload_n 0, 1) := by decide +kernel
theorem dX10_clear_27 : decode cX10_clear 27 = .ok (.getfield 29, 3) := by decide +kernel
theorem dX10_clear_30 : decode cX10_clear 30 = .ok (.sipush 152, 3) := by decide +kernel
theorem dX10_clear_33 : decode cX10_clear 33 = .ok (.iload_n 1, 1) := by decide +kernel
theorem dX10_clear_34 : decode cX10_clear 34 = .ok (.iadd, 1) := by decide +kernel
theorem dX10_clear_35 : decode cX10_clear 35 = .ok (.iconst 0, 1) := by decide +kernel
theorem dX10_clear_36 : decode cX10_clear 36 = .ok (.iastore, 1) := by decide +kernel
theorem dX10_clear_37 : decode cX10_clear 37 = .ok (.iload_n 2, 1) := by decide +kernel
theorem dX10_clear_38 : decode cX10_clear 38 = .ok (.ireturn, 1) := by decide +kernel
theorem dX10_crack_0 : decode cX10_crack 0 = .ok (.aload_n 0, 1) := by decide +kernel
theorem dX10_crack_1 : decode cX10_crack 1 = .ok (.iload_n 1, 1) := by decide +kernel
theorem dX10_crack_2 : decode cX10_crack 2 = .ok (.invokevirtual 184, 3) := by decide +kernel
theorem dX10_crack_5 : decode cX10_crack 5 = .ok (.ifCond .eq 16, 3) := by decide +kernel
theorem dX10_crack_8 : decode cX10_crack 8 = .ok (.iload_n 2, 1) := by decide +kernel
theorem dX10_crack_9 : decode cX10_crack 9 = .ok (.iconst (-1), 1) := by decide +kernel
theorem dX10_crack_10 : decode cX10_crack 10 = .ok (.if_icmp .eq 14, 3) := by decide +kernel
theorem dX10_crack_13 : decode cX10_crack 13 = .ok (.aload_n 0, 1) := by decide +kernel
theorem dX10_crack_14 : decode cX10_crack 14 = .ok (.iload_n 2, 1) := by decide +kernel
theorem dX10_crack_15 : decode cX10_crack 15 = .ok (.invokevirtual 180, 3) := by decide +kernel
theorem dX10_crack_18 : decode cX10_crack 18 = .ok (.ifCond .ne 6, 3) := by decide +kernel
theorem dX10_crack_21 : decode cX10_crack 21 = .ok (.ldc 183, 2) := by decide +kernel
theorem dX10_crack_23 : decode cX10_crack 23 = .ok (.ireturn, 1) := by decide +kernel
theorem dX10_crack_24 : decode cX10_crack 24 = .ok (.aload_n 0, 1) := by decide +kernel
theorem dX10_crack_25 : decode cX10_crack 25 = .ok (.invokevirtual 206, 3) := by decide +kernel
theorem dX10_crack_28 : decode cX10_crack 28 = .ok (.aload_n 0, 1) := by decide +kernel
theorem dX10_crack_29 : decode cX10_crack 29 = .ok (.getfield 29, 3) := by decide +kernel
theorem dX10_crack_32 : decode cX10_crack 32 = .ok (.sipush 162, 3) := by decide +kernel
theorem dX10_crack_35 : decode cX10_crack 35 = .ok (.iload_n 1, 1) := by decide +kernel
theorem dX10_crack_36 : decode cX10_crack 36 = .ok (.iadd, 1) := by decide +kernel
theorem dX10_crack_37 : decode cX10_crack 37 = .ok (.iaload, 1) := by decide +kernel
theorem dX10_crack_38 : decode cX10_crack 38 = .ok (.istore_n 3, 1) := by decide +kernel
theorem dX10_crack_39 : decode cX10_crack 39 = .ok (.aload_n 0, 1) := by decide +kernel
theorem dX10_crack_40 : decode cX10_crack 40 = .ok (.getfield 29, 3) := by decide +kernel
theorem dX10_crack_43 : decode cX10_crack 43 = .ok (.sipush 162, 3) := by decide +kernel
theorem dX10_crack_46 : decode cX10_crack 46 = .ok (.iload_n 1, 1) := by decide +kernel
theorem dX10_crack_47 : decode cX10_crack 47 = .ok (.iadd, 1) := by decide +kernel
theorem dX10_crack_48 : decode cX10_crack 48 = .ok (.iload_n 2, 1) := by decide +kernel
theorem dX10_crack_49 : decode cX10_crack 49 = .ok (.iastore, 1) := by decide +kernel
theorem dX10_crack_50 : decode cX10_crack 50 = .ok (.iload_n 3, 1) := by decide +kernel
theorem dX10_crack_51 : decode cX10_crack 51 = .ok (.ireturn, 1) := by decide +kernel
theorem dX10_empty_0 : decode cX10_empty 0 = .ok (.aload_n 0, 1) := by decide +kernel
theorem dX10_empty_1 : decode cX10_empty 1 = .ok (.invokevirtual 206, 3) := by decide +kernel
theorem dX10_empty_4 : decode cX10_empty 4 = .ok (.aload_n 0, 1) := by decide +kernel
theorem dX10_empty_5 : decode cX10_empty 5 = .ok (.invokevirtual 176, 3) := by decide +kernel
theorem dX10_empty_8 : decode cX10_empty 8 = .ok (.istore_n 1, 1) := by decide +kernel
theorem dX10_empty_9 : decode cX10_empty 9 = .ok (.aload_n 0, 1) := by decide +kernel
theorem dX10_empty_10 : decode cX10_empty 10 = .ok (.getfield 29, 3) := by decide +kernel
theorem dX10_empty_13 : decode cX10_empty 13 = .ok (.invokestatic 73, 3) := by decide +kernel
theorem dX10_empty_16 : decode cX10_empty 16 = .ok (.iload_n 1, 1) := by decide +kernel
theorem dX10_empty_17 : decode cX10_empty 17 = .ok (.ireturn, 1) := by decide +kernel
theorem dX10_draw_0 : decode cX10_draw 0 = .ok (.aload_n 0, 1) := by decide +kernel
theorem dX10_draw_1 : decode cX10_draw 1 = .ok (.aload_n 0, 1) := by decide +kernel
theorem dX10_draw_2 : decode cX10_draw 2 = .ok (.getfield 212, 3) := by decide +kernel
theorem dX10_draw_5 : decode cX10_draw 5 = .ok (.i2l, 1) := by decide +kernel
theorem dX10_draw_6 : decode cX10_draw 6 = .ok (.ldc2_w 215, 3) := by decide +kernel
theorem dX10_draw_9 : decode cX10_draw 9 = .ok (.lmul, 1) := by decide +kernel
theorem dX10_draw_10 : decode cX10_draw 10 = .ok (.ldc2_w 217, 3) := by decide +kernel
theorem dX10_draw_13 : decode cX10_draw 13 = .ok (.ladd, 1) := by decide +kernel
theorem dX10_draw_14 : decode cX10_draw 14 = .ok (.ldc2_w 219, 3) := by decide +kernel
theorem dX10_draw_17 : decode cX10_draw 17 = .ok (.lrem, 1) := by decide +kernel
theorem dX10_draw_18 : decode cX10_draw 18 = .ok (.l2i, 1) := by decide +kernel
theorem dX10_draw_19 : decode cX10_draw 19 = .ok (.putfield 212, 3) := by decide +kernel
theorem dX10_draw_22 : decode cX10_draw 22 = .ok (.aload_n 0, 1) := by decide +kernel
theorem dX10_draw_23 : decode cX10_draw 23 = .ok (.getfield 212, 3) := by decide +kernel
theorem dX10_draw_26 : decode cX10_draw 26 = .ok (.ldc 221, 2) := by decide +kernel
theorem dX10_draw_28 : decode cX10_draw 28 = .ok (.idiv, 1) := by decide +kernel
theorem dX10_draw_29 : decode cX10_draw 29 = .ok (.iload_n 1, 1) := by decide +kernel
theorem dX10_draw_30 : decode cX10_draw 30 = .ok (.irem, 1) := by decide +kernel
theorem dX10_draw_31 : decode cX10_draw 31 = .ok (.ireturn, 1) := by decide +kernel
theorem dX10_drift_0 : decode cX10_drift 0 = .ok (.iload_n 1, 1) := by decide +kernel
theorem dX10_drift_1 : decode cX10_drift 1 = .ok (.iconst 1, 1) := by decide +kernel
theorem dX10_drift_2 : decode cX10_drift 2 = .ok (.bipush 60, 2) := by decide +kernel
theorem dX10_drift_4 : decode cX10_drift 4 = .ok (.invokestatic 83, 3) := by decide +kernel
theorem dX10_drift_7 : decode cX10_drift 7 = .ok (.ifCond .ne 6, 3) := by decide +kernel
theorem dX10_drift_10 : decode cX10_drift 10 = .ok (.ldc 90, 2) := by decide +kernel
theorem dX10_drift_12 : decode cX10_drift 12 = .ok (.ireturn, 1) := by decide +kernel
theorem dX10_drift_13 : decode cX10_drift 13 = .ok (.aload_n 0, 1) := by decide +kernel
theorem dX10_drift_14 : decode cX10_drift 14 = .ok (.getfield 80, 3) := by decide +kernel
theorem dX10_drift_17 : decode cX10_drift 17 = .ok (.ifCond .ne 6, 3) := by decide +kernel
theorem dX10_drift_20 : decode cX10_drift 20 = .ok (.ldc 205, 2) := by decide +kernel
theorem dX10_drift_22 : decode cX10_drift 22 = .ok (.ireturn, 1) := by decide +kernel
theorem dX10_drift_23 : decode cX10_drift 23 = .ok (.aload_n 0, 1) := by decide +kernel
theorem dX10_drift_24 : decode cX10_drift 24 = .ok (.getfield 29, 3) := by decide +kernel
theorem dX10_drift_27 : decode cX10_drift 27 = .ok (.sipush 173, 3) := by decide +kernel
theorem dX10_drift_30 : decode cX10_drift 30 = .ok (.iaload, 1) := by decide +kernel
theorem dX10_drift_31 : decode cX10_drift 31 = .ok (.sipush 9000, 3) := by decide +kernel
theorem dX10_drift_34 : decode cX10_drift 34 = .ok (.if_icmp .le 6, 3) := by decide +kernel
theorem dX10_drift_37 : decode cX10_drift 37 = .ok (.ldc 94, 2) := by decide +kernel
theorem dX10_drift_39 : decode cX10_drift 39 = .ok (.ireturn, 1) := by decide +kernel
theorem dX10_drift_40 : decode cX10_drift 40 = .ok (.aload_n 0, 1) := by decide +kernel
theorem dX10_drift_41 : decode cX10_drift 41 = .ok (.invokevirtual 206, 3) := by decide +kernel
theorem dX10_drift_44 : decode cX10_drift 44 = .ok (.iconst 0, 1) := by decide +kernel
theorem dX10_drift_45 : decode cX10_drift 45 = .ok (.istore_n 2, 1) := by decide +kernel
theorem dX10_drift_46 : decode cX10_drift 46 = .ok (.iload_n 2, 1) := by decide +kernel
theorem dX10_drift_47 : decode cX10_drift 47 = .ok (.iload_n 1, 1) := by decide +kernel
theorem dX10_drift_48 : decode cX10_drift 48 = .ok (.if_icmp .ge 46, 3) := by decide +kernel
theorem dX10_drift_51 : decode cX10_drift 51 = .ok (.aload_n 0, 1) := by decide +kernel
theorem dX10_drift_52 : decode cX10_drift 52 = .ok (.iconst 3, 1) := by decide +kernel
theorem dX10_drift_53 : decode cX10_drift 53 = .ok (.invokevirtual 222, 3) := by decide +kernel
theorem dX10_drift_56 : decode cX10_drift 56 = .ok (.ifCond .ne 24, 3) := by decide +kernel
theorem dX10_drift_59 : decode cX10_drift 59 = .ok (.aload_n 0, 1) := by decide +kernel
theorem dX10_drift_60 : decode cX10_drift 60 = .ok (.getfield 29, 3) := by decide +kernel
theorem dX10_drift_63 : decode cX10_drift 63 = .ok (.iconst 0, 1) := by decide +kernel
theorem dX10_drift_64 : decode cX10_drift 64 = .ok (.aload_n 0, 1) := by decide +kernel
theorem dX10_drift_65 : decode cX10_drift 65 = .ok (.getfield 29, 3) := by decide +kernel
theorem dX10_drift_68 : decode cX10_drift 68 = .ok (.iconst 0, 1) := by decide +kernel
theorem dX10_drift_69 : decode cX10_drift 69 = .ok (.iaload, 1) := by decide +kernel
theorem dX10_drift_70 : decode cX10_drift 70 = .ok (.iconst 1, 1) := by decide +kernel
theorem dX10_drift_71 : decode cX10_drift 71 = .ok (.aload_n 0, 1) := by decide +kernel
theorem dX10_drift_72 : decode cX10_drift 72 = .ok (.bipush 8, 2) := by decide +kernel
theorem dX10_drift_74 : decode cX10_drift 74 = .ok (.invokevirtual 222, 3) := by decide +kernel
theorem dX10_drift_77 : decode cX10_drift 77 = .ok (.ishl, 1) := by decide +kernel
theorem dX10_drift_78 : decode cX10_drift 78 = .ok (.ior, 1) := by decide +kernel
theorem dX10_drift_79 : decode cX10_drift 79 = .ok (.iastore, 1) := by decide +kernel
theorem dX10_drift_80 : decode cX10_drift 80 = .ok (.aload_n 0, 1) := by decide +kernel
theorem dX10_drift_81 : decode cX10_drift 81 = .ok (.aload_n 0, 1) := by decide +kernel
theorem dX10_drift_82 : decode cX10_drift 82 = .ok (.getfield 29, 3) := by decide +kernel
theorem dX10_drift_85 : decode cX10_drift 85 = .ok (.invokevirtual 209, 3) := by decide +kernel
theorem dX10_drift_88 : decode cX10_drift 88 = .ok (.iinc 2 1, 3) := by decide +kernel
theorem dX10_drift_91 : decode cX10_drift 91 = .ok (.goto (-45), 3) := by decide +kernel
theorem dX10_drift_94 : decode cX10_drift 94 = .ok (.aload_n 0, 1) := by decide +kernel
theorem dX10_drift_95 : decode cX10_drift 95 = .ok (.getfield 29, 3) := by decide +kernel
theorem dX10_drift_98 : decode cX10_drift 98 = .ok (.sipush 173, 3) := by decide +kernel
theorem dX10_drift_101 : decode cX10_drift 101 = .ok (.iaload, 1) := by decide +kernel
theorem dX10_drift_102 : decode cX10_drift 102 = .ok (.ireturn, 1) := by decide +kernel
theorem dX10_undo_0 : decode cX10_undo 0 = .ok (.aload_n 0, 1) := by decide +kernel
theorem dX10_undo_1 : decode cX10_undo 1 = .ok (.getfield 165, 3) := by decide +kernel
theorem dX10_undo_4 : decode cX10_undo 4 = .ok (.ifCond .ne 6, 3) := by decide +kernel
theorem dX10_undo_7 : decode cX10_undo 7 = .ok (.ldc 205, 2) := by decide +kernel
theorem dX10_undo_9 : decode cX10_undo 9 = .ok (.ireturn, 1) := by decide +kernel
theorem dX10_undo_10 : decode cX10_undo 10 = .ok (.aload_n 0, 1) := by decide +kernel
theorem dX10_undo_11 : decode cX10_undo 11 = .ok (.dup, 1) := by decide +kernel
theorem dX10_undo_12 : decode cX10_undo 12 = .ok (.getfield 165, 3) := by decide +kernel
theorem dX10_undo_15 : decode cX10_undo 15 = .ok (.iconst 1, 1) := by decide +kernel
theorem dX10_undo_16 : decode cX10_undo 16 = .ok (.isub, 1) := by decide +kernel
theorem dX10_undo_17 : decode cX10_undo 17 = .ok (.putfield 165, 3) := by decide +kernel
theorem dX10_undo_20 : decode cX10_undo 20 = .ok (.aload_n 0, 1) := by decide +kernel
theorem dX10_undo_21 : decode cX10_undo 21 = .ok (.getfield 35, 3) := by decide +kernel
theorem dX10_undo_24 : decode cX10_undo 24 = .ok (.sipush 174, 3) := by decide +kernel
theorem dX10_undo_27 : decode cX10_undo 27 = .ok (.aload_n 0, 1) := by decide +kernel
theorem dX10_undo_28 : decode cX10_undo 28 = .ok (.getfield 165, 3) := by decide +kernel
theorem dX10_undo_31 : decode cX10_undo 31 = .ok (.imul, 1) := by decide +kernel
theorem dX10_undo_32 : decode cX10_undo 32 = .ok (.aload_n 0, 1) := by decide +kernel
theorem dX10_undo_33 : decode cX10_undo 33 = .ok (.getfield 29, 3) := by decide +kernel
theorem dX10_undo_36 : decode cX10_undo 36 = .ok (.iconst 0, 1) := by decide +kernel
theorem dX10_undo_37 : decode cX10_undo 37 = .ok (.invokestatic 190, 3) := by decide +kernel
theorem dX10_undo_40 : decode cX10_undo 40 = .ok (.aload_n 0, 1) := by decide +kernel
theorem dX10_undo_41 : decode cX10_undo 41 = .ok (.getfield 165, 3) := by decide +kernel
theorem dX10_undo_44 : decode cX10_undo 44 = .ok (.ireturn, 1) := by decide +kernel
theorem dX10_layTried_0 : decode cX10_layTried 0 = .ok (.aload_n 0, 1) := by decide +kernel
theorem dX10_layTried_1 : decode cX10_layTried 1 = .ok (.getfield 29, 3) := by decide +kernel
theorem dX10_layTried_4 : decode cX10_layTried 4 = .ok (.iconst 0, 1) := by decide +kernel
theorem dX10_layTried_5 : decode cX10_layTried 5 = .ok (.aload_n 0, 1) := by decide +kernel
theorem dX10_layTried_6 : decode cX10_layTried 6 = .ok (.getfield 32, 3) := by decide +kernel
theorem dX10_layTried_9 : decode cX10_layTried 9 = .ok (.iconst 0, 1) := by decide +kernel
theorem dX10_layTried_10 : decode cX10_layTried 10 = .ok (.invokestatic 190, 3) := by decide +kernel
theorem dX10_layTried_13 : decode cX10_layTried 13 = .ok (.aload_n 0, 1) := by decide +kernel
theorem dX10_layTried_14 : decode cX10_layTried 14 = .ok (.getfield 32, 3) := by decide +kernel
theorem dX10_layTried_17 : decode cX10_layTried 17 = .ok (.invokestatic 73, 3) := by decide +kernel
theorem dX10_layTried_20 : decode cX10_layTried 20 = .ok (.aload_n 0, 1) := by decide +kernel
theorem dX10_layTried_21 : decode cX10_layTried 21 = .ok (.getfield 32, 3) := by decide +kernel
theorem dX10_layTried_24 : decode cX10_layTried 24 = .ok (.sipush 173, 3) := by decide +kernel
theorem dX10_layTried_27 : decode cX10_layTried 27 = .ok (.iconst 0, 1) := by decide +kernel
theorem dX10_layTried_28 : decode cX10_layTried 28 = .ok (.iastore, 1) := by decide +kernel
theorem dX10_layTried_29 : decode cX10_layTried 29 = .ok (.aload_n 0, 1) := by decide +kernel
theorem dX10_layTried_30 : decode cX10_layTried 30 = .ok (.getfield 32, 3) := by decide +kernel
theorem dX10_layTried_33 : decode cX10_layTried 33 = .ok (.iconst 0, 1) := by decide +kernel
theorem dX10_layTried_34 : decode cX10_layTried 34 = .ok (.iload_n 1, 1) := by decide +kernel
theorem dX10_layTried_35 : decode cX10_layTried 35 = .ok (.iastore, 1) := by decide +kernel
theorem dX10_layTried_36 : decode cX10_layTried 36 = .ok (.iconst 0, 1) := by decide +kernel
theorem dX10_layTried_37 : decode cX10_layTried 37 = .ok (.istore_n 2, 1) := by decide +kernel
theorem dX10_layTried_38 : decode cX10_layTried 38 = .ok (.iload_n 2, 1) := by decide +kernel
theorem dX10_layTried_39 : decode cX10_layTried 39 = .ok (.bipush 60, 2) := by decide +kernel
theorem dX10_layTried_41 : decode cX10_layTried 41 = .ok (.if_icmp .gt 17, 3) := by decide +kernel
theorem dX10_layTried_44 : decode cX10_layTried 44 = .ok (.aload_n 0, 1) := by decide +kernel
theorem dX10_layTried_45 : decode cX10_layTried 45 = .ok (.aload_n 0, 1) := by decide +kernel
theorem dX10_layTried_46 : decode cX10_layTried 46 = .ok (.getfield 32, 3) := by decide +kernel
theorem dX10_layTried_49 : decode cX10_layTried 49 = .ok (.invokevirtual 209, 3) := by decide +kernel
theorem dX10_layTried_52 : decode cX10_layTried 52 = .ok (.iinc 2 1, 3) := by decide +kernel
theorem dX10_layTried_55 : decode cX10_layTried 55 = .ok (.goto (-17), 3) := by decide +kernel
theorem dX10_layTried_58 : decode cX10_layTried 58 = .ok (.return_, 1) := by decide +kernel
theorem dX10_hears_0 : decode cX10_hears 0 = .ok (.aload_n 0, 1) := by decide +kernel
theorem dX10_hears_1 : decode cX10_hears 1 = .ok (.iload_n 2, 1) := by decide +kernel
theorem dX10_hears_2 : decode cX10_hears 2 = .ok (.invokevirtual 180, 3) := by decide +kernel
theorem dX10_hears_5 : decode cX10_hears 5 = .ok (.ifCond .ne 6, 3) := by decide +kernel
theorem dX10_hears_8 : decode cX10_hears 8 = .ok (.ldc 183, 2) := by decide +kernel
theorem dX10_hears_10 : decode cX10_hears 10 = .ok (.ireturn, 1) := by decide +kernel
theorem dX10_hears_11 : decode cX10_hears 11 = .ok (.iload_n 1, 1) := by decide +kernel
theorem dX10_hears_12 : decode cX10_hears 12 = .ok (.iconst 0, 1) := by decide +kernel
theorem dX10_hears_13 : decode cX10_hears 13 = .ok (.sipush 255, 3) := by decide +kernel
theorem dX10_hears_16 : decode cX10_hears 16 = .ok (.invokestatic 83, 3) := by decide +kernel
theorem dX10_hears_19 : decode cX10_hears 19 = .ok (.ifCond .ne 6, 3) := by decide +kernel
theorem dX10_hears_22 : decode cX10_hears 22 = .ok (.ldc 90, 2) := by decide +kernel
theorem dX10_hears_24 : decode cX10_hears 24 = .ok (.ireturn, 1) := by decide +kernel
theorem dX10_hears_25 : decode cX10_hears 25 = .ok (.aload_n 0, 1) := by decide +kernel
theorem dX10_hears_26 : decode cX10_hears 26 = .ok (.iload_n 1, 1) := by decide +kernel
theorem dX10_hears_27 : decode cX10_hears 27 = .ok (.invokevirtual 225, 3) := by decide +kernel
theorem dX10_hears_30 : decode cX10_hears 30 = .ok (.aload_n 0, 1) := by decide +kernel
theorem dX10_hears_31 : decode cX10_hears 31 = .ok (.getfield 32, 3) := by decide +kernel
theorem dX10_hears_34 : decode cX10_hears 34 = .ok (.bipush 80, 2) := by decide +kernel
theorem dX10_hears_36 : decode cX10_hears 36 = .ok (.iload_n 2, 1) := by decide +kernel
theorem dX10_hears_37 : decode cX10_hears 37 = .ok (.iadd, 1) := by decide +kernel
theorem dX10_hears_38 : decode cX10_hears 38 = .ok (.iaload, 1) := by decide +kernel
theorem dX10_hears_39 : decode cX10_hears 39 = .ok (.ireturn, 1) := by decide +kernel
theorem dX10_soonest_0 : decode cX10_soonest 0 = .ok (.aload_n 0, 1) := by decide +kernel
theorem dX10_soonest_1 : decode cX10_soonest 1 = .ok (.iload_n 2, 1) := by decide +kernel
theorem dX10_soonest_2 : decode cX10_soonest 2 = .ok (.invokevirtual 180, 3) := by decide +kernel
theorem dX10_soonest_5 : decode cX10_soonest 5 = .ok (.ifCond .ne 6, 3) := by decide +kernel
theorem dX10_soonest_8 : decode cX10_soonest 8 = .ok (.ldc 183, 2) := by decide +kernel
theorem dX10_soonest_10 : decode cX10_soonest 10 = .ok (.ireturn, 1) := by decide +kernel
theorem dX10_soonest_11 : decode cX10_soonest 11 = .ok (.iload_n 1, 1) := by decide +kernel
theorem dX10_soonest_12 : decode cX10_soonest 12 = .ok (.iconst 0, 1) := by decide +kernel
theorem dX10_soonest_13 : decode cX10_soonest 13 = .ok (.sipush 255, 3) := by decide +kernel
theorem dX10_soonest_16 : decode cX10_soonest 16 = .ok (.invokestatic 83, 3) := by decide +kernel
theorem dX10_soonest_19 : decode cX10_soonest 19 = .ok (.ifCond .ne 6, 3) := by decide +kernel
theorem dX10_soonest_22 : decode cX10_soonest 22 = .ok (.ldc 90, 2) := by decide +kernel
theorem dX10_soonest_24 : decode cX10_soonest 24 = .ok (.ireturn, 1) := by decide +kernel
theorem dX10_soonest_25 : decode cX10_soonest 25 = .ok (.aload_n 0, 1) := by decide +kernel
theorem dX10_soonest_26 : decode cX10_soonest 26 = .ok (.iload_n 1, 1) := by decide +kernel
theorem dX10_soonest_27 : decode cX10_soonest 27 = .ok (.invokevirtual 225, 3) := by decide +kernel
theorem dX10_soonest_30 : decode cX10_soonest 30 = .ok (.iconst (-1), 1) := by decide +kernel
theorem dX10_soonest_31 : decode cX10_soonest 31 = .ok (.istore_n 3, 1) := by decide +kernel
theorem dX10_soonest_32 : decode cX10_soonest 32 = .ok (.iconst 0, 1) := by decide +kernel
theorem dX10_soonest_33 : decode cX10_soonest 33 = .ok (.istore 4, 2) := by decide +kernel
theorem dX10_soonest_35 : decode cX10_soonest 35 = .ok (.iload 4, 2) := by decide +kernel
theorem dX10_soonest_37 : decode cX10_soonest 37 = .ok (.bipush 8, 2) := by decide +kernel
theorem dX10_soonest_39 : decode cX10_soonest 39 = .ok (.if_icmp .ge 50, 3) := by decide +kernel
theorem dX10_soonest_42 : decode cX10_soonest 42 = .ok (.aload_n 0, 1) := by decide +kernel
theorem dX10_soonest_43 : decode cX10_soonest 43 = .ok (.getfield 32, 3) := by decide +kernel
theorem dX10_soonest_46 : decode cX10_soonest 46 = .ok (.bipush 88, 2) := by decide +kernel
theorem dX10_soonest_48 : decode cX10_soonest 48 = .ok (.bipush 8, 2) := by decide +kernel
theorem dX10_soonest_50 : decode cX10_soonest 50 = .ok (.iload_n 2, 1) := by decide +kernel
theorem dX10_soonest_51 : decode cX10_soonest 51 = .ok (.imul, 1) := by decide +kernel
theorem dX10_soonest_52 : decode cX10_soonest 52 = .ok (.iadd, 1) := by decide +kernel
theorem dX10_soonest_53 : decode cX10_soonest 53 = .ok (.iload 4, 2) := by decide +kernel
theorem dX10_soonest_55 : decode cX10_soonest 55 = .ok (.iadd, 1) := by decide +kernel
theorem dX10_soonest_56 : decode cX10_soonest 56 = .ok (.iaload, 1) := by decide +kernel
theorem dX10_soonest_57 : decode cX10_soonest 57 = .ok (.istore 5, 2) := by decide +kernel
theorem dX10_soonest_59 : decode cX10_soonest 59 = .ok (.iload 5, 2) := by decide +kernel
theorem dX10_soonest_61 : decode cX10_soonest 61 = .ok (.iconst (-1), 1) := by decide +kernel
theorem dX10_soonest_62 : decode cX10_soonest 62 = .ok (.if_icmp .eq 19, 3) := by decide +kernel
theorem dX10_soonest_65 : decode cX10_soonest 65 = .ok (.iload_n 3, 1) := by decide +kernel
theorem dX10_soonest_66 : decode cX10_soonest 66 = .ok (.iconst (-1), 1) := by decide +kernel
theorem dX10_soonest_67 : decode cX10_soonest 67 = .ok (.if_icmp .eq 9, 3) := by decide +kernel
theorem dX10_soonest_70 : decode cX10_soonest 70 = .ok (.iload 5, 2) := by decide +kernel
theorem dX10_soonest_72 : decode cX10_soonest 72 = .ok (.iload_n 3, 1) := by decide +kernel
theorem dX10_soonest_73 : decode cX10_soonest 73 = .ok (.if_icmp .ge 8, 3) := by decide +kernel
theorem dX10_soonest_76 : decode cX10_soonest 76 = .ok (.iload 5, 2) := by decide +kernel
theorem dX10_soonest_78 : decode cX10_soonest 78 = .ok (.goto 4, 3) := by decide +kernel
theorem dX10_soonest_81 : decode cX10_soonest 81 = .ok (.iload_n 3, 1) := by decide +kernel
theorem dX10_soonest_82 : decode cX10_soonest 82 = .ok (.istore_n 3, 1) := by decide +kernel
theorem dX10_soonest_83 : decode cX10_soonest 83 = .ok (.iinc 4 1, 3) := by decide +kernel
theorem dX10_soonest_86 : decode cX10_soonest 86 = .ok (.goto (-51), 3) := by decide +kernel
theorem dX10_soonest_89 : decode cX10_soonest 89 = .ok (.iload_n 3, 1) := by decide +kernel
theorem dX10_soonest_90 : decode cX10_soonest 90 = .ok (.ireturn, 1) := by decide +kernel
theorem dX10_layComes_0 : decode cX10_layComes 0 = .ok (.iconst 0, 1) := by decide +kernel
theorem dX10_layComes_1 : decode cX10_layComes 1 = .ok (.istore 5, 2) := by decide +kernel
theorem dX10_layComes_3 : decode cX10_layComes 3 = .ok (.iload 5, 2) := by decide +kernel
theorem dX10_layComes_5 : decode cX10_layComes 5 = .ok (.aload_n 0, 1) := by decide +kernel
theorem dX10_layComes_6 : decode cX10_layComes 6 = .ok (.getfield 80, 3) := by decide +kernel
theorem dX10_layComes_9 : decode cX10_layComes 9 = .ok (.if_icmp .ge 27, 3) := by decide +kernel
theorem dX10_layComes_12 : decode cX10_layComes 12 = .ok (.aload_n 0, 1) := by decide +kernel
theorem dX10_layComes_13 : decode cX10_layComes 13 = .ok (.getfield 54, 3) := by decide +kernel
theorem dX10_layComes_16 : decode cX10_layComes 16 = .ok (.iload 5, 2) := by decide +kernel
theorem dX10_layComes_18 : decode cX10_layComes 18 = .ok (.iload 5, 2) := by decide +kernel
theorem dX10_layComes_20 : decode cX10_layComes 20 = .ok (.ifCond .ne 7, 3) := by decide +kernel
theorem dX10_layComes_23 : decode cX10_layComes 23 = .ok (.iconst 0, 1) := by decide +kernel
theorem dX10_layComes_24 : decode cX10_layComes 24 = .ok (.goto 5, 3) := by decide +kernel
theorem dX10_layComes_27 : decode cX10_layComes 27 = .ok (.bipush 99, 2) := by decide +kernel
theorem dX10_layComes_29 : decode cX10_layComes 29 = .ok (.iastore, 1) := by decide +kernel
theorem dX10_layComes_30 : decode cX10_layComes 30 = .ok (.iinc 5 1, 3) := by decide +kernel
theorem dX10_layComes_33 : decode cX10_layComes 33 = .ok (.goto (-30), 3) := by decide +kernel
theorem dX10_layComes_36 : decode cX10_layComes 36 = .ok (.iconst 0, 1) := by decide +kernel
theorem dX10_layComes_37 : decode cX10_layComes 37 = .ok (.istore 5, 2) := by decide +kernel
theorem dX10_layComes_39 : decode cX10_layComes 39 = .ok (.iload 5, 2) := by decide +kernel
theorem dX10_layComes_41 : decode cX10_layComes 41 = .ok (.aload_n 0, 1) := by decide +kernel
theorem dX10_layComes_42 : decode cX10_layComes 42 = .ok (.getfield 80, 3) := by decide +kernel
theorem dX10_layComes_45 : decode cX10_layComes 45 = .ok (.if_icmp .ge 153, 3) := by decide +kernel
theorem dX10_layComes_48 : decode cX10_layComes 48 = .ok (.iconst 0, 1) := by decide +kernel
theorem dX10_layComes_49 : decode cX10_layComes 49 = .ok (.istore 6, 2) := by decide +kernel
theorem dX10_layComes_51 : decode cX10_layComes 51 = .ok (.iload 6, 2) := by decide +kernel
theorem dX10_layComes_53 : decode cX10_layComes 53 = .ok (.aload_n 0, 1) := by decide +kernel
theorem dX10_layComes_54 : decode cX10_layComes 54 = .ok (.getfield 87, 3) := by decide +kernel
theorem dX10_layComes_57 : decode cX10_layComes 57 = .ok (.if_icmp .ge 135, 3) := by decide +kernel
theorem dX10_layComes_60 : decode cX10_layComes 60 = .ok (.aload_n 0, 1) := by decide +kernel
theorem dX10_layComes_61 : decode cX10_layComes 61 = .ok (.getfield 26, 3) := by decide +kernel
theorem dX10_layComes_64 : decode cX10_layComes 64 = .ok (.iconst 3, 1) := by decide +kernel
theorem dX10_layComes_65 : decode cX10_layComes 65 = .ok (.iload 6, 2) := by decide +kernel
theorem dX10_layComes_67 : decode cX10_layComes 67 = .ok (.imul, 1) := by decide +kernel
theorem dX10_layComes_68 : decode cX10_layComes 68 = .ok (.iaload, 1) := by decide +kernel
theorem dX10_layComes_69 : decode cX10_layComes 69 = .ok (.istore 7, 2) := by decide +kernel
theorem dX10_layComes_71 : decode cX10_layComes 71 = .ok (.aload_n 0, 1) := by decide +kernel
theorem dX10_layComes_72 : decode cX10_layComes 72 = .ok (.getfield 26, 3) := by decide +kernel
theorem dX10_layComes_75 : decode cX10_layComes 75 = .ok (.iconst 3, 1) := by decide +kernel
theorem dX10_layComes_76 : decode cX10_layComes 76 = .ok (.iload 6, 2) := by decide +kernel
theorem dX10_layComes_78 : decode cX10_layComes 78 = .ok (.imul, 1) := by decide +kernel
theorem dX10_layComes_79 : decode cX10_layComes 79 = .ok (.iconst 1, 1) := by decide +kernel
theorem dX10_layComes_80 : decode cX10_layComes 80 = .ok (.iadd, 1) := by decide +kernel
theorem dX10_layComes_81 : decode cX10_layComes 81 = .ok (.iaload, 1) := by decide +kernel
theorem dX10_layComes_82 : decode cX10_layComes 82 = .ok (.istore 8, 2) := by decide +kernel
theorem dX10_layComes_84 : decode cX10_layComes 84 = .ok (.aload_n 0, 1) := by decide +kernel
theorem dX10_layComes_85 : decode cX10_layComes 85 = .ok (.getfield 54, 3) := by decide +kernel
theorem dX10_layComes_88 : decode cX10_layComes 88 = .ok (.iload 7, 2) := by decide +kernel
theorem dX10_layComes_90 : decode cX10_layComes 90 = .ok (.iaload, 1) := by decide +kernel
theorem dX10_layComes_91 : decode cX10_layComes 91 = .ok (.bipush 60, 2) := by decide +kernel
theorem dX10_layComes_93 : decode cX10_layComes 93 = .ok (.if_icmp .gt 28, 3) := by decide +kernel
theorem dX10_layComes_96 : decode cX10_layComes 96 = .ok (.iload_n 2, 1) := by decide +kernel
theorem dX10_layComes_97 : decode cX10_layComes 97 = .ok (.iload 6, 2) := by decide +kernel
theorem dX10_layComes_99 : decode cX10_layComes 99 = .ok (.invokestatic 194, 3) := by decide +kernel
theorem dX10_layComes_102 : decode cX10_layComes 102 = .ok (.ifCond .ne 19, 3) := by decide +kernel
theorem dX10_layComes_105 : decode cX10_layComes 105 = .ok (.aload_n 0, 1) := by decide +kernel
theorem dX10_layComes_106 : decode cX10_layComes 106 = .ok (.iload 7, 2) := by decide +kernel
theorem dX10_layComes_108 : decode cX10_layComes 108 = .ok (.iconst 1, 1) := by decide +kernel
theorem dX10_layComes_109 : decode cX10_layComes 109 = .ok (.iload_n 1, 1) := by decide +kernel
theorem dX10_layComes_110 : decode cX10_layComes 110 = .ok (.ishl, 1) := by decide +kernel
theorem dX10_layComes_111 : decode cX10_layComes 111 = .ok (.invokevirtual 201, 3) := by decide +kernel
theorem dX10_layComes_114 : decode cX10_layComes 114 = .ok (.ifCond .eq 7, 3) := by decide +kernel
theorem dX10_layComes_117 : decode cX10_layComes 117 = .ok (.iconst 1, 1) := by decide +kernel
theorem dX10_layComes_118 : decode cX10_layComes 118 = .ok (.goto 4, 3) := by decide +kernel
theorem dX10_layComes_121 : decode cX10_layComes 121 = .ok (.iconst 0, 1) := by decide +kernel
theorem dX10_layComes_122 : decode cX10_layComes 122 = .ok (.istore 9, 2) := by decide +kernel
theorem dX10_layComes_124 : decode cX10_layComes 124 = .ok (.iload 9, 2) := by decide +kernel
theorem dX10_layComes_126 : decode cX10_layComes 126 = .ok (.ifCond .eq 25, 3) := by decide +kernel
theorem dX10_layComes_129 : decode cX10_layComes 129 = .ok (.aload_n 0, 1) := by decide +kernel
theorem dX10_layComes_130 : decode cX10_layComes 130 = .ok (.getfield 54, 3) := by decide +kernel
theorem dX10_layComes_133 : decode cX10_layComes 133 = .ok (.iload 7, 2) := by decide +kernel
theorem dX10_layComes_135 : decode cX10_layComes 135 = .ok (.iaload, 1) := by decide +kernel
theorem dX10_layComes_136 : decode cX10_layComes 136 = .ok (.aload_n 0, 1) := by decide +kernel
theorem dX10_layComes_137 : decode cX10_layComes 137 = .ok (.getfield 26, 3) := by decide +kernel
theorem dX10_layComes_140 : decode cX10_layComes 140 = .ok (.iconst 3, 1) := by decide +kernel
theorem dX10_layComes_141 : decode cX10_layComes 141 = .ok (.iload 6, 2) := by decide +kernel
theorem dX10_layComes_143 : decode cX10_layComes 143 = .ok (.imul, 1) := by decide +kernel
theorem dX10_layComes_144 : decode cX10_layComes 144 = .ok (.iconst 2, 1) := by decide +kernel
theorem dX10_layComes_145 : decode cX10_layComes 145 = .ok (.iadd, 1) := by decide +kernel
theorem dX10_layComes_146 : decode cX10_layComes 146 = .ok (.iaload, 1) := by decide +kernel
theorem dX10_layComes_147 : decode cX10_layComes 147 = .ok (.iadd, 1) := by decide +kernel
theorem dX10_layComes_148 : decode cX10_layComes 148 = .ok (.goto 5, 3) := by decide +kernel
theorem dX10_layComes_151 : decode cX10_layComes 151 = .ok (.bipush 99, 2) := by decide +kernel
theorem dX10_layComes_153 : decode cX10_layComes 153 = .ok (.istore 10, 2) := by decide +kernel
theorem dX10_layComes_155 : decode cX10_layComes 155 = .ok (.aload_n 0, 1) := by decide +kernel
theorem dX10_layComes_156 : decode cX10_layComes 156 = .ok (.getfield 54, 3) := by decide +kernel
theorem dX10_layComes_159 : decode cX10_layComes 159 = .ok (.iload 8, 2) := by decide +kernel
theorem dX10_layComes_161 : decode cX10_layComes 161 = .ok (.iload 10, 2) := by decide +kernel
theorem dX10_layComes_163 : decode cX10_layComes 163 = .ok (.aload_n 0, 1) := by decide +kernel
theorem dX10_layComes_164 : decode cX10_layComes 164 = .ok (.getfield 54, 3) := by decide +kernel
theorem dX10_layComes_167 : decode cX10_layComes 167 = .ok (.iload 8, 2) := by decide +kernel
theorem dX10_layComes_169 : decode cX10_layComes 169 = .ok (.iaload, 1) := by decide +kernel
theorem dX10_layComes_170 : decode cX10_layComes 170 = .ok (.if_icmp .ge 8, 3) := by decide +kernel
theorem dX10_layComes_173 : decode cX10_layComes 173 = .ok (.iload 10, 2) := by decide +kernel
theorem dX10_layComes_175 : decode cX10_layComes 175 = .ok (.goto 10, 3) := by decide +kernel
theorem dX10_layComes_178 : decode cX10_layComes 178 = .ok (.aload_n 0, 1) := by decide +kernel
theorem dX10_layComes_179 : decode cX10_layComes 179 = .ok (.getfield 54, 3) := by decide +kernel
theorem dX10_layComes_182 : decode cX10_layComes 182 = .ok (.iload 8, 2) := by decide +kernel
theorem dX10_layComes_184 : decode cX10_layComes 184 = .ok (.iaload, 1) := by decide +kernel
theorem dX10_layComes_185 : decode cX10_layComes 185 = .ok (.iastore, 1) := by decide +kernel
theorem dX10_layComes_186 : decode cX10_layComes 186 = .ok (.iinc 6 1, 3) := by decide +kernel
theorem dX10_layComes_189 : decode cX10_layComes 189 = .ok (.goto (-138), 3) := by decide +kernel
theorem dX10_layComes_192 : decode cX10_layComes 192 = .ok (.iinc 5 1, 3) := by decide +kernel
theorem dX10_layComes_195 : decode cX10_layComes 195 = .ok (.goto (-156), 3) := by decide +kernel
theorem dX10_layComes_198 : decode cX10_layComes 198 = .ok (.iconst 0, 1) := by decide +kernel
theorem dX10_layComes_199 : decode cX10_layComes 199 = .ok (.istore 5, 2) := by decide +kernel
theorem dX10_layComes_201 : decode cX10_layComes 201 = .ok (.iload 5, 2) := by decide +kernel
theorem dX10_layComes_203 : decode cX10_layComes 203 = .ok (.aload_n 0, 1) := by decide +kernel
theorem dX10_layComes_204 : decode cX10_layComes 204 = .ok (.getfield 80, 3) := by decide +kernel
theorem dX10_layComes_207 : decode cX10_layComes 207 = .ok (.if_icmp .ge 40, 3) := by decide +kernel
theorem dX10_layComes_210 : decode cX10_layComes 210 = .ok (.aload_n 0, 1) := by decide +kernel
theorem dX10_layComes_211 : decode cX10_layComes 211 = .ok (.getfield 57, 3) := by decide +kernel
theorem dX10_layComes_214 : decode cX10_layComes 214 = .ok (.iload 5, 2) := by decide +kernel
theorem dX10_layComes_216 : decode cX10_layComes 216 = .ok (.aload_n 0, 1) := by decide +kernel
theorem dX10_layComes_217 : decode cX10_layComes 217 = .ok (.getfield 54, 3) := by decide +kernel
theorem dX10_layComes_220 : decode cX10_layComes 220 = .ok (.iload 5, 2) := by decide +kernel
theorem dX10_layComes_222 : decode cX10_layComes 222 = .ok (.iaload, 1) := by decide +kernel
theorem dX10_layComes_223 : decode cX10_layComes 223 = .ok (.bipush 60, 2) := by decide +kernel
theorem dX10_layComes_225 : decode cX10_layComes 225 = .ok (.if_icmp .gt 13, 3) := by decide +kernel
theorem dX10_layComes_228 : decode cX10_layComes 228 = .ok (.aload_n 0, 1) := by decide +kernel
theorem dX10_layComes_229 : decode cX10_layComes 229 = .ok (.getfield 54, 3) := by decide +kernel
theorem dX10_layComes_232 : decode cX10_layComes 232 = .ok (.iload 5, 2) := by decide +kernel
theorem dX10_layComes_234 : decode cX10_layComes 234 = .ok (.iaload, 1) := by decide +kernel
theorem dX10_layComes_235 : decode cX10_layComes 235 = .ok (.goto 5, 3) := by decide +kernel
theorem dX10_layComes_238 : decode cX10_layComes 238 = .ok (.bipush 99, 2) := by decide +kernel
theorem dX10_layComes_240 : decode cX10_layComes 240 = .ok (.iastore, 1) := by decide +kernel
theorem dX10_layComes_241 : decode cX10_layComes 241 = .ok (.iinc 5 1, 3) := by decide +kernel
theorem dX10_layComes_244 : decode cX10_layComes 244 = .ok (.goto (-43), 3) := by decide +kernel
theorem dX10_layComes_247 : decode cX10_layComes 247 = .ok (.iconst 0, 1) := by decide +kernel
theorem dX10_layComes_248 : decode cX10_layComes 248 = .ok (.istore 5, 2) := by decide +kernel
theorem dX10_layComes_250 : decode cX10_layComes 250 = .ok (.iload 5, 2) := by decide +kernel
theorem dX10_layComes_252 : decode cX10_layComes 252 = .ok (.aload_n 0, 1) := by decide +kernel
theorem dX10_layComes_253 : decode cX10_layComes 253 = .ok (.getfield 87, 3) := by decide +kernel
theorem dX10_layComes_256 : decode cX10_layComes 256 = .ok (.if_icmp .ge 135, 3) := by decide +kernel
theorem dX10_layComes_259 : decode cX10_layComes 259 = .ok (.aload_n 0, 1) := by decide +kernel
theorem dX10_layComes_260 : decode cX10_layComes 260 = .ok (.getfield 26, 3) := by decide +kernel
theorem dX10_layComes_263 : decode cX10_layComes 263 = .ok (.iconst 3, 1) := by decide +kernel
theorem dX10_layComes_264 : decode cX10_layComes 264 = .ok (.iload 5, 2) := by decide +kernel
theorem dX10_layComes_266 : decode cX10_layComes 266 = .ok (.imul, 1) := by decide +kernel
theorem dX10_layComes_267 : decode cX10_layComes 267 = .ok (.iaload, 1) := by decide +kernel
theorem dX10_layComes_268 : decode cX10_layComes 268 = .ok (.istore 6, 2) := by decide +kernel
theorem dX10_layComes_270 : decode cX10_layComes 270 = .ok (.iload_n 3, 1) := by decide +kernel
theorem dX10_layComes_271 : decode cX10_layComes 271 = .ok (.iconst (-1), 1) := by decide +kernel
theorem dX10_layComes_272 : decode cX10_layComes 272 = .ok (.if_icmp .ne 17, 3) := by decide +kernel
theorem dX10_layComes_275 : decode cX10_layComes 275 = .ok (.aload_n 0, 1) := by decide +kernel
theorem dX10_layComes_276 : decode cX10_layComes 276 = .ok (.getfield 29, 3) := by decide +kernel
theorem dX10_layComes_279 : decode cX10_layComes 279 = .ok (.sipush 162, 3) := by decide +kernel
theorem dX10_layComes_282 : decode cX10_layComes 282 = .ok (.iload 5, 2) := by decide +kernel
theorem dX10_layComes_284 : decode cX10_layComes 284 = .ok (.iadd, 1) := by decide +kernel
theorem dX10_layComes_285 : decode cX10_layComes 285 = .ok (.iaload, 1) := by decide +kernel
theorem dX10_layComes_286 : decode cX10_layComes 286 = .ok (.goto 15, 3) := by decide +kernel
theorem dX10_layComes_289 : decode cX10_layComes 289 = .ok (.iload_n 3, 1) := by decide +kernel
theorem dX10_layComes_290 : decode cX10_layComes 290 = .ok (.iload 5, 2) := by decide +kernel
theorem dX10_layComes_292 : decode cX10_layComes 292 = .ok (.if_icmp .ne 8, 3) := by decide +kernel
theorem dX10_layComes_295 : decode cX10_layComes 295 = .ok (.iload 4, 2) := by decide +kernel
theorem dX10_layComes_297 : decode cX10_layComes 297 = .ok (.goto 4, 3) := by decide +kernel
theorem dX10_layComes_300 : decode cX10_layComes 300 = .ok (.iconst (-1), 1) := by decide +kernel
theorem dX10_layComes_301 : decode cX10_layComes 301 = .ok (.istore 7, 2) := by decide +kernel
theorem dX10_layComes_303 : decode cX10_layComes 303 = .ok (.aload_n 0, 1) := by decide +kernel
theorem dX10_layComes_304 : decode cX10_layComes 304 = .ok (.getfield 54, 3) := by decide +kernel
theorem dX10_layComes_307 : decode cX10_layComes 307 = .ok (.iload 6, 2) := by decide +kernel
theorem dX10_layComes_309 : decode cX10_layComes 309 = .ok (.iaload, 1) := by decide +kernel
theorem dX10_layComes_310 : decode cX10_layComes 310 = .ok (.bipush 60, 2) := by decide +kernel
theorem dX10_layComes_312 : decode cX10_layComes 312 = .ok (.if_icmp .gt 28, 3) := by decide +kernel
theorem dX10_layComes_315 : decode cX10_layComes 315 = .ok (.iload_n 2, 1) := by decide +kernel
theorem dX10_layComes_316 : decode cX10_layComes 316 = .ok (.iload 5, 2) := by decide +kernel
theorem dX10_layComes_318 : decode cX10_layComes 318 = .ok (.invokestatic 194, 3) := by decide +kernel
theorem dX10_layComes_321 : decode cX10_layComes 321 = .ok (.ifCond .ne 19, 3) := by decide +kernel
theorem dX10_layComes_324 : decode cX10_layComes 324 = .ok (.aload_n 0, 1) := by decide +kernel
theorem dX10_layComes_325 : decode cX10_layComes 325 = .ok (.iload 6, 2) := by decide +kernel
theorem dX10_layComes_327 : decode cX10_layComes 327 = .ok (.iconst 1, 1) := by decide +kernel
theorem dX10_layComes_328 : decode cX10_layComes 328 = .ok (.iload_n 1, 1) := by decide +kernel
theorem dX10_layComes_329 : decode cX10_layComes 329 = .ok (.ishl, 1) := by decide +kernel
theorem dX10_layComes_330 : decode cX10_layComes 330 = .ok (.invokevirtual 201, 3) := by decide +kernel
theorem dX10_layComes_333 : decode cX10_layComes 333 = .ok (.ifCond .eq 7, 3) := by decide +kernel
theorem dX10_layComes_336 : decode cX10_layComes 336 = .ok (.iconst 1, 1) := by decide +kernel
theorem dX10_layComes_337 : decode cX10_layComes 337 = .ok (.goto 4, 3) := by decide +kernel
theorem dX10_layComes_340 : decode cX10_layComes 340 = .ok (.iconst 0, 1) := by decide +kernel
theorem dX10_layComes_341 : decode cX10_layComes 341 = .ok (.istore 8, 2) := by decide +kernel
theorem dX10_layComes_343 : decode cX10_layComes 343 = .ok (.iload 7, 2) := by decide +kernel
theorem dX10_layComes_345 : decode cX10_layComes 345 = .ok (.iconst (-1), 1) := by decide +kernel
theorem dX10_layComes_346 : decode cX10_layComes 346 = .ok (.if_icmp .eq 39, 3) := by decide +kernel
theorem dX10_layComes_349 : decode cX10_layComes 349 = .ok (.iload 8, 2) := by decide +kernel
theorem dX10_layComes_351 : decode cX10_layComes 351 = .ok (.ifCond .eq 34, 3) := by decide +kernel
theorem dX10_layComes_354 : decode cX10_layComes 354 = .ok (.aload_n 0, 1) := by decide +kernel
theorem dX10_layComes_355 : decode cX10_layComes 355 = .ok (.getfield 54, 3) := by decide +kernel
theorem dX10_layComes_358 : decode cX10_layComes 358 = .ok (.iload 6, 2) := by decide +kernel
theorem dX10_layComes_360 : decode cX10_layComes 360 = .ok (.iaload, 1) := by decide +kernel
theorem dX10_layComes_361 : decode cX10_layComes 361 = .ok (.aload_n 0, 1) := by decide +kernel
theorem dX10_layComes_362 : decode cX10_layComes 362 = .ok (.getfield 57, 3) := by decide +kernel
theorem dX10_layComes_365 : decode cX10_layComes 365 = .ok (.iload 7, 2) := by decide +kernel
theorem dX10_layComes_367 : decode cX10_layComes 367 = .ok (.iaload, 1) := by decide +kernel
theorem dX10_layComes_368 : decode cX10_layComes 368 = .ok (.if_icmp .ge 17, 3) := by decide +kernel
theorem dX10_layComes_371 : decode cX10_layComes 371 = .ok (.aload_n 0, 1) := by decide +kernel
theorem dX10_layComes_372 : decode cX10_layComes 372 = .ok (.getfield 57, 3) := by decide +kernel
theorem dX10_layComes_375 : decode cX10_layComes 375 = .ok (.iload 7, 2) := by decide +kernel
theorem dX10_layComes_377 : decode cX10_layComes 377 = .ok (.aload_n 0, 1) := by decide +kernel
theorem dX10_layComes_378 : decode cX10_layComes 378 = .ok (.getfield 54, 3) := by decide +kernel
theorem dX10_layComes_381 : decode cX10_layComes 381 = .ok (.iload 6, 2) := by decide +kernel
theorem dX10_layComes_383 : decode cX10_layComes 383 = .ok (.iaload, 1) := by decide +kernel
theorem dX10_layComes_384 : decode cX10_layComes 384 = .ok (.iastore, 1) := by decide +kernel
theorem dX10_layComes_385 : decode cX10_layComes 385 = .ok (.iinc 5 1, 3) := by decide +kernel
theorem dX10_layComes_388 : decode cX10_layComes 388 = .ok (.goto (-138), 3) := by decide +kernel
theorem dX10_layComes_391 : decode cX10_layComes 391 = .ok (.return_, 1) := by decide +kernel
theorem dX10_gates_0 : decode cX10_gates 0 = .ok (.aload_n 0, 1) := by decide +kernel
theorem dX10_gates_1 : decode cX10_gates 1 = .ok (.iload_n 1, 1) := by decide +kernel
theorem dX10_gates_2 : decode cX10_gates 2 = .ok (.invokevirtual 180, 3) := by decide +kernel
theorem dX10_gates_5 : decode cX10_gates 5 = .ok (.ifCond .eq 26, 3) := by decide +kernel
theorem dX10_gates_8 : decode cX10_gates 8 = .ok (.iload_n 2, 1) := by decide +kernel
theorem dX10_gates_9 : decode cX10_gates 9 = .ok (.invokestatic 187, 3) := by decide +kernel
theorem dX10_gates_12 : decode cX10_gates 12 = .ok (.ifCond .eq 19, 3) := by decide +kernel
theorem dX10_gates_15 : decode cX10_gates 15 = .ok (.iload_n 3, 1) := by decide +kernel
theorem dX10_gates_16 : decode cX10_gates 16 = .ok (.iconst 0, 1) := by decide +kernel
theorem dX10_gates_17 : decode cX10_gates 17 = .ok (.iconst 1, 1) := by decide +kernel
theorem dX10_gates_18 : decode cX10_gates 18 = .ok (.aload_n 0, 1) := by decide +kernel
theorem dX10_gates_19 : decode cX10_gates 19 = .ok (.getfield 80, 3) := by decide +kernel
theorem dX10_gates_22 : decode cX10_gates 22 = .ok (.ishl, 1) := by decide +kernel
theorem dX10_gates_23 : decode cX10_gates 23 = .ok (.iconst 1, 1) := by decide +kernel
theorem dX10_gates_24 : decode cX10_gates 24 = .ok (.isub, 1) := by decide +kernel
theorem dX10_gates_25 : decode cX10_gates 25 = .ok (.invokestatic 83, 3) := by decide +kernel
theorem dX10_gates_28 : decode cX10_gates 28 = .ok (.ifCond .ne 6, 3) := by decide +kernel
theorem dX10_gates_31 : decode cX10_gates 31 = .ok (.ldc 183, 2) := by decide +kernel
theorem dX10_gates_33 : decode cX10_gates 33 = .ok (.ireturn, 1) := by decide +kernel
theorem dX10_gates_34 : decode cX10_gates 34 = .ok (.iconst (-1), 1) := by decide +kernel
theorem dX10_gates_35 : decode cX10_gates 35 = .ok (.istore 4, 2) := by decide +kernel
theorem dX10_gates_37 : decode cX10_gates 37 = .ok (.iconst 0, 1) := by decide +kernel
theorem dX10_gates_38 : decode cX10_gates 38 = .ok (.istore 5, 2) := by decide +kernel
theorem dX10_gates_40 : decode cX10_gates 40 = .ok (.iload 5, 2) := by decide +kernel
theorem dX10_gates_42 : decode cX10_gates 42 = .ok (.iconst 1, 1) := by decide +kernel
theorem dX10_gates_43 : decode cX10_gates 43 = .ok (.aload_n 0, 1) := by decide +kernel
theorem dX10_gates_44 : decode cX10_gates 44 = .ok (.getfield 87, 3) := by decide +kernel
theorem dX10_gates_47 : decode cX10_gates 47 = .ok (.ishl, 1) := by decide +kernel
theorem dX10_gates_48 : decode cX10_gates 48 = .ok (.if_icmp .ge 128, 3) := by decide +kernel
theorem dX10_gates_51 : decode cX10_gates 51 = .ok (.aload_n 0, 1) := by decide +kernel
theorem dX10_gates_52 : decode cX10_gates 52 = .ok (.iload_n 2, 1) := by decide +kernel
theorem dX10_gates_53 : decode cX10_gates 53 = .ok (.aload_n 0, 1) := by decide +kernel
theorem dX10_gates_54 : decode cX10_gates 54 = .ok (.getfield 29, 3) := by decide +kernel
theorem dX10_gates_57 : decode cX10_gates 57 = .ok (.sipush 172, 3) := by decide +kernel
theorem dX10_gates_60 : decode cX10_gates 60 = .ok (.iaload, 1) := by decide +kernel
theorem dX10_gates_61 : decode cX10_gates 61 = .ok (.iload 5, 2) := by decide +kernel
theorem dX10_gates_63 : decode cX10_gates 63 = .ok (.ior, 1) := by decide +kernel
theorem dX10_gates_64 : decode cX10_gates 64 = .ok (.iconst (-1), 1) := by decide +kernel
theorem dX10_gates_65 : decode cX10_gates 65 = .ok (.iconst (-1), 1) := by decide +kernel
theorem dX10_gates_66 : decode cX10_gates 66 = .ok (.invokevirtual 229, 3) := by decide +kernel
theorem dX10_gates_69 : decode cX10_gates 69 = .ok (.aload_n 0, 1) := by decide +kernel
theorem dX10_gates_70 : decode cX10_gates 70 = .ok (.getfield 57, 3) := by decide +kernel
theorem dX10_gates_73 : decode cX10_gates 73 = .ok (.iload_n 1, 1) := by decide +kernel
theorem dX10_gates_74 : decode cX10_gates 74 = .ok (.iaload, 1) := by decide +kernel
theorem dX10_gates_75 : decode cX10_gates 75 = .ok (.bipush 99, 2) := by decide +kernel
theorem dX10_gates_77 : decode cX10_gates 77 = .ok (.if_icmp .eq 7, 3) := by decide +kernel
theorem dX10_gates_80 : decode cX10_gates 80 = .ok (.iconst 1, 1) := by decide +kernel
theorem dX10_gates_81 : decode cX10_gates 81 = .ok (.goto 4, 3) := by decide +kernel
theorem dX10_gates_84 : decode cX10_gates 84 = .ok (.iconst 0, 1) := by decide +kernel
theorem dX10_gates_85 : decode cX10_gates 85 = .ok (.istore 6, 2) := by decide +kernel
theorem dX10_gates_87 : decode cX10_gates 87 = .ok (.iconst 0, 1) := by decide +kernel
theorem dX10_gates_88 : decode cX10_gates 88 = .ok (.istore 7, 2) := by decide +kernel
theorem dX10_gates_90 : decode cX10_gates 90 = .ok (.iload 7, 2) := by decide +kernel
theorem dX10_gates_92 : decode cX10_gates 92 = .ok (.aload_n 0, 1) := by decide +kernel
theorem dX10_gates_93 : decode cX10_gates 93 = .ok (.getfield 80, 3) := by decide +kernel
theorem dX10_gates_96 : decode cX10_gates 96 = .ok (.if_icmp .ge 42, 3) := by decide +kernel
theorem dX10_gates_99 : decode cX10_gates 99 = .ok (.iload 6, 2) := by decide +kernel
theorem dX10_gates_101 : decode cX10_gates 101 = .ok (.ifCond .eq 28, 3) := by decide +kernel
theorem dX10_gates_104 : decode cX10_gates 104 = .ok (.iload_n 3, 1) := by decide +kernel
theorem dX10_gates_105 : decode cX10_gates 105 = .ok (.iload 7, 2) := by decide +kernel
theorem dX10_gates_107 : decode cX10_gates 107 = .ok (.invokestatic 194, 3) := by decide +kernel
theorem dX10_gates_110 : decode cX10_gates 110 = .ok (.ifCond .eq 15, 3) := by decide +kernel
theorem dX10_gates_113 : decode cX10_gates 113 = .ok (.aload_n 0, 1) := by decide +kernel
theorem dX10_gates_114 : decode cX10_gates 114 = .ok (.getfield 57, 3) := by decide +kernel
theorem dX10_gates_117 : decode cX10_gates 117 = .ok (.iload 7, 2) := by decide +kernel
theorem dX10_gates_119 : decode cX10_gates 119 = .ok (.iaload, 1) := by decide +kernel
theorem dX10_gates_120 : decode cX10_gates 120 = .ok (.bipush 99, 2) := by decide +kernel
theorem dX10_gates_122 : decode cX10_gates 122 = .ok (.if_icmp .ne 7, 3) := by decide +kernel
theorem dX10_gates_125 : decode cX10_gates 125 = .ok (.iconst 1, 1) := by decide +kernel
theorem dX10_gates_126 : decode cX10_gates 126 = .ok (.goto 4, 3) := by decide +kernel
theorem dX10_gates_129 : decode cX10_gates 129 = .ok (.iconst 0, 1) := by decide +kernel
theorem dX10_gates_130 : decode cX10_gates 130 = .ok (.istore 6, 2) := by decide +kernel
theorem dX10_gates_132 : decode cX10_gates 132 = .ok (.iinc 7 1, 3) := by decide +kernel
theorem dX10_gates_135 : decode cX10_gates 135 = .ok (.goto (-45), 3) := by decide +kernel
theorem dX10_gates_138 : decode cX10_gates 138 = .ok (.iload 6, 2) := by decide +kernel
theorem dX10_gates_140 : decode cX10_gates 140 = .ok (.ifCond .eq 26, 3) := by decide +kernel
theorem dX10_gates_143 : decode cX10_gates 143 = .ok (.iload 4, 2) := by decide +kernel
theorem dX10_gates_145 : decode cX10_gates 145 = .ok (.ifCond .lt 16, 3) := by decide +kernel
theorem dX10_gates_148 : decode cX10_gates 148 = .ok (.iload 5, 2) := by decide +kernel
theorem dX10_gates_150 : decode cX10_gates 150 = .ok (.invokestatic 168, 3) := by decide +kernel
theorem dX10_gates_153 : decode cX10_gates 153 = .ok (.iload 4, 2) := by decide +kernel
theorem dX10_gates_155 : decode cX10_gates 155 = .ok (.invokestatic 168, 3) := by decide +kernel
theorem dX10_gates_158 : decode cX10_gates 158 = .ok (.if_icmp .ge 8, 3) := by decide +kernel
theorem dX10_gates_161 : decode cX10_gates 161 = .ok (.iload 5, 2) := by decide +kernel
theorem dX10_gates_163 : decode cX10_gates 163 = .ok (.goto 5, 3) := by decide +kernel
theorem dX10_gates_166 : decode cX10_gates 166 = .ok (.iload 4, 2) := by decide +kernel
theorem dX10_gates_168 : decode cX10_gates 168 = .ok (.istore 4, 2) := by decide +kernel
theorem dX10_gates_170 : decode cX10_gates 170 = .ok (.iinc 5 1, 3) := by decide +kernel
theorem dX10_gates_173 : decode cX10_gates 173 = .ok (.goto (-133), 3) := by decide +kernel
theorem dX10_gates_176 : decode cX10_gates 176 = .ok (.iload 4, 2) := by decide +kernel
theorem dX10_gates_178 : decode cX10_gates 178 = .ok (.ireturn, 1) := by decide +kernel
theorem dX10_cut_0 : decode cX10_cut 0 = .ok (.aload_n 0, 1) := by decide +kernel
theorem dX10_cut_1 : decode cX10_cut 1 = .ok (.iload_n 1, 1) := by decide +kernel
theorem dX10_cut_2 : decode cX10_cut 2 = .ok (.invokevirtual 180, 3) := by decide +kernel
theorem dX10_cut_5 : decode cX10_cut 5 = .ok (.ifCond .eq 10, 3) := by decide +kernel
theorem dX10_cut_8 : decode cX10_cut 8 = .ok (.iload_n 2, 1) := by decide +kernel
theorem dX10_cut_9 : decode cX10_cut 9 = .ok (.invokestatic 187, 3) := by decide +kernel
theorem dX10_cut_12 : decode cX10_cut 12 = .ok (.ifCond .ne 6, 3) := by decide +kernel
theorem dX10_cut_15 : decode cX10_cut 15 = .ok (.ldc 183, 2) := by decide +kernel
theorem dX10_cut_17 : decode cX10_cut 17 = .ok (.ireturn, 1) := by decide +kernel
theorem dX10_cut_18 : decode cX10_cut 18 = .ok (.iload_n 3, 1) := by decide +kernel
theorem dX10_cut_19 : decode cX10_cut 19 = .ok (.iconst 0, 1) := by decide +kernel
theorem dX10_cut_20 : decode cX10_cut 20 = .ok (.iconst 1, 1) := by decide +kernel
theorem dX10_cut_21 : decode cX10_cut 21 = .ok (.invokestatic 83, 3) := by decide +kernel
theorem dX10_cut_24 : decode cX10_cut 24 = .ok (.ifCond .ne 6, 3) := by decide +kernel
theorem dX10_cut_27 : decode cX10_cut 27 = .ok (.ldc 90, 2) := by decide +kernel
theorem dX10_cut_29 : decode cX10_cut 29 = .ok (.ireturn, 1) := by decide +kernel
theorem dX10_cut_30 : decode cX10_cut 30 = .ok (.iconst (-1), 1) := by decide +kernel
theorem dX10_cut_31 : decode cX10_cut 31 = .ok (.istore 4, 2) := by decide +kernel
theorem dX10_cut_33 : decode cX10_cut 33 = .ok (.iconst 0, 1) := by decide +kernel
theorem dX10_cut_34 : decode cX10_cut 34 = .ok (.istore 5, 2) := by decide +kernel
theorem dX10_cut_36 : decode cX10_cut 36 = .ok (.iload 5, 2) := by decide +kernel
theorem dX10_cut_38 : decode cX10_cut 38 = .ok (.iconst 1, 1) := by decide +kernel
theorem dX10_cut_39 : decode cX10_cut 39 = .ok (.aload_n 0, 1) := by decide +kernel
theorem dX10_cut_40 : decode cX10_cut 40 = .ok (.getfield 87, 3) := by decide +kernel
theorem dX10_cut_43 : decode cX10_cut 43 = .ok (.ishl, 1) := by decide +kernel
theorem dX10_cut_44 : decode cX10_cut 44 = .ok (.if_icmp .ge 65, 3) := by decide +kernel
theorem dX10_cut_47 : decode cX10_cut 47 = .ok (.aload_n 0, 1) := by decide +kernel
theorem dX10_cut_48 : decode cX10_cut 48 = .ok (.iload_n 2, 1) := by decide +kernel
theorem dX10_cut_49 : decode cX10_cut 49 = .ok (.aload_n 0, 1) := by decide +kernel
theorem dX10_cut_50 : decode cX10_cut 50 = .ok (.getfield 29, 3) := by decide +kernel
theorem dX10_cut_53 : decode cX10_cut 53 = .ok (.sipush 172, 3) := by decide +kernel
theorem dX10_cut_56 : decode cX10_cut 56 = .ok (.iaload, 1) := by decide +kernel
theorem dX10_cut_57 : decode cX10_cut 57 = .ok (.iload 5, 2) := by decide +kernel
theorem dX10_cut_59 : decode cX10_cut 59 = .ok (.ior, 1) := by decide +kernel
theorem dX10_cut_60 : decode cX10_cut 60 = .ok (.iconst (-1), 1) := by decide +kernel
theorem dX10_cut_61 : decode cX10_cut 61 = .ok (.iconst (-1), 1) := by decide +kernel
theorem dX10_cut_62 : decode cX10_cut 62 = .ok (.invokevirtual 229, 3) := by decide +kernel
theorem dX10_cut_65 : decode cX10_cut 65 = .ok (.aload_n 0, 1) := by decide +kernel
theorem dX10_cut_66 : decode cX10_cut 66 = .ok (.getfield 57, 3) := by decide +kernel
theorem dX10_cut_69 : decode cX10_cut 69 = .ok (.iload_n 1, 1) := by decide +kernel
theorem dX10_cut_70 : decode cX10_cut 70 = .ok (.iaload, 1) := by decide +kernel
theorem dX10_cut_71 : decode cX10_cut 71 = .ok (.bipush 99, 2) := by decide +kernel
theorem dX10_cut_73 : decode cX10_cut 73 = .ok (.if_icmp .ne 26, 3) := by decide +kernel
theorem dX10_cut_76 : decode cX10_cut 76 = .ok (.iload 4, 2) := by decide +kernel
theorem dX10_cut_78 : decode cX10_cut 78 = .ok (.ifCond .lt 16, 3) := by decide +kernel
theorem dX10_cut_81 : decode cX10_cut 81 = .ok (.iload 5, 2) := by decide +kernel
theorem dX10_cut_83 : decode cX10_cut 83 = .ok (.invokestatic 168, 3) := by decide +kernel
theorem dX10_cut_86 : decode cX10_cut 86 = .ok (.iload 4, 2) := by decide +kernel
theorem dX10_cut_88 : decode cX10_cut 88 = .ok (.invokestatic 168, 3) := by decide +kernel
theorem dX10_cut_91 : decode cX10_cut 91 = .ok (.if_icmp .ge 8, 3) := by decide +kernel
theorem dX10_cut_94 : decode cX10_cut 94 = .ok (.iload 5, 2) := by decide +kernel
theorem dX10_cut_96 : decode cX10_cut 96 = .ok (.goto 5, 3) := by decide +kernel
theorem dX10_cut_99 : decode cX10_cut 99 = .ok (.iload 4, 2) := by decide +kernel
theorem dX10_cut_101 : decode cX10_cut 101 = .ok (.istore 4, 2) := by decide +kernel
theorem dX10_cut_103 : decode cX10_cut 103 = .ok (.iinc 5 1, 3) := by decide +kernel
theorem dX10_cut_106 : decode cX10_cut 106 = .ok (.goto (-70), 3) := by decide +kernel
theorem dX10_cut_109 : decode cX10_cut 109 = .ok (.iload 4, 2) := by decide +kernel
theorem dX10_cut_111 : decode cX10_cut 111 = .ok (.ifCond .ge 7, 3) := by decide +kernel
theorem dX10_cut_114 : decode cX10_cut 114 = .ok (.iconst (-1), 1) := by decide +kernel
theorem dX10_cut_115 : decode cX10_cut 115 = .ok (.goto 17, 3) := by decide +kernel
theorem dX10_cut_118 : decode cX10_cut 118 = .ok (.iload_n 3, 1) := by decide +kernel
theorem dX10_cut_119 : decode cX10_cut 119 = .ok (.ifCond .ne 11, 3) := by decide +kernel
theorem dX10_cut_122 : decode cX10_cut 122 = .ok (.iload 4, 2) := by decide +kernel
theorem dX10_cut_124 : decode cX10_cut 124 = .ok (.invokestatic 168, 3) := by decide +kernel
theorem dX10_cut_127 : decode cX10_cut 127 = .ok (.goto 5, 3) := by decide +kernel
theorem dX10_cut_130 : decode cX10_cut 130 = .ok (.iload 4, 2) := by decide +kernel
theorem dX10_cut_132 : decode cX10_cut 132 = .ok (.ireturn, 1) := by decide +kernel
theorem dX10_layHours_0 : decode cX10_layHours 0 = .ok (.iconst 0, 1) := by decide +kernel
theorem dX10_layHours_1 : decode cX10_layHours 1 = .ok (.istore_n 3, 1) := by decide +kernel
theorem dX10_layHours_2 : decode cX10_layHours 2 = .ok (.iload_n 3, 1) := by decide +kernel
theorem dX10_layHours_3 : decode cX10_layHours 3 = .ok (.aload_n 0, 1) := by decide +kernel
theorem dX10_layHours_4 : decode cX10_layHours 4 = .ok (.getfield 80, 3) := by decide +kernel
theorem dX10_layHours_7 : decode cX10_layHours 7 = .ok (.if_icmp .ge 21, 3) := by decide +kernel
theorem dX10_layHours_10 : decode cX10_layHours 10 = .ok (.aload_n 2, 1) := by decide +kernel
theorem dX10_layHours_11 : decode cX10_layHours 11 = .ok (.iload_n 3, 1) := by decide +kernel
theorem dX10_layHours_12 : decode cX10_layHours 12 = .ok (.iload_n 3, 1) := by decide +kernel
theorem dX10_layHours_13 : decode cX10_layHours 13 = .ok (.ifCond .ne 7, 3) := by decide +kernel
theorem dX10_layHours_16 : decode cX10_layHours 16 = .ok (.lconst 1, 1) := by decide +kernel
theorem dX10_layHours_17 : decode cX10_layHours 17 = .ok (.goto 4, 3) := by decide +kernel
theorem dX10_layHours_20 : decode cX10_layHours 20 = .ok (.lconst 0, 1) := by decide +kernel
theorem dX10_layHours_21 : decode cX10_layHours 21 = .ok (.lastore, 1) := by decide +kernel
theorem dX10_layHours_22 : decode cX10_layHours 22 = .ok (.iinc 3 1, 3) := by decide +kernel
theorem dX10_layHours_25 : decode cX10_layHours 25 = .ok (.goto (-23), 3) := by decide +kernel
theorem dX10_layHours_28 : decode cX10_layHours 28 = .ok (.ldc2_w 233, 3) := by decide +kernel
theorem dX10_layHours_31 : decode cX10_layHours 31 = .ok (.lstore_n 3, 1) := by decide +kernel
theorem dX10_layHours_32 : decode cX10_layHours 32 = .ok (.iconst 0, 1) := by decide +kernel
theorem dX10_layHours_33 : decode cX10_layHours 33 = .ok (.istore 5, 2) := by decide +kernel
theorem dX10_layHours_35 : decode cX10_layHours 35 = .ok (.iload 5, 2) := by decide +kernel
theorem dX10_layHours_37 : decode cX10_layHours 37 = .ok (.aload_n 0, 1) := by decide +kernel
theorem dX10_layHours_38 : decode cX10_layHours 38 = .ok (.getfield 80, 3) := by decide +kernel
theorem dX10_layHours_41 : decode cX10_layHours 41 = .ok (.if_icmp .ge 106, 3) := by decide +kernel
theorem dX10_layHours_44 : decode cX10_layHours 44 = .ok (.iconst 0, 1) := by decide +kernel
theorem dX10_layHours_45 : decode cX10_layHours 45 = .ok (.istore 6, 2) := by decide +kernel
theorem dX10_layHours_47 : decode cX10_layHours 47 = .ok (.iload 6, 2) := by decide +kernel
theorem dX10_layHours_49 : decode cX10_layHours 49 = .ok (.aload_n 0, 1) := by decide +kernel
theorem dX10_layHours_50 : decode cX10_layHours 50 = .ok (.getfield 87, 3) := by decide +kernel
theorem dX10_layHours_53 : decode cX10_layHours 53 = .ok (.if_icmp .ge 88, 3) := by decide +kernel
theorem dX10_layHours_56 : decode cX10_layHours 56 = .ok (.aload_n 0, 1) := by decide +kernel
theorem dX10_layHours_57 : decode cX10_layHours 57 = .ok (.getfield 26, 3) := by decide +kernel
theorem dX10_layHours_60 : decode cX10_layHours 60 = .ok (.iconst 3, 1) := by decide +kernel
theorem dX10_layHours_61 : decode cX10_layHours 61 = .ok (.iload 6, 2) := by decide +kernel
theorem dX10_layHours_63 : decode cX10_layHours 63 = .ok (.imul, 1) := by decide +kernel
theorem dX10_layHours_64 : decode cX10_layHours 64 = .ok (.iaload, 1) := by decide +kernel
theorem dX10_layHours_65 : decode cX10_layHours 65 = .ok (.istore 7, 2) := by decide +kernel
theorem dX10_layHours_67 : decode cX10_layHours 67 = .ok (.aload_n 0, 1) := by decide +kernel
theorem dX10_layHours_68 : decode cX10_layHours 68 = .ok (.getfield 26, 3) := by decide +kernel
theorem dX10_layHours_71 : decode cX10_layHours 71 = .ok (.iconst 3, 1) := by decide +kernel
theorem dX10_layHours_72 : decode cX10_layHours 72 = .ok (.iload 6, 2) := by decide +kernel
theorem dX10_layHours_74 : decode cX10_layHours 74 = .ok (.imul, 1) := by decide +kernel
theorem dX10_layHours_75 : decode cX10_layHours 75 = .ok (.iconst 1, 1) := by decide +kernel
theorem dX10_layHours_76 : decode cX10_layHours 76 = .ok (.iadd, 1) := by decide +kernel
theorem dX10_layHours_77 : decode cX10_layHours 77 = .ok (.iaload, 1) := by decide +kernel
theorem dX10_layHours_78 : decode cX10_layHours 78 = .ok (.istore 8, 2) := by decide +kernel
theorem dX10_layHours_80 : decode cX10_layHours 80 = .ok (.aload_n 0, 1) := by decide +kernel
theorem dX10_layHours_81 : decode cX10_layHours 81 = .ok (.getfield 29, 3) := by decide +kernel
theorem dX10_layHours_84 : decode cX10_layHours 84 = .ok (.sipush 172, 3) := by decide +kernel
theorem dX10_layHours_87 : decode cX10_layHours 87 = .ok (.iaload, 1) := by decide +kernel
theorem dX10_layHours_88 : decode cX10_layHours 88 = .ok (.iload 6, 2) := by decide +kernel
theorem dX10_layHours_90 : decode cX10_layHours 90 = .ok (.invokestatic 194, 3) := by decide +kernel
theorem dX10_layHours_93 : decode cX10_layHours 93 = .ok (.ifCond .ne 42, 3) := by decide +kernel
theorem dX10_layHours_96 : decode cX10_layHours 96 = .ok (.aload_n 0, 1) := by decide +kernel
theorem dX10_layHours_97 : decode cX10_layHours 97 = .ok (.iload 7, 2) := by decide +kernel
theorem dX10_layHours_99 : decode cX10_layHours 99 = .ok (.iconst 1, 1) := by decide +kernel
theorem dX10_layHours_100 : decode cX10_layHours 100 = .ok (.iload_n 1, 1) := by decide +kernel
theorem dX10_layHours_101 : decode cX10_layHours 101 = .ok (.ishl, 1) := by decide +kernel
theorem dX10_layHours_102 : decode cX10_layHours 102 = .ok (.invokevirtual 201, 3) := by decide +kernel
theorem dX10_layHours_105 : decode cX10_layHours 105 = .ok (.ifCond .eq 30, 3) := by decide +kernel
theorem dX10_layHours_108 : decode cX10_layHours 108 = .ok (.aload_n 2, 1) := by decide +kernel
theorem dX10_layHours_109 : decode cX10_layHours 109 = .ok (.iload 8, 2) := by decide +kernel
theorem dX10_layHours_111 : decode cX10_layHours 111 = .ok (.aload_n 2, 1) := by decide +kernel
theorem dX10_layHours_112 : decode cX10_layHours 112 = .ok (.iload 8, 2) := by decide +kernel
theorem dX10_layHours_114 : decode cX10_layHours 114 = .ok (.laload, 1) := by decide +kernel
theorem dX10_layHours_115 : decode cX10_layHours 115 = .ok (.aload_n 2, 1) := by decide +kernel
theorem dX10_layHours_116 : decode cX10_layHours 116 = .ok (.iload 7, 2) := by decide +kernel
theorem dX10_layHours_118 : decode cX10_layHours 118 = .ok (.laload, 1) := by decide +kernel
theorem dX10_layHours_119 : decode cX10_layHours 119 = .ok (.aload_n 0, 1) := by decide +kernel
theorem dX10_layHours_120 : decode cX10_layHours 120 = .ok (.getfield 26, 3) := by decide +kernel
theorem dX10_layHours_123 : decode cX10_layHours 123 = .ok (.iconst 3, 1) := by decide +kernel
theorem dX10_layHours_124 : decode cX10_layHours 124 = .ok (.iload 6, 2) := by decide +kernel
theorem dX10_layHours_126 : decode cX10_layHours 126 = .ok (.imul, 1) := by decide +kernel
theorem dX10_layHours_127 : decode cX10_layHours 127 = .ok (.iconst 2, 1) := by decide +kernel
theorem dX10_layHours_128 : decode cX10_layHours 128 = .ok (.iadd, 1) := by decide +kernel
theorem dX10_layHours_129 : decode cX10_layHours 129 = .ok (.iaload, 1) := by decide +kernel
theorem dX10_layHours_130 : decode cX10_layHours 130 = .ok (.lshl, 1) := by decide +kernel
theorem dX10_layHours_131 : decode cX10_layHours 131 = .ok (.lload_n 3, 1) := by decide +kernel
theorem dX10_layHours_132 : decode cX10_layHours 132 = .ok (.land, 1) := by decide +kernel
theorem dX10_layHours_133 : decode cX10_layHours 133 = .ok (.lor, 1) := by decide +kernel
theorem dX10_layHours_134 : decode cX10_layHours 134 = .ok (.lastore, 1) := by decide +kernel
theorem dX10_layHours_135 : decode cX10_layHours 135 = .ok (.iinc 6 1, 3) := by decide +kernel
theorem dX10_layHours_138 : decode cX10_layHours 138 = .ok (.goto (-91), 3) := by decide +kernel
theorem dX10_layHours_141 : decode cX10_layHours 141 = .ok (.iinc 5 1, 3) := by decide +kernel
theorem dX10_layHours_144 : decode cX10_layHours 144 = .ok (.goto (-109), 3) := by decide +kernel
theorem dX10_layHours_147 : decode cX10_layHours 147 = .ok (.return_, 1) := by decide +kernel
theorem dX10_meet_0 : decode cX10_meet 0 = .ok (.iload_n 1, 1) := by decide +kernel
theorem dX10_meet_1 : decode cX10_meet 1 = .ok (.invokestatic 187, 3) := by decide +kernel
theorem dX10_meet_4 : decode cX10_meet 4 = .ok (.ifCond .eq 15, 3) := by decide +kernel
theorem dX10_meet_7 : decode cX10_meet 7 = .ok (.iload_n 2, 1) := by decide +kernel
theorem dX10_meet_8 : decode cX10_meet 8 = .ok (.invokestatic 187, 3) := by decide +kernel
theorem dX10_meet_11 : decode cX10_meet 11 = .ok (.ifCond .eq 8, 3) := by decide +kernel
theorem dX10_meet_14 : decode cX10_meet 14 = .ok (.iload_n 1, 1) := by decide +kernel
theorem dX10_meet_15 : decode cX10_meet 15 = .ok (.iload_n 2, 1) := by decide +kernel
theorem dX10_meet_16 : decode cX10_meet 16 = .ok (.if_icmp .ne 6, 3) := by decide +kernel
theorem dX10_meet_19 : decode cX10_meet 19 = .ok (.ldc 183, 2) := by decide +kernel
theorem dX10_meet_21 : decode cX10_meet 21 = .ok (.ireturn, 1) := by decide +kernel
theorem dX10_meet_22 : decode cX10_meet 22 = .ok (.iload_n 3, 1) := by decide +kernel
theorem dX10_meet_23 : decode cX10_meet 23 = .ok (.iconst 0, 1) := by decide +kernel
theorem dX10_meet_24 : decode cX10_meet 24 = .ok (.bipush 30, 2) := by decide +kernel
theorem dX10_meet_26 : decode cX10_meet 26 = .ok (.invokestatic 83, 3) := by decide +kernel
theorem dX10_meet_29 : decode cX10_meet 29 = .ok (.ifCond .ne 6, 3) := by decide +kernel
theorem dX10_meet_32 : decode cX10_meet 32 = .ok (.ldc 90, 2) := by decide +kernel
theorem dX10_meet_34 : decode cX10_meet 34 = .ok (.ireturn, 1) := by decide +kernel
theorem dX10_meet_35 : decode cX10_meet 35 = .ok (.aload_n 0, 1) := by decide +kernel
theorem dX10_meet_36 : decode cX10_meet 36 = .ok (.iload_n 1, 1) := by decide +kernel
theorem dX10_meet_37 : decode cX10_meet 37 = .ok (.aload_n 0, 1) := by decide +kernel
theorem dX10_meet_38 : decode cX10_meet 38 = .ok (.getfield 60, 3) := by decide +kernel
theorem dX10_meet_41 : decode cX10_meet 41 = .ok (.invokevirtual 235, 3) := by decide +kernel
theorem dX10_meet_44 : decode cX10_meet 44 = .ok (.aload_n 0, 1) := by decide +kernel
theorem dX10_meet_45 : decode cX10_meet 45 = .ok (.iload_n 2, 1) := by decide +kernel
theorem dX10_meet_46 : decode cX10_meet 46 = .ok (.aload_n 0, 1) := by decide +kernel
theorem dX10_meet_47 : decode cX10_meet 47 = .ok (.getfield 64, 3) := by decide +kernel
theorem dX10_meet_50 : decode cX10_meet 50 = .ok (.invokevirtual 235, 3) := by decide +kernel
theorem dX10_meet_53 : decode cX10_meet 53 = .ok (.iconst (-1), 1) := by decide +kernel
theorem dX10_meet_54 : decode cX10_meet 54 = .ok (.istore 4, 2) := by decide +kernel
theorem dX10_meet_56 : decode cX10_meet 56 = .ok (.iconst 0, 1) := by decide +kernel
theorem dX10_meet_57 : decode cX10_meet 57 = .ok (.istore 5, 2) := by decide +kernel
theorem dX10_meet_59 : decode cX10_meet 59 = .ok (.iload 5, 2) := by decide +kernel
theorem dX10_meet_61 : decode cX10_meet 61 = .ok (.aload_n 0, 1) := by decide +kernel
theorem dX10_meet_62 : decode cX10_meet 62 = .ok (.getfield 80, 3) := by decide +kernel
theorem dX10_meet_65 : decode cX10_meet 65 = .ok (.if_icmp .ge 76, 3) := by decide +kernel
theorem dX10_meet_68 : decode cX10_meet 68 = .ok (.aload_n 0, 1) := by decide +kernel
theorem dX10_meet_69 : decode cX10_meet 69 = .ok (.getfield 60, 3) := by decide +kernel
theorem dX10_meet_72 : decode cX10_meet 72 = .ok (.iload 5, 2) := by decide +kernel
theorem dX10_meet_74 : decode cX10_meet 74 = .ok (.laload, 1) := by decide +kernel
theorem dX10_meet_75 : decode cX10_meet 75 = .ok (.aload_n 0, 1) := by decide +kernel
theorem dX10_meet_76 : decode cX10_meet 76 = .ok (.getfield 64, 3) := by decide +kernel
theorem dX10_meet_79 : decode cX10_meet 79 = .ok (.iload 5, 2) := by decide +kernel
theorem dX10_meet_81 : decode cX10_meet 81 = .ok (.laload, 1) := by decide +kernel
theorem dX10_meet_82 : decode cX10_meet 82 = .ok (.iload_n 3, 1) := by decide +kernel
theorem dX10_meet_83 : decode cX10_meet 83 = .ok (.lshl, 1) := by decide +kernel
theorem dX10_meet_84 : decode cX10_meet 84 = .ok (.land, 1) := by decide +kernel
theorem dX10_meet_85 : decode cX10_meet 85 = .ok (.lstore 6, 2) := by decide +kernel
theorem dX10_meet_87 : decode cX10_meet 87 = .ok (.bipush 60, 2) := by decide +kernel
theorem dX10_meet_89 : decode cX10_meet 89 = .ok (.istore 8, 2) := by decide +kernel
theorem dX10_meet_91 : decode cX10_meet 91 = .ok (.iload 8, 2) := by decide +kernel
theorem dX10_meet_93 : decode cX10_meet 93 = .ok (.ifCond .lt 42, 3) := by decide +kernel
theorem dX10_meet_96 : decode cX10_meet 96 = .ok (.lload 6, 2) := by decide +kernel
theorem dX10_meet_98 : decode cX10_meet 98 = .ok (.iload 8, 2) := by decide +kernel
