theorem dX10_meet_100 : decode cX10_meet 100 = .ok (.lshr, 1) := by decide +kernel
theorem dX10_meet_101 : decode cX10_meet 101 = .ok (.lconst 1, 1) := by decide +kernel
theorem dX10_meet_102 : decode cX10_meet 102 = .ok (.land, 1) := by decide +kernel
theorem dX10_meet_103 : decode cX10_meet 103 = .ok (.lconst 1, 1) := by decide +kernel
theorem dX10_meet_104 : decode cX10_meet 104 = .ok (.lcmp, 1) := by decide +kernel
theorem dX10_meet_105 : decode cX10_meet 105 = .ok (.ifCond .ne 20, 3) := by decide +kernel
theorem dX10_meet_108 : decode cX10_meet 108 = .ok (.iload 4, 2) := by decide +kernel
theorem dX10_meet_110 : decode cX10_meet 110 = .ok (.ifCond .lt 10, 3) := by decide +kernel
theorem dX10_meet_113 : decode cX10_meet 113 = .ok (.iload 8, 2) := by decide +kernel
theorem dX10_meet_115 : decode cX10_meet 115 = .ok (.iload 4, 2) := by decide +kernel
theorem dX10_meet_117 : decode cX10_meet 117 = .ok (.if_icmp .ge 8, 3) := by decide +kernel
theorem dX10_meet_120 : decode cX10_meet 120 = .ok (.iload 8, 2) := by decide +kernel
theorem dX10_meet_122 : decode cX10_meet 122 = .ok (.goto 5, 3) := by decide +kernel
theorem dX10_meet_125 : decode cX10_meet 125 = .ok (.iload 4, 2) := by decide +kernel
theorem dX10_meet_127 : decode cX10_meet 127 = .ok (.istore 4, 2) := by decide +kernel
theorem dX10_meet_129 : decode cX10_meet 129 = .ok (.iinc 8 (-1), 3) := by decide +kernel
theorem dX10_meet_132 : decode cX10_meet 132 = .ok (.goto (-41), 3) := by decide +kernel
theorem dX10_meet_135 : decode cX10_meet 135 = .ok (.iinc 5 1, 3) := by decide +kernel
theorem dX10_meet_138 : decode cX10_meet 138 = .ok (.goto (-79), 3) := by decide +kernel
theorem dX10_meet_141 : decode cX10_meet 141 = .ok (.iload 4, 2) := by decide +kernel
theorem dX10_meet_143 : decode cX10_meet 143 = .ok (.ireturn, 1) := by decide +kernel
theorem dX10_layOrder_0 : decode cX10_layOrder 0 = .ok (.iconst 0, 1) := by decide +kernel
theorem dX10_layOrder_1 : decode cX10_layOrder 1 = .ok (.istore_n 1, 1) := by decide +kernel
theorem dX10_layOrder_2 : decode cX10_layOrder 2 = .ok (.iload_n 1, 1) := by decide +kernel
theorem dX10_layOrder_3 : decode cX10_layOrder 3 = .ok (.aload_n 0, 1) := by decide +kernel
theorem dX10_layOrder_4 : decode cX10_layOrder 4 = .ok (.getfield 80, 3) := by decide +kernel
theorem dX10_layOrder_7 : decode cX10_layOrder 7 = .ok (.if_icmp .ge 72, 3) := by decide +kernel
theorem dX10_layOrder_10 : decode cX10_layOrder 10 = .ok (.iload_n 1, 1) := by decide +kernel
theorem dX10_layOrder_11 : decode cX10_layOrder 11 = .ok (.istore_n 2, 1) := by decide +kernel
theorem dX10_layOrder_12 : decode cX10_layOrder 12 = .ok (.iload_n 2, 1) := by decide +kernel
theorem dX10_layOrder_13 : decode cX10_layOrder 13 = .ok (.ifCond .le 53, 3) := by decide +kernel
theorem dX10_layOrder_16 : decode cX10_layOrder 16 = .ok (.aload_n 0, 1) := by decide +kernel
theorem dX10_layOrder_17 : decode cX10_layOrder 17 = .ok (.getfield 23, 3) := by decide +kernel
theorem dX10_layOrder_20 : decode cX10_layOrder 20 = .ok (.iconst 2, 1) := by decide +kernel
theorem dX10_layOrder_21 : decode cX10_layOrder 21 = .ok (.aload_n 0, 1) := by decide +kernel
theorem dX10_layOrder_22 : decode cX10_layOrder 22 = .ok (.getfield 70, 3) := by decide +kernel
theorem dX10_layOrder_25 : decode cX10_layOrder 25 = .ok (.iload_n 2, 1) := by decide +kernel
theorem dX10_layOrder_26 : decode cX10_layOrder 26 = .ok (.iconst 1, 1) := by decide +kernel
theorem dX10_layOrder_27 : decode cX10_layOrder 27 = .ok (.isub, 1) := by decide +kernel
theorem dX10_layOrder_28 : decode cX10_layOrder 28 = .ok (.iaload, 1) := by decide +kernel
theorem dX10_layOrder_29 : decode cX10_layOrder 29 = .ok (.imul, 1) := by decide +kernel
theorem dX10_layOrder_30 : decode cX10_layOrder 30 = .ok (.iconst 1, 1) := by decide +kernel
theorem dX10_layOrder_31 : decode cX10_layOrder 31 = .ok (.iadd, 1) := by decide +kernel
theorem dX10_layOrder_32 : decode cX10_layOrder 32 = .ok (.iaload, 1) := by decide +kernel
theorem dX10_layOrder_33 : decode cX10_layOrder 33 = .ok (.aload_n 0, 1) := by decide +kernel
theorem dX10_layOrder_34 : decode cX10_layOrder 34 = .ok (.getfield 23, 3) := by decide +kernel
theorem dX10_layOrder_37 : decode cX10_layOrder 37 = .ok (.iconst 2, 1) := by decide +kernel
theorem dX10_layOrder_38 : decode cX10_layOrder 38 = .ok (.iload_n 1, 1) := by decide +kernel
theorem dX10_layOrder_39 : decode cX10_layOrder 39 = .ok (.imul, 1) := by decide +kernel
theorem dX10_layOrder_40 : decode cX10_layOrder 40 = .ok (.iconst 1, 1) := by decide +kernel
theorem dX10_layOrder_41 : decode cX10_layOrder 41 = .ok (.iadd, 1) := by decide +kernel
theorem dX10_layOrder_42 : decode cX10_layOrder 42 = .ok (.iaload, 1) := by decide +kernel
theorem dX10_layOrder_43 : decode cX10_layOrder 43 = .ok (.if_icmp .ge 23, 3) := by decide +kernel
theorem dX10_layOrder_46 : decode cX10_layOrder 46 = .ok (.aload_n 0, 1) := by decide +kernel
theorem dX10_layOrder_47 : decode cX10_layOrder 47 = .ok (.getfield 70, 3) := by decide +kernel
theorem dX10_layOrder_50 : decode cX10_layOrder 50 = .ok (.iload_n 2, 1) := by decide +kernel
theorem dX10_layOrder_51 : decode cX10_layOrder 51 = .ok (.aload_n 0, 1) := by decide +kernel
theorem dX10_layOrder_52 : decode cX10_layOrder 52 = .ok (.getfield 70, 3) := by decide +kernel
theorem dX10_layOrder_55 : decode cX10_layOrder 55 = .ok (.iload_n 2, 1) := by decide +kernel
theorem dX10_layOrder_56 : decode cX10_layOrder 56 = .ok (.iconst 1, 1) := by decide +kernel
theorem dX10_layOrder_57 : decode cX10_layOrder 57 = .ok (.isub, 1) := by decide +kernel
theorem dX10_layOrder_58 : decode cX10_layOrder 58 = .ok (.iaload, 1) := by decide +kernel
theorem dX10_layOrder_59 : decode cX10_layOrder 59 = .ok (.iastore, 1) := by decide +kernel
theorem dX10_layOrder_60 : decode cX10_layOrder 60 = .ok (.iinc 2 (-1), 3) := by decide +kernel
theorem dX10_layOrder_63 : decode cX10_layOrder 63 = .ok (.goto (-51), 3) := by decide +kernel
theorem dX10_layOrder_66 : decode cX10_layOrder 66 = .ok (.aload_n 0, 1) := by decide +kernel
theorem dX10_layOrder_67 : decode cX10_layOrder 67 = .ok (.getfield 70, 3) := by decide +kernel
theorem dX10_layOrder_70 : decode cX10_layOrder 70 = .ok (.iload_n 2, 1) := by decide +kernel
theorem dX10_layOrder_71 : decode cX10_layOrder 71 = .ok (.iload_n 1, 1) := by decide +kernel
theorem dX10_layOrder_72 : decode cX10_layOrder 72 = .ok (.iastore, 1) := by decide +kernel
theorem dX10_layOrder_73 : decode cX10_layOrder 73 = .ok (.iinc 1 1, 3) := by decide +kernel
theorem dX10_layOrder_76 : decode cX10_layOrder 76 = .ok (.goto (-74), 3) := by decide +kernel
theorem dX10_layOrder_79 : decode cX10_layOrder 79 = .ok (.return_, 1) := by decide +kernel
theorem dX10_layWays_0 : decode cX10_layWays 0 = .ok (.aload_n 0, 1) := by decide +kernel
theorem dX10_layWays_1 : decode cX10_layWays 1 = .ok (.invokevirtual 239, 3) := by decide +kernel
theorem dX10_layWays_4 : decode cX10_layWays 4 = .ok (.iconst 0, 1) := by decide +kernel
theorem dX10_layWays_5 : decode cX10_layWays 5 = .ok (.istore_n 1, 1) := by decide +kernel
theorem dX10_layWays_6 : decode cX10_layWays 6 = .ok (.iload_n 1, 1) := by decide +kernel
theorem dX10_layWays_7 : decode cX10_layWays 7 = .ok (.aload_n 0, 1) := by decide +kernel
theorem dX10_layWays_8 : decode cX10_layWays 8 = .ok (.getfield 80, 3) := by decide +kernel
theorem dX10_layWays_11 : decode cX10_layWays 11 = .ok (.if_icmp .ge 39, 3) := by decide +kernel
theorem dX10_layWays_14 : decode cX10_layWays 14 = .ok (.aload_n 0, 1) := by decide +kernel
theorem dX10_layWays_15 : decode cX10_layWays 15 = .ok (.getfield 54, 3) := by decide +kernel
theorem dX10_layWays_18 : decode cX10_layWays 18 = .ok (.iload_n 1, 1) := by decide +kernel
theorem dX10_layWays_19 : decode cX10_layWays 19 = .ok (.iload_n 1, 1) := by decide +kernel
theorem dX10_layWays_20 : decode cX10_layWays 20 = .ok (.ifCond .ne 7, 3) := by decide +kernel
theorem dX10_layWays_23 : decode cX10_layWays 23 = .ok (.iconst 0, 1) := by decide +kernel
theorem dX10_layWays_24 : decode cX10_layWays 24 = .ok (.goto 4, 3) := by decide +kernel
theorem dX10_layWays_27 : decode cX10_layWays 27 = .ok (.iconst (-1), 1) := by decide +kernel
theorem dX10_layWays_28 : decode cX10_layWays 28 = .ok (.iastore, 1) := by decide +kernel
theorem dX10_layWays_29 : decode cX10_layWays 29 = .ok (.aload_n 0, 1) := by decide +kernel
theorem dX10_layWays_30 : decode cX10_layWays 30 = .ok (.getfield 57, 3) := by decide +kernel
theorem dX10_layWays_33 : decode cX10_layWays 33 = .ok (.iload_n 1, 1) := by decide +kernel
theorem dX10_layWays_34 : decode cX10_layWays 34 = .ok (.iload_n 1, 1) := by decide +kernel
theorem dX10_layWays_35 : decode cX10_layWays 35 = .ok (.ifCond .ne 7, 3) := by decide +kernel
theorem dX10_layWays_38 : decode cX10_layWays 38 = .ok (.iconst 1, 1) := by decide +kernel
theorem dX10_layWays_39 : decode cX10_layWays 39 = .ok (.goto 4, 3) := by decide +kernel
theorem dX10_layWays_42 : decode cX10_layWays 42 = .ok (.iconst 0, 1) := by decide +kernel
theorem dX10_layWays_43 : decode cX10_layWays 43 = .ok (.iastore, 1) := by decide +kernel
theorem dX10_layWays_44 : decode cX10_layWays 44 = .ok (.iinc 1 1, 3) := by decide +kernel
theorem dX10_layWays_47 : decode cX10_layWays 47 = .ok (.goto (-41), 3) := by decide +kernel
theorem dX10_layWays_50 : decode cX10_layWays 50 = .ok (.iconst 0, 1) := by decide +kernel
theorem dX10_layWays_51 : decode cX10_layWays 51 = .ok (.istore_n 1, 1) := by decide +kernel
theorem dX10_layWays_52 : decode cX10_layWays 52 = .ok (.iload_n 1, 1) := by decide +kernel
theorem dX10_layWays_53 : decode cX10_layWays 53 = .ok (.aload_n 0, 1) := by decide +kernel
theorem dX10_layWays_54 : decode cX10_layWays 54 = .ok (.getfield 80, 3) := by decide +kernel
theorem dX10_layWays_57 : decode cX10_layWays 57 = .ok (.if_icmp .ge 147, 3) := by decide +kernel
theorem dX10_layWays_60 : decode cX10_layWays 60 = .ok (.aload_n 0, 1) := by decide +kernel
theorem dX10_layWays_61 : decode cX10_layWays 61 = .ok (.getfield 70, 3) := by decide +kernel
theorem dX10_layWays_64 : decode cX10_layWays 64 = .ok (.iload_n 1, 1) := by decide +kernel
theorem dX10_layWays_65 : decode cX10_layWays 65 = .ok (.iaload, 1) := by decide +kernel
theorem dX10_layWays_66 : decode cX10_layWays 66 = .ok (.istore_n 2, 1) := by decide +kernel
theorem dX10_layWays_67 : decode cX10_layWays 67 = .ok (.iconst 0, 1) := by decide +kernel
theorem dX10_layWays_68 : decode cX10_layWays 68 = .ok (.istore_n 3, 1) := by decide +kernel
theorem dX10_layWays_69 : decode cX10_layWays 69 = .ok (.iload_n 3, 1) := by decide +kernel
theorem dX10_layWays_70 : decode cX10_layWays 70 = .ok (.aload_n 0, 1) := by decide +kernel
theorem dX10_layWays_71 : decode cX10_layWays 71 = .ok (.getfield 87, 3) := by decide +kernel
theorem dX10_layWays_74 : decode cX10_layWays 74 = .ok (.if_icmp .ge 124, 3) := by decide +kernel
theorem dX10_layWays_77 : decode cX10_layWays 77 = .ok (.aload_n 0, 1) := by decide +kernel
theorem dX10_layWays_78 : decode cX10_layWays 78 = .ok (.getfield 26, 3) := by decide +kernel
theorem dX10_layWays_81 : decode cX10_layWays 81 = .ok (.iconst 3, 1) := by decide +kernel
theorem dX10_layWays_82 : decode cX10_layWays 82 = .ok (.iload_n 3, 1) := by decide +kernel
theorem dX10_layWays_83 : decode cX10_layWays 83 = .ok (.imul, 1) := by decide +kernel
theorem dX10_layWays_84 : decode cX10_layWays 84 = .ok (.iaload, 1) := by decide +kernel
theorem dX10_layWays_85 : decode cX10_layWays 85 = .ok (.iload_n 2, 1) := by decide +kernel
theorem dX10_layWays_86 : decode cX10_layWays 86 = .ok (.if_icmp .ne 106, 3) := by decide +kernel
theorem dX10_layWays_89 : decode cX10_layWays 89 = .ok (.aload_n 0, 1) := by decide +kernel
theorem dX10_layWays_90 : decode cX10_layWays 90 = .ok (.getfield 29, 3) := by decide +kernel
theorem dX10_layWays_93 : decode cX10_layWays 93 = .ok (.sipush 172, 3) := by decide +kernel
theorem dX10_layWays_96 : decode cX10_layWays 96 = .ok (.iaload, 1) := by decide +kernel
theorem dX10_layWays_97 : decode cX10_layWays 97 = .ok (.iload_n 3, 1) := by decide +kernel
theorem dX10_layWays_98 : decode cX10_layWays 98 = .ok (.invokestatic 194, 3) := by decide +kernel
theorem dX10_layWays_101 : decode cX10_layWays 101 = .ok (.ifCond .ne 91, 3) := by decide +kernel
theorem dX10_layWays_104 : decode cX10_layWays 104 = .ok (.aload_n 0, 1) := by decide +kernel
theorem dX10_layWays_105 : decode cX10_layWays 105 = .ok (.getfield 54, 3) := by decide +kernel
theorem dX10_layWays_108 : decode cX10_layWays 108 = .ok (.iload_n 2, 1) := by decide +kernel
theorem dX10_layWays_109 : decode cX10_layWays 109 = .ok (.iaload, 1) := by decide +kernel
theorem dX10_layWays_110 : decode cX10_layWays 110 = .ok (.iconst (-1), 1) := by decide +kernel
theorem dX10_layWays_111 : decode cX10_layWays 111 = .ok (.if_icmp .eq 81, 3) := by decide +kernel
theorem dX10_layWays_114 : decode cX10_layWays 114 = .ok (.aload_n 0, 1) := by decide +kernel
theorem dX10_layWays_115 : decode cX10_layWays 115 = .ok (.getfield 26, 3) := by decide +kernel
theorem dX10_layWays_118 : decode cX10_layWays 118 = .ok (.iconst 3, 1) := by decide +kernel
theorem dX10_layWays_119 : decode cX10_layWays 119 = .ok (.iload_n 3, 1) := by decide +kernel
theorem dX10_layWays_120 : decode cX10_layWays 120 = .ok (.imul, 1) := by decide +kernel
theorem dX10_layWays_121 : decode cX10_layWays 121 = .ok (.iconst 1, 1) := by decide +kernel
theorem dX10_layWays_122 : decode cX10_layWays 122 = .ok (.iadd, 1) := by decide +kernel
theorem dX10_layWays_123 : decode cX10_layWays 123 = .ok (.iaload, 1) := by decide +kernel
theorem dX10_layWays_124 : decode cX10_layWays 124 = .ok (.istore 4, 2) := by decide +kernel
theorem dX10_layWays_126 : decode cX10_layWays 126 = .ok (.aload_n 0, 1) := by decide +kernel
theorem dX10_layWays_127 : decode cX10_layWays 127 = .ok (.getfield 54, 3) := by decide +kernel
theorem dX10_layWays_130 : decode cX10_layWays 130 = .ok (.iload_n 2, 1) := by decide +kernel
theorem dX10_layWays_131 : decode cX10_layWays 131 = .ok (.iaload, 1) := by decide +kernel
theorem dX10_layWays_132 : decode cX10_layWays 132 = .ok (.aload_n 0, 1) := by decide +kernel
theorem dX10_layWays_133 : decode cX10_layWays 133 = .ok (.getfield 26, 3) := by decide +kernel
theorem dX10_layWays_136 : decode cX10_layWays 136 = .ok (.iconst 3, 1) := by decide +kernel
theorem dX10_layWays_137 : decode cX10_layWays 137 = .ok (.iload_n 3, 1) := by decide +kernel
theorem dX10_layWays_138 : decode cX10_layWays 138 = .ok (.imul, 1) := by decide +kernel
theorem dX10_layWays_139 : decode cX10_layWays 139 = .ok (.iconst 2, 1) := by decide +kernel
theorem dX10_layWays_140 : decode cX10_layWays 140 = .ok (.iadd, 1) := by decide +kernel
theorem dX10_layWays_141 : decode cX10_layWays 141 = .ok (.iaload, 1) := by decide +kernel
theorem dX10_layWays_142 : decode cX10_layWays 142 = .ok (.iadd, 1) := by decide +kernel
theorem dX10_layWays_143 : decode cX10_layWays 143 = .ok (.istore 5, 2) := by decide +kernel
theorem dX10_layWays_145 : decode cX10_layWays 145 = .ok (.aload_n 0, 1) := by decide +kernel
theorem dX10_layWays_146 : decode cX10_layWays 146 = .ok (.getfield 54, 3) := by decide +kernel
theorem dX10_layWays_149 : decode cX10_layWays 149 = .ok (.iload 4, 2) := by decide +kernel
theorem dX10_layWays_151 : decode cX10_layWays 151 = .ok (.iload 5, 2) := by decide +kernel
theorem dX10_layWays_153 : decode cX10_layWays 153 = .ok (.aload_n 0, 1) := by decide +kernel
theorem dX10_layWays_154 : decode cX10_layWays 154 = .ok (.getfield 54, 3) := by decide +kernel
theorem dX10_layWays_157 : decode cX10_layWays 157 = .ok (.iload 4, 2) := by decide +kernel
theorem dX10_layWays_159 : decode cX10_layWays 159 = .ok (.iaload, 1) := by decide +kernel
theorem dX10_layWays_160 : decode cX10_layWays 160 = .ok (.if_icmp .le 8, 3) := by decide +kernel
theorem dX10_layWays_163 : decode cX10_layWays 163 = .ok (.iload 5, 2) := by decide +kernel
theorem dX10_layWays_165 : decode cX10_layWays 165 = .ok (.goto 10, 3) := by decide +kernel
theorem dX10_layWays_168 : decode cX10_layWays 168 = .ok (.aload_n 0, 1) := by decide +kernel
theorem dX10_layWays_169 : decode cX10_layWays 169 = .ok (.getfield 54, 3) := by decide +kernel
theorem dX10_layWays_172 : decode cX10_layWays 172 = .ok (.iload 4, 2) := by decide +kernel
theorem dX10_layWays_174 : decode cX10_layWays 174 = .ok (.iaload, 1) := by decide +kernel
theorem dX10_layWays_175 : decode cX10_layWays 175 = .ok (.iastore, 1) := by decide +kernel
theorem dX10_layWays_176 : decode cX10_layWays 176 = .ok (.aload_n 0, 1) := by decide +kernel
theorem dX10_layWays_177 : decode cX10_layWays 177 = .ok (.getfield 57, 3) := by decide +kernel
theorem dX10_layWays_180 : decode cX10_layWays 180 = .ok (.iload 4, 2) := by decide +kernel
theorem dX10_layWays_182 : decode cX10_layWays 182 = .ok (.dup2, 1) := by decide +kernel
theorem dX10_layWays_183 : decode cX10_layWays 183 = .ok (.iaload, 1) := by decide +kernel
theorem dX10_layWays_184 : decode cX10_layWays 184 = .ok (.aload_n 0, 1) := by decide +kernel
theorem dX10_layWays_185 : decode cX10_layWays 185 = .ok (.getfield 57, 3) := by decide +kernel
theorem dX10_layWays_188 : decode cX10_layWays 188 = .ok (.iload_n 2, 1) := by decide +kernel
theorem dX10_layWays_189 : decode cX10_layWays 189 = .ok (.iaload, 1) := by decide +kernel
theorem dX10_layWays_190 : decode cX10_layWays 190 = .ok (.iadd, 1) := by decide +kernel
theorem dX10_layWays_191 : decode cX10_layWays 191 = .ok (.iastore, 1) := by decide +kernel
theorem dX10_layWays_192 : decode cX10_layWays 192 = .ok (.iinc 3 1, 3) := by decide +kernel
theorem dX10_layWays_195 : decode cX10_layWays 195 = .ok (.goto (-126), 3) := by decide +kernel
theorem dX10_layWays_198 : decode cX10_layWays 198 = .ok (.iinc 1 1, 3) := by decide +kernel
theorem dX10_layWays_201 : decode cX10_layWays 201 = .ok (.goto (-149), 3) := by decide +kernel
theorem dX10_layWays_204 : decode cX10_layWays 204 = .ok (.return_, 1) := by decide +kernel
theorem dX10_longest_0 : decode cX10_longest 0 = .ok (.aload_n 0, 1) := by decide +kernel
theorem dX10_longest_1 : decode cX10_longest 1 = .ok (.iload_n 1, 1) := by decide +kernel
theorem dX10_longest_2 : decode cX10_longest 2 = .ok (.invokevirtual 180, 3) := by decide +kernel
theorem dX10_longest_5 : decode cX10_longest 5 = .ok (.ifCond .ne 6, 3) := by decide +kernel
theorem dX10_longest_8 : decode cX10_longest 8 = .ok (.ldc 183, 2) := by decide +kernel
theorem dX10_longest_10 : decode cX10_longest 10 = .ok (.ireturn, 1) := by decide +kernel
theorem dX10_longest_11 : decode cX10_longest 11 = .ok (.aload_n 0, 1) := by decide +kernel
theorem dX10_longest_12 : decode cX10_longest 12 = .ok (.invokevirtual 242, 3) := by decide +kernel
theorem dX10_longest_15 : decode cX10_longest 15 = .ok (.aload_n 0, 1) := by decide +kernel
theorem dX10_longest_16 : decode cX10_longest 16 = .ok (.getfield 54, 3) := by decide +kernel
theorem dX10_longest_19 : decode cX10_longest 19 = .ok (.iload_n 1, 1) := by decide +kernel
theorem dX10_longest_20 : decode cX10_longest 20 = .ok (.iaload, 1) := by decide +kernel
theorem dX10_longest_21 : decode cX10_longest 21 = .ok (.ireturn, 1) := by decide +kernel
theorem dX10_ways_0 : decode cX10_ways 0 = .ok (.aload_n 0, 1) := by decide +kernel
theorem dX10_ways_1 : decode cX10_ways 1 = .ok (.iload_n 1, 1) := by decide +kernel
theorem dX10_ways_2 : decode cX10_ways 2 = .ok (.invokevirtual 180, 3) := by decide +kernel
theorem dX10_ways_5 : decode cX10_ways 5 = .ok (.ifCond .ne 6, 3) := by decide +kernel
theorem dX10_ways_8 : decode cX10_ways 8 = .ok (.ldc 183, 2) := by decide +kernel
theorem dX10_ways_10 : decode cX10_ways 10 = .ok (.ireturn, 1) := by decide +kernel
theorem dX10_ways_11 : decode cX10_ways 11 = .ok (.aload_n 0, 1) := by decide +kernel
theorem dX10_ways_12 : decode cX10_ways 12 = .ok (.invokevirtual 242, 3) := by decide +kernel
theorem dX10_ways_15 : decode cX10_ways 15 = .ok (.aload_n 0, 1) := by decide +kernel
theorem dX10_ways_16 : decode cX10_ways 16 = .ok (.getfield 57, 3) := by decide +kernel
theorem dX10_ways_19 : decode cX10_ways 19 = .ok (.iload_n 1, 1) := by decide +kernel
theorem dX10_ways_20 : decode cX10_ways 20 = .ok (.iaload, 1) := by decide +kernel
theorem dX10_ways_21 : decode cX10_ways 21 = .ok (.ireturn, 1) := by decide +kernel
theorem dX10_firstBlocked_0 : decode cX10_firstBlocked 0 = .ok (.aload_n 0, 1) := by decide +kernel
theorem dX10_firstBlocked_1 : decode cX10_firstBlocked 1 = .ok (.getfield 80, 3) := by decide +kernel
theorem dX10_firstBlocked_4 : decode cX10_firstBlocked 4 = .ok (.ifCond .ne 5, 3) := by decide +kernel
theorem dX10_firstBlocked_7 : decode cX10_firstBlocked 7 = .ok (.iconst (-1), 1) := by decide +kernel
theorem dX10_firstBlocked_8 : decode cX10_firstBlocked 8 = .ok (.ireturn, 1) := by decide +kernel
theorem dX10_firstBlocked_9 : decode cX10_firstBlocked 9 = .ok (.aload_n 0, 1) := by decide +kernel
theorem dX10_firstBlocked_10 : decode cX10_firstBlocked 10 = .ok (.aload_n 0, 1) := by decide +kernel
theorem dX10_firstBlocked_11 : decode cX10_firstBlocked 11 = .ok (.getfield 29, 3) := by decide +kernel
theorem dX10_firstBlocked_14 : decode cX10_firstBlocked 14 = .ok (.invokevirtual 172, 3) := by decide +kernel
theorem dX10_firstBlocked_17 : decode cX10_firstBlocked 17 = .ok (.istore_n 1, 1) := by decide +kernel
theorem dX10_firstBlocked_18 : decode cX10_firstBlocked 18 = .ok (.aload_n 0, 1) := by decide +kernel
theorem dX10_firstBlocked_19 : decode cX10_firstBlocked 19 = .ok (.getfield 29, 3) := by decide +kernel
theorem dX10_firstBlocked_22 : decode cX10_firstBlocked 22 = .ok (.iconst 0, 1) := by decide +kernel
theorem dX10_firstBlocked_23 : decode cX10_firstBlocked 23 = .ok (.aload_n 0, 1) := by decide +kernel
theorem dX10_firstBlocked_24 : decode cX10_firstBlocked 24 = .ok (.getfield 32, 3) := by decide +kernel
theorem dX10_firstBlocked_27 : decode cX10_firstBlocked 27 = .ok (.iconst 0, 1) := by decide +kernel
theorem dX10_firstBlocked_28 : decode cX10_firstBlocked 28 = .ok (.invokestatic 190, 3) := by decide +kernel
theorem dX10_firstBlocked_31 : decode cX10_firstBlocked 31 = .ok (.iconst 0, 1) := by decide +kernel
theorem dX10_firstBlocked_32 : decode cX10_firstBlocked 32 = .ok (.istore_n 2, 1) := by decide +kernel
theorem dX10_firstBlocked_33 : decode cX10_firstBlocked 33 = .ok (.iload_n 2, 1) := by decide +kernel
theorem dX10_firstBlocked_34 : decode cX10_firstBlocked 34 = .ok (.bipush 99, 2) := by decide +kernel
theorem dX10_firstBlocked_36 : decode cX10_firstBlocked 36 = .ok (.if_icmp .ge 74, 3) := by decide +kernel
theorem dX10_firstBlocked_39 : decode cX10_firstBlocked 39 = .ok (.aload_n 0, 1) := by decide +kernel
theorem dX10_firstBlocked_40 : decode cX10_firstBlocked 40 = .ok (.getfield 32, 3) := by decide +kernel
theorem dX10_firstBlocked_43 : decode cX10_firstBlocked 43 = .ok (.iconst 0, 1) := by decide +kernel
theorem dX10_firstBlocked_44 : decode cX10_firstBlocked 44 = .ok (.aload_n 0, 1) := by decide +kernel
theorem dX10_firstBlocked_45 : decode cX10_firstBlocked 45 = .ok (.getfield 32, 3) := by decide +kernel
theorem dX10_firstBlocked_48 : decode cX10_firstBlocked 48 = .ok (.iconst 0, 1) := by decide +kernel
theorem dX10_firstBlocked_49 : decode cX10_firstBlocked 49 = .ok (.iaload, 1) := by decide +kernel
theorem dX10_firstBlocked_50 : decode cX10_firstBlocked 50 = .ok (.iconst 1, 1) := by decide +kernel
theorem dX10_firstBlocked_51 : decode cX10_firstBlocked 51 = .ok (.ior, 1) := by decide +kernel
theorem dX10_firstBlocked_52 : decode cX10_firstBlocked 52 = .ok (.iastore, 1) := by decide +kernel
theorem dX10_firstBlocked_53 : decode cX10_firstBlocked 53 = .ok (.aload_n 0, 1) := by decide +kernel
theorem dX10_firstBlocked_54 : decode cX10_firstBlocked 54 = .ok (.aload_n 0, 1) := by decide +kernel
theorem dX10_firstBlocked_55 : decode cX10_firstBlocked 55 = .ok (.getfield 32, 3) := by decide +kernel
theorem dX10_firstBlocked_58 : decode cX10_firstBlocked 58 = .ok (.invokevirtual 209, 3) := by decide +kernel
theorem dX10_firstBlocked_61 : decode cX10_firstBlocked 61 = .ok (.aload_n 0, 1) := by decide +kernel
theorem dX10_firstBlocked_62 : decode cX10_firstBlocked 62 = .ok (.aload_n 0, 1) := by decide +kernel
theorem dX10_firstBlocked_63 : decode cX10_firstBlocked 63 = .ok (.getfield 32, 3) := by decide +kernel
theorem dX10_firstBlocked_66 : decode cX10_firstBlocked 66 = .ok (.invokevirtual 172, 3) := by decide +kernel
theorem dX10_firstBlocked_69 : decode cX10_firstBlocked 69 = .ok (.iload_n 1, 1) := by decide +kernel
theorem dX10_firstBlocked_70 : decode cX10_firstBlocked 70 = .ok (.iconst (-1), 1) := by decide +kernel
theorem dX10_firstBlocked_71 : decode cX10_firstBlocked 71 = .ok (.ixor, 1) := by decide +kernel
theorem dX10_firstBlocked_72 : decode cX10_firstBlocked 72 = .ok (.iand, 1) := by decide +kernel
theorem dX10_firstBlocked_73 : decode cX10_firstBlocked 73 = .ok (.istore_n 3, 1) := by decide +kernel
theorem dX10_firstBlocked_74 : decode cX10_firstBlocked 74 = .ok (.iconst 0, 1) := by decide +kernel
theorem dX10_firstBlocked_75 : decode cX10_firstBlocked 75 = .ok (.istore 4, 2) := by decide +kernel
theorem dX10_firstBlocked_77 : decode cX10_firstBlocked 77 = .ok (.iload 4, 2) := by decide +kernel
theorem dX10_firstBlocked_79 : decode cX10_firstBlocked 79 = .ok (.aload_n 0, 1) := by decide +kernel
theorem dX10_firstBlocked_80 : decode cX10_firstBlocked 80 = .ok (.getfield 87, 3) := by decide +kernel
theorem dX10_firstBlocked_83 : decode cX10_firstBlocked 83 = .ok (.if_icmp .ge 21, 3) := by decide +kernel
theorem dX10_firstBlocked_86 : decode cX10_firstBlocked 86 = .ok (.iload_n 3, 1) := by decide +kernel
theorem dX10_firstBlocked_87 : decode cX10_firstBlocked 87 = .ok (.iload 4, 2) := by decide +kernel
theorem dX10_firstBlocked_89 : decode cX10_firstBlocked 89 = .ok (.invokestatic 194, 3) := by decide +kernel
theorem dX10_firstBlocked_92 : decode cX10_firstBlocked 92 = .ok (.ifCond .eq 6, 3) := by decide +kernel
theorem dX10_firstBlocked_95 : decode cX10_firstBlocked 95 = .ok (.iload 4, 2) := by decide +kernel
theorem dX10_firstBlocked_97 : decode cX10_firstBlocked 97 = .ok (.ireturn, 1) := by decide +kernel
theorem dX10_firstBlocked_98 : decode cX10_firstBlocked 98 = .ok (.iinc 4 1, 3) := by decide +kernel
theorem dX10_firstBlocked_101 : decode cX10_firstBlocked 101 = .ok (.goto (-24), 3) := by decide +kernel
theorem dX10_firstBlocked_104 : decode cX10_firstBlocked 104 = .ok (.iinc 2 1, 3) := by decide +kernel
theorem dX10_firstBlocked_107 : decode cX10_firstBlocked 107 = .ok (.goto (-74), 3) := by decide +kernel
theorem dX10_firstBlocked_110 : decode cX10_firstBlocked 110 = .ok (.iconst (-1), 1) := by decide +kernel
theorem dX10_firstBlocked_111 : decode cX10_firstBlocked 111 = .ok (.ireturn, 1) := by decide +kernel
theorem dX10_share_0 : decode cX10_share 0 = .ok (.aload_n 0, 1) := by decide +kernel
theorem dX10_share_1 : decode cX10_share 1 = .ok (.iload_n 1, 1) := by decide +kernel
theorem dX10_share_2 : decode cX10_share 2 = .ok (.invokevirtual 180, 3) := by decide +kernel
theorem dX10_share_5 : decode cX10_share 5 = .ok (.ifCond .ne 6, 3) := by decide +kernel
theorem dX10_share_8 : decode cX10_share 8 = .ok (.ldc 183, 2) := by decide +kernel
theorem dX10_share_10 : decode cX10_share 10 = .ok (.ireturn, 1) := by decide +kernel
theorem dX10_share_11 : decode cX10_share 11 = .ok (.iconst 0, 1) := by decide +kernel
theorem dX10_share_12 : decode cX10_share 12 = .ok (.istore_n 2, 1) := by decide +kernel
theorem dX10_share_13 : decode cX10_share 13 = .ok (.iconst 0, 1) := by decide +kernel
theorem dX10_share_14 : decode cX10_share 14 = .ok (.istore_n 3, 1) := by decide +kernel
theorem dX10_share_15 : decode cX10_share 15 = .ok (.iload_n 3, 1) := by decide +kernel
theorem dX10_share_16 : decode cX10_share 16 = .ok (.aload_n 0, 1) := by decide +kernel
theorem dX10_share_17 : decode cX10_share 17 = .ok (.getfield 80, 3) := by decide +kernel
theorem dX10_share_20 : decode cX10_share 20 = .ok (.if_icmp .ge 24, 3) := by decide +kernel
theorem dX10_share_23 : decode cX10_share 23 = .ok (.iload_n 2, 1) := by decide +kernel
theorem dX10_share_24 : decode cX10_share 24 = .ok (.aload_n 0, 1) := by decide +kernel
theorem dX10_share_25 : decode cX10_share 25 = .ok (.getfield 29, 3) := by decide +kernel
theorem dX10_share_28 : decode cX10_share 28 = .ok (.bipush 80, 2) := by decide +kernel
theorem dX10_share_30 : decode cX10_share 30 = .ok (.iload_n 3, 1) := by decide +kernel
theorem dX10_share_31 : decode cX10_share 31 = .ok (.iadd, 1) := by decide +kernel
theorem dX10_share_32 : decode cX10_share 32 = .ok (.iaload, 1) := by decide +kernel
theorem dX10_share_33 : decode cX10_share 33 = .ok (.invokestatic 168, 3) := by decide +kernel
theorem dX10_share_36 : decode cX10_share 36 = .ok (.iadd, 1) := by decide +kernel
theorem dX10_share_37 : decode cX10_share 37 = .ok (.istore_n 2, 1) := by decide +kernel
theorem dX10_share_38 : decode cX10_share 38 = .ok (.iinc 3 1, 3) := by decide +kernel
theorem dX10_share_41 : decode cX10_share 41 = .ok (.goto (-26), 3) := by decide +kernel
theorem dX10_share_44 : decode cX10_share 44 = .ok (.iload_n 2, 1) := by decide +kernel
theorem dX10_share_45 : decode cX10_share 45 = .ok (.ifCond .ne 7, 3) := by decide +kernel
theorem dX10_share_48 : decode cX10_share 48 = .ok (.iconst 0, 1) := by decide +kernel
theorem dX10_share_49 : decode cX10_share 49 = .ok (.goto 21, 3) := by decide +kernel
theorem dX10_share_52 : decode cX10_share 52 = .ok (.sipush 1000, 3) := by decide +kernel
theorem dX10_share_55 : decode cX10_share 55 = .ok (.aload_n 0, 1) := by decide +kernel
theorem dX10_share_56 : decode cX10_share 56 = .ok (.getfield 29, 3) := by decide +kernel
theorem dX10_share_59 : decode cX10_share 59 = .ok (.bipush 80, 2) := by decide +kernel
theorem dX10_share_61 : decode cX10_share 61 = .ok (.iload_n 1, 1) := by decide +kernel
theorem dX10_share_62 : decode cX10_share 62 = .ok (.iadd, 1) := by decide +kernel
theorem dX10_share_63 : decode cX10_share 63 = .ok (.iaload, 1) := by decide +kernel
theorem dX10_share_64 : decode cX10_share 64 = .ok (.invokestatic 168, 3) := by decide +kernel
theorem dX10_share_67 : decode cX10_share 67 = .ok (.imul, 1) := by decide +kernel
theorem dX10_share_68 : decode cX10_share 68 = .ok (.iload_n 2, 1) := by decide +kernel
theorem dX10_share_69 : decode cX10_share 69 = .ok (.idiv, 1) := by decide +kernel
theorem dX10_share_70 : decode cX10_share 70 = .ok (.ireturn, 1) := by decide +kernel
theorem dX10_frost_0 : decode cX10_frost 0 = .ok (.iload_n 1, 1) := by decide +kernel
theorem dX10_frost_1 : decode cX10_frost 1 = .ok (.iconst 0, 1) := by decide +kernel
theorem dX10_frost_2 : decode cX10_frost 2 = .ok (.bipush 60, 2) := by decide +kernel
theorem dX10_frost_4 : decode cX10_frost 4 = .ok (.invokestatic 83, 3) := by decide +kernel
theorem dX10_frost_7 : decode cX10_frost 7 = .ok (.ifCond .eq 13, 3) := by decide +kernel
theorem dX10_frost_10 : decode cX10_frost 10 = .ok (.iload_n 2, 1) := by decide +kernel
theorem dX10_frost_11 : decode cX10_frost 11 = .ok (.iconst 0, 1) := by decide +kernel
theorem dX10_frost_12 : decode cX10_frost 12 = .ok (.bipush 100, 2) := by decide +kernel
theorem dX10_frost_14 : decode cX10_frost 14 = .ok (.invokestatic 83, 3) := by decide +kernel
theorem dX10_frost_17 : decode cX10_frost 17 = .ok (.ifCond .ne 6, 3) := by decide +kernel
theorem dX10_frost_20 : decode cX10_frost 20 = .ok (.ldc 90, 2) := by decide +kernel
theorem dX10_frost_22 : decode cX10_frost 22 = .ok (.ireturn, 1) := by decide +kernel
theorem dX10_frost_23 : decode cX10_frost 23 = .ok (.ldc2_w 245, 3) := by decide +kernel
theorem dX10_frost_26 : decode cX10_frost 26 = .ok (.lstore_n 3, 1) := by decide +kernel
theorem dX10_frost_27 : decode cX10_frost 27 = .ok (.iconst 0, 1) := by decide +kernel
theorem dX10_frost_28 : decode cX10_frost 28 = .ok (.istore 5, 2) := by decide +kernel
theorem dX10_frost_30 : decode cX10_frost 30 = .ok (.iload 5, 2) := by decide +kernel
theorem dX10_frost_32 : decode cX10_frost 32 = .ok (.iload_n 1, 1) := by decide +kernel
theorem dX10_frost_33 : decode cX10_frost 33 = .ok (.if_icmp .ge 21, 3) := by decide +kernel
theorem dX10_frost_36 : decode cX10_frost 36 = .ok (.lload_n 3, 1) := by decide +kernel
theorem dX10_frost_37 : decode cX10_frost 37 = .ok (.bipush 100, 2) := by decide +kernel
theorem dX10_frost_39 : decode cX10_frost 39 = .ok (.iload_n 2, 1) := by decide +kernel
theorem dX10_frost_40 : decode cX10_frost 40 = .ok (.isub, 1) := by decide +kernel
theorem dX10_frost_41 : decode cX10_frost 41 = .ok (.i2l, 1) := by decide +kernel
theorem dX10_frost_42 : decode cX10_frost 42 = .ok (.lmul, 1) := by decide +kernel
theorem dX10_frost_43 : decode cX10_frost 43 = .ok (.ldc2_w 247, 3) := by decide +kernel
theorem dX10_frost_46 : decode cX10_frost 46 = .ok (.ldiv, 1) := by decide +kernel
theorem dX10_frost_47 : decode cX10_frost 47 = .ok (.lstore_n 3, 1) := by decide +kernel
theorem dX10_frost_48 : decode cX10_frost 48 = .ok (.iinc 5 1, 3) := by decide +kernel
theorem dX10_frost_51 : decode cX10_frost 51 = .ok (.goto (-21), 3) := by decide +kernel
theorem dX10_frost_54 : decode cX10_frost 54 = .ok (.lload_n 3, 1) := by decide +kernel
theorem dX10_frost_55 : decode cX10_frost 55 = .ok (.l2i, 1) := by decide +kernel
theorem dX10_frost_56 : decode cX10_frost 56 = .ok (.ireturn, 1) := by decide +kernel
theorem dX10_drip_0 : decode cX10_drip 0 = .ok (.aload_n 0, 1) := by decide +kernel
theorem dX10_drip_1 : decode cX10_drip 1 = .ok (.iload_n 1, 1) := by decide +kernel
theorem dX10_drip_2 : decode cX10_drip 2 = .ok (.invokevirtual 180, 3) := by decide +kernel
theorem dX10_drip_5 : decode cX10_drip 5 = .ok (.ifCond .eq 10, 3) := by decide +kernel
theorem dX10_drip_8 : decode cX10_drip 8 = .ok (.iload_n 2, 1) := by decide +kernel
theorem dX10_drip_9 : decode cX10_drip 9 = .ok (.invokestatic 187, 3) := by decide +kernel
theorem dX10_drip_12 : decode cX10_drip 12 = .ok (.ifCond .ne 6, 3) := by decide +kernel
theorem dX10_drip_15 : decode cX10_drip 15 = .ok (.ldc 183, 2) := by decide +kernel
theorem dX10_drip_17 : decode cX10_drip 17 = .ok (.ireturn, 1) := by decide +kernel
theorem dX10_drip_18 : decode cX10_drip 18 = .ok (.iload_n 3, 1) := by decide +kernel
theorem dX10_drip_19 : decode cX10_drip 19 = .ok (.iconst 0, 1) := by decide +kernel
theorem dX10_drip_20 : decode cX10_drip 20 = .ok (.bipush 60, 2) := by decide +kernel
theorem dX10_drip_22 : decode cX10_drip 22 = .ok (.invokestatic 83, 3) := by decide +kernel
theorem dX10_drip_25 : decode cX10_drip 25 = .ok (.ifCond .ne 12, 3) := by decide +kernel
theorem dX10_drip_28 : decode cX10_drip 28 = .ok (.iload_n 3, 1) := by decide +kernel
theorem dX10_drip_29 : decode cX10_drip 29 = .ok (.bipush 99, 2) := by decide +kernel
theorem dX10_drip_31 : decode cX10_drip 31 = .ok (.if_icmp .eq 6, 3) := by decide +kernel
theorem dX10_drip_34 : decode cX10_drip 34 = .ok (.ldc 90, 2) := by decide +kernel
theorem dX10_drip_36 : decode cX10_drip 36 = .ok (.ireturn, 1) := by decide +kernel
theorem dX10_drip_37 : decode cX10_drip 37 = .ok (.aload_n 0, 1) := by decide +kernel
theorem dX10_drip_38 : decode cX10_drip 38 = .ok (.getfield 159, 3) := by decide +kernel
theorem dX10_drip_41 : decode cX10_drip 41 = .ok (.bipush 6, 2) := by decide +kernel
theorem dX10_drip_43 : decode cX10_drip 43 = .ok (.if_icmp .ne 6, 3) := by decide +kernel
theorem dX10_drip_46 : decode cX10_drip 46 = .ok (.ldc 94, 2) := by decide +kernel
theorem dX10_drip_48 : decode cX10_drip 48 = .ok (.ireturn, 1) := by decide +kernel
theorem dX10_drip_49 : decode cX10_drip 49 = .ok (.aload_n 0, 1) := by decide +kernel
theorem dX10_drip_50 : decode cX10_drip 50 = .ok (.getfield 48, 3) := by decide +kernel
theorem dX10_drip_53 : decode cX10_drip 53 = .ok (.iconst 3, 1) := by decide +kernel
theorem dX10_drip_54 : decode cX10_drip 54 = .ok (.aload_n 0, 1) := by decide +kernel
theorem dX10_drip_55 : decode cX10_drip 55 = .ok (.getfield 159, 3) := by decide +kernel
theorem dX10_drip_58 : decode cX10_drip 58 = .ok (.imul, 1) := by decide +kernel
theorem dX10_drip_59 : decode cX10_drip 59 = .ok (.iload_n 1, 1) := by decide +kernel
theorem dX10_drip_60 : decode cX10_drip 60 = .ok (.iastore, 1) := by decide +kernel
theorem dX10_drip_61 : decode cX10_drip 61 = .ok (.aload_n 0, 1) := by decide +kernel
theorem dX10_drip_62 : decode cX10_drip 62 = .ok (.getfield 48, 3) := by decide +kernel
theorem dX10_drip_65 : decode cX10_drip 65 = .ok (.iconst 3, 1) := by decide +kernel
theorem dX10_drip_66 : decode cX10_drip 66 = .ok (.aload_n 0, 1) := by decide +kernel
theorem dX10_drip_67 : decode cX10_drip 67 = .ok (.getfield 159, 3) := by decide +kernel
theorem dX10_drip_70 : decode cX10_drip 70 = .ok (.imul, 1) := by decide +kernel
theorem dX10_drip_71 : decode cX10_drip 71 = .ok (.iconst 1, 1) := by decide +kernel
theorem dX10_drip_72 : decode cX10_drip 72 = .ok (.iadd, 1) := by decide +kernel
theorem dX10_drip_73 : decode cX10_drip 73 = .ok (.iload_n 2, 1) := by decide +kernel
theorem dX10_drip_74 : decode cX10_drip 74 = .ok (.iastore, 1) := by decide +kernel
theorem dX10_drip_75 : decode cX10_drip 75 = .ok (.aload_n 0, 1) := by decide +kernel
theorem dX10_drip_76 : decode cX10_drip 76 = .ok (.getfield 48, 3) := by decide +kernel
theorem dX10_drip_79 : decode cX10_drip 79 = .ok (.iconst 3, 1) := by decide +kernel
theorem dX10_drip_80 : decode cX10_drip 80 = .ok (.aload_n 0, 1) := by decide +kernel
theorem dX10_drip_81 : decode cX10_drip 81 = .ok (.getfield 159, 3) := by decide +kernel
theorem dX10_drip_84 : decode cX10_drip 84 = .ok (.imul, 1) := by decide +kernel
theorem dX10_drip_85 : decode cX10_drip 85 = .ok (.iconst 2, 1) := by decide +kernel
theorem dX10_drip_86 : decode cX10_drip 86 = .ok (.iadd, 1) := by decide +kernel
theorem dX10_drip_87 : decode cX10_drip 87 = .ok (.iload_n 3, 1) := by decide +kernel
theorem dX10_drip_88 : decode cX10_drip 88 = .ok (.iastore, 1) := by decide +kernel
theorem dX10_drip_89 : decode cX10_drip 89 = .ok (.aload_n 0, 1) := by decide +kernel
theorem dX10_drip_90 : decode cX10_drip 90 = .ok (.dup, 1) := by decide +kernel
theorem dX10_drip_91 : decode cX10_drip 91 = .ok (.getfield 159, 3) := by decide +kernel
theorem dX10_drip_94 : decode cX10_drip 94 = .ok (.iconst 1, 1) := by decide +kernel
theorem dX10_drip_95 : decode cX10_drip 95 = .ok (.iadd, 1) := by decide +kernel
theorem dX10_drip_96 : decode cX10_drip 96 = .ok (.putfield 159, 3) := by decide +kernel
theorem dX10_drip_99 : decode cX10_drip 99 = .ok (.aload_n 0, 1) := by decide +kernel
theorem dX10_drip_100 : decode cX10_drip 100 = .ok (.getfield 159, 3) := by decide +kernel
theorem dX10_drip_103 : decode cX10_drip 103 = .ok (.ireturn, 1) := by decide +kernel
theorem dX10_crackedBy_0 : decode cX10_crackedBy 0 = .ok (.iconst 0, 1) := by decide +kernel
theorem dX10_crackedBy_1 : decode cX10_crackedBy 1 = .ok (.istore_n 2, 1) := by decide +kernel
theorem dX10_crackedBy_2 : decode cX10_crackedBy 2 = .ok (.iconst 0, 1) := by decide +kernel
theorem dX10_crackedBy_3 : decode cX10_crackedBy 3 = .ok (.istore_n 3, 1) := by decide +kernel
theorem dX10_crackedBy_4 : decode cX10_crackedBy 4 = .ok (.iload_n 3, 1) := by decide +kernel
theorem dX10_crackedBy_5 : decode cX10_crackedBy 5 = .ok (.bipush 11, 2) := by decide +kernel
theorem dX10_crackedBy_7 : decode cX10_crackedBy 7 = .ok (.if_icmp .ge 128, 3) := by decide +kernel
theorem dX10_crackedBy_10 : decode cX10_crackedBy 10 = .ok (.iload_n 3, 1) := by decide +kernel
theorem dX10_crackedBy_11 : decode cX10_crackedBy 11 = .ok (.bipush 10, 2) := by decide +kernel
theorem dX10_crackedBy_13 : decode cX10_crackedBy 13 = .ok (.if_icmp .eq 11, 3) := by decide +kernel
theorem dX10_crackedBy_16 : decode cX10_crackedBy 16 = .ok (.iload_n 3, 1) := by decide +kernel
theorem dX10_crackedBy_17 : decode cX10_crackedBy 17 = .ok (.aload_n 0, 1) := by decide +kernel
theorem dX10_crackedBy_18 : decode cX10_crackedBy 18 = .ok (.getfield 87, 3) := by decide +kernel
theorem dX10_crackedBy_21 : decode cX10_crackedBy 21 = .ok (.if_icmp .ge 7, 3) := by decide +kernel
theorem dX10_crackedBy_24 : decode cX10_crackedBy 24 = .ok (.iconst 1, 1) := by decide +kernel
theorem dX10_crackedBy_25 : decode cX10_crackedBy 25 = .ok (.goto 4, 3) := by decide +kernel
theorem dX10_crackedBy_28 : decode cX10_crackedBy 28 = .ok (.iconst 0, 1) := by decide +kernel
theorem dX10_crackedBy_29 : decode cX10_crackedBy 29 = .ok (.istore 4, 2) := by decide +kernel
theorem dX10_crackedBy_31 : decode cX10_crackedBy 31 = .ok (.iconst 0, 1) := by decide +kernel
theorem dX10_crackedBy_32 : decode cX10_crackedBy 32 = .ok (.istore 5, 2) := by decide +kernel
theorem dX10_crackedBy_34 : decode cX10_crackedBy 34 = .ok (.iload 5, 2) := by decide +kernel
theorem dX10_crackedBy_36 : decode cX10_crackedBy 36 = .ok (.aload_n 0, 1) := by decide +kernel
theorem dX10_crackedBy_37 : decode cX10_crackedBy 37 = .ok (.getfield 159, 3) := by decide +kernel
theorem dX10_crackedBy_40 : decode cX10_crackedBy 40 = .ok (.if_icmp .ge 74, 3) := by decide +kernel
theorem dX10_crackedBy_43 : decode cX10_crackedBy 43 = .ok (.iload 4, 2) := by decide +kernel
theorem dX10_crackedBy_45 : decode cX10_crackedBy 45 = .ok (.ifCond .eq 69, 3) := by decide +kernel
theorem dX10_crackedBy_48 : decode cX10_crackedBy 48 = .ok (.aload_n 0, 1) := by decide +kernel
theorem dX10_crackedBy_49 : decode cX10_crackedBy 49 = .ok (.aload_n 0, 1) := by decide +kernel
theorem dX10_crackedBy_50 : decode cX10_crackedBy 50 = .ok (.getfield 48, 3) := by decide +kernel
theorem dX10_crackedBy_53 : decode cX10_crackedBy 53 = .ok (.iconst 3, 1) := by decide +kernel
theorem dX10_crackedBy_54 : decode cX10_crackedBy 54 = .ok (.iload 5, 2) := by decide +kernel
theorem dX10_crackedBy_56 : decode cX10_crackedBy 56 = .ok (.imul, 1) := by decide +kernel
theorem dX10_crackedBy_57 : decode cX10_crackedBy 57 = .ok (.iconst 1, 1) := by decide +kernel
theorem dX10_crackedBy_58 : decode cX10_crackedBy 58 = .ok (.iadd, 1) := by decide +kernel
theorem dX10_crackedBy_59 : decode cX10_crackedBy 59 = .ok (.iaload, 1) := by decide +kernel
theorem dX10_crackedBy_60 : decode cX10_crackedBy 60 = .ok (.aload_n 0, 1) := by decide +kernel
theorem dX10_crackedBy_61 : decode cX10_crackedBy 61 = .ok (.getfield 29, 3) := by decide +kernel
theorem dX10_crackedBy_64 : decode cX10_crackedBy 64 = .ok (.sipush 172, 3) := by decide +kernel
theorem dX10_crackedBy_67 : decode cX10_crackedBy 67 = .ok (.iaload, 1) := by decide +kernel
theorem dX10_crackedBy_68 : decode cX10_crackedBy 68 = .ok (.iload_n 3, 1) := by decide +kernel
theorem dX10_crackedBy_69 : decode cX10_crackedBy 69 = .ok (.iload_n 1, 1) := by decide +kernel
theorem dX10_crackedBy_70 : decode cX10_crackedBy 70 = .ok (.invokevirtual 229, 3) := by decide +kernel
theorem dX10_crackedBy_73 : decode cX10_crackedBy 73 = .ok (.aload_n 0, 1) := by decide +kernel
theorem dX10_crackedBy_74 : decode cX10_crackedBy 74 = .ok (.getfield 57, 3) := by decide +kernel
theorem dX10_crackedBy_77 : decode cX10_crackedBy 77 = .ok (.aload_n 0, 1) := by decide +kernel
theorem dX10_crackedBy_78 : decode cX10_crackedBy 78 = .ok (.getfield 48, 3) := by decide +kernel
theorem dX10_crackedBy_81 : decode cX10_crackedBy 81 = .ok (.iconst 3, 1) := by decide +kernel
theorem dX10_crackedBy_82 : decode cX10_crackedBy 82 = .ok (.iload 5, 2) := by decide +kernel
theorem dX10_crackedBy_84 : decode cX10_crackedBy 84 = .ok (.imul, 1) := by decide +kernel
theorem dX10_crackedBy_85 : decode cX10_crackedBy 85 = .ok (.iaload, 1) := by decide +kernel
theorem dX10_crackedBy_86 : decode cX10_crackedBy 86 = .ok (.iaload, 1) := by decide +kernel
theorem dX10_crackedBy_87 : decode cX10_crackedBy 87 = .ok (.aload_n 0, 1) := by decide +kernel
theorem dX10_crackedBy_88 : decode cX10_crackedBy 88 = .ok (.getfield 48, 3) := by decide +kernel
theorem dX10_crackedBy_91 : decode cX10_crackedBy 91 = .ok (.iconst 3, 1) := by decide +kernel
theorem dX10_crackedBy_92 : decode cX10_crackedBy 92 = .ok (.iload 5, 2) := by decide +kernel
theorem dX10_crackedBy_94 : decode cX10_crackedBy 94 = .ok (.imul, 1) := by decide +kernel
theorem dX10_crackedBy_95 : decode cX10_crackedBy 95 = .ok (.iconst 2, 1) := by decide +kernel
theorem dX10_crackedBy_96 : decode cX10_crackedBy 96 = .ok (.iadd, 1) := by decide +kernel
theorem dX10_crackedBy_97 : decode cX10_crackedBy 97 = .ok (.iaload, 1) := by decide +kernel
theorem dX10_crackedBy_98 : decode cX10_crackedBy 98 = .ok (.if_icmp .ne 7, 3) := by decide +kernel
theorem dX10_crackedBy_101 : decode cX10_crackedBy 101 = .ok (.iconst 1, 1) := by decide +kernel
theorem dX10_crackedBy_102 : decode cX10_crackedBy 102 = .ok (.goto 4, 3) := by decide +kernel
theorem dX10_crackedBy_105 : decode cX10_crackedBy 105 = .ok (.iconst 0, 1) := by decide +kernel
theorem dX10_crackedBy_106 : decode cX10_crackedBy 106 = .ok (.istore 4, 2) := by decide +kernel
theorem dX10_crackedBy_108 : decode cX10_crackedBy 108 = .ok (.iinc 5 1, 3) := by decide +kernel
theorem dX10_crackedBy_111 : decode cX10_crackedBy 111 = .ok (.goto (-77), 3) := by decide +kernel
theorem dX10_crackedBy_114 : decode cX10_crackedBy 114 = .ok (.iload_n 2, 1) := by decide +kernel
theorem dX10_crackedBy_115 : decode cX10_crackedBy 115 = .ok (.iload 4, 2) := by decide +kernel
theorem dX10_crackedBy_117 : decode cX10_crackedBy 117 = .ok (.ifCond .eq 9, 3) := by decide +kernel
theorem dX10_crackedBy_120 : decode cX10_crackedBy 120 = .ok (.iconst 1, 1) := by decide +kernel
theorem dX10_crackedBy_121 : decode cX10_crackedBy 121 = .ok (.iload_n 3, 1) := by decide +kernel
theorem dX10_crackedBy_122 : decode cX10_crackedBy 122 = .ok (.ishl, 1) := by decide +kernel
theorem dX10_crackedBy_123 : decode cX10_crackedBy 123 = .ok (.goto 4, 3) := by decide +kernel
theorem dX10_crackedBy_126 : decode cX10_crackedBy 126 = .ok (.iconst 0, 1) := by decide +kernel
theorem dX10_crackedBy_127 : decode cX10_crackedBy 127 = .ok (.ior, 1) := by decide +kernel
theorem dX10_crackedBy_128 : decode cX10_crackedBy 128 = .ok (.istore_n 2, 1) := by decide +kernel
theorem dX10_crackedBy_129 : decode cX10_crackedBy 129 = .ok (.iinc 3 1, 3) := by decide +kernel
theorem dX10_crackedBy_132 : decode cX10_crackedBy 132 = .ok (.goto (-128), 3) := by decide +kernel
theorem dX10_crackedBy_135 : decode cX10_crackedBy 135 = .ok (.iload_n 2, 1) := by decide +kernel
theorem dX10_crackedBy_136 : decode cX10_crackedBy 136 = .ok (.ireturn, 1) := by decide +kernel
theorem dX10_cracked_0 : decode cX10_cracked 0 = .ok (.aload_n 0, 1) := by decide +kernel
theorem dX10_cracked_1 : decode cX10_cracked 1 = .ok (.iload_n 1, 1) := by decide +kernel
theorem dX10_cracked_2 : decode cX10_cracked 2 = .ok (.invokevirtual 180, 3) := by decide +kernel
theorem dX10_cracked_5 : decode cX10_cracked 5 = .ok (.ifCond .eq 11, 3) := by decide +kernel
theorem dX10_cracked_8 : decode cX10_cracked 8 = .ok (.aload_n 0, 1) := by decide +kernel
theorem dX10_cracked_9 : decode cX10_cracked 9 = .ok (.iload_n 1, 1) := by decide +kernel
theorem dX10_cracked_10 : decode cX10_cracked 10 = .ok (.invokevirtual 249, 3) := by decide +kernel
theorem dX10_cracked_13 : decode cX10_cracked 13 = .ok (.goto 5, 3) := by decide +kernel
theorem dX10_cracked_16 : decode cX10_cracked 16 = .ok (.ldc 183, 2) := by decide +kernel
theorem dX10_cracked_18 : decode cX10_cracked 18 = .ok (.ireturn, 1) := by decide +kernel
theorem dX10_listen_0 : decode cX10_listen 0 = .ok (.aload_n 0, 1) := by decide +kernel
theorem dX10_listen_1 : decode cX10_listen 1 = .ok (.iload_n 1, 1) := by decide +kernel
theorem dX10_listen_2 : decode cX10_listen 2 = .ok (.invokevirtual 180, 3) := by decide +kernel
theorem dX10_listen_5 : decode cX10_listen 5 = .ok (.ifCond .ne 6, 3) := by decide +kernel
theorem dX10_listen_8 : decode cX10_listen 8 = .ok (.ldc 183, 2) := by decide +kernel
theorem dX10_listen_10 : decode cX10_listen 10 = .ok (.ireturn, 1) := by decide +kernel
theorem dX10_listen_11 : decode cX10_listen 11 = .ok (.aload_n 0, 1) := by decide +kernel
theorem dX10_listen_12 : decode cX10_listen 12 = .ok (.iload_n 1, 1) := by decide +kernel
theorem dX10_listen_13 : decode cX10_listen 13 = .ok (.invokevirtual 249, 3) := by decide +kernel
theorem dX10_listen_16 : decode cX10_listen 16 = .ok (.istore_n 2, 1) := by decide +kernel
theorem dX10_listen_17 : decode cX10_listen 17 = .ok (.iconst (-1), 1) := by decide +kernel
theorem dX10_listen_18 : decode cX10_listen 18 = .ok (.istore_n 3, 1) := by decide +kernel
theorem dX10_listen_19 : decode cX10_listen 19 = .ok (.iload_n 2, 1) := by decide +kernel
theorem dX10_listen_20 : decode cX10_listen 20 = .ok (.invokestatic 168, 3) := by decide +kernel
theorem dX10_listen_23 : decode cX10_listen 23 = .ok (.istore 4, 2) := by decide +kernel
theorem dX10_listen_25 : decode cX10_listen 25 = .ok (.iconst 0, 1) := by decide +kernel
theorem dX10_listen_26 : decode cX10_listen 26 = .ok (.istore 5, 2) := by decide +kernel
theorem dX10_listen_28 : decode cX10_listen 28 = .ok (.iload 5, 2) := by decide +kernel
theorem dX10_listen_30 : decode cX10_listen 30 = .ok (.aload_n 0, 1) := by decide +kernel
theorem dX10_listen_31 : decode cX10_listen 31 = .ok (.getfield 80, 3) := by decide +kernel
theorem dX10_listen_34 : decode cX10_listen 34 = .ok (.if_icmp .ge 193, 3) := by decide +kernel
theorem dX10_listen_37 : decode cX10_listen 37 = .ok (.iconst 0, 1) := by decide +kernel
theorem dX10_listen_38 : decode cX10_listen 38 = .ok (.istore 6, 2) := by decide +kernel
theorem dX10_listen_40 : decode cX10_listen 40 = .ok (.iload 6, 2) := by decide +kernel
theorem dX10_listen_42 : decode cX10_listen 42 = .ok (.bipush 11, 2) := by decide +kernel
theorem dX10_listen_44 : decode cX10_listen 44 = .ok (.if_icmp .ge 48, 3) := by decide +kernel
theorem dX10_listen_47 : decode cX10_listen 47 = .ok (.iload_n 2, 1) := by decide +kernel
theorem dX10_listen_48 : decode cX10_listen 48 = .ok (.iload 6, 2) := by decide +kernel
theorem dX10_listen_50 : decode cX10_listen 50 = .ok (.invokestatic 194, 3) := by decide +kernel
theorem dX10_listen_53 : decode cX10_listen 53 = .ok (.ifCond .eq 33, 3) := by decide +kernel
theorem dX10_listen_56 : decode cX10_listen 56 = .ok (.aload_n 0, 1) := by decide +kernel
theorem dX10_listen_57 : decode cX10_listen 57 = .ok (.iconst 0, 1) := by decide +kernel
theorem dX10_listen_58 : decode cX10_listen 58 = .ok (.aload_n 0, 1) := by decide +kernel
theorem dX10_listen_59 : decode cX10_listen 59 = .ok (.getfield 29, 3) := by decide +kernel
theorem dX10_listen_62 : decode cX10_listen 62 = .ok (.sipush 172, 3) := by decide +kernel
theorem dX10_listen_65 : decode cX10_listen 65 = .ok (.iaload, 1) := by decide +kernel
theorem dX10_listen_66 : decode cX10_listen 66 = .ok (.iload 6, 2) := by decide +kernel
theorem dX10_listen_68 : decode cX10_listen 68 = .ok (.iload_n 1, 1) := by decide +kernel
theorem dX10_listen_69 : decode cX10_listen 69 = .ok (.invokevirtual 229, 3) := by decide +kernel
theorem dX10_listen_72 : decode cX10_listen 72 = .ok (.aload_n 0, 1) := by decide +kernel
theorem dX10_listen_73 : decode cX10_listen 73 = .ok (.getfield 67, 3) := by decide +kernel
theorem dX10_listen_76 : decode cX10_listen 76 = .ok (.iload 6, 2) := by decide +kernel
theorem dX10_listen_78 : decode cX10_listen 78 = .ok (.aload_n 0, 1) := by decide +kernel
theorem dX10_listen_79 : decode cX10_listen 79 = .ok (.getfield 57, 3) := by decide +kernel
theorem dX10_listen_82 : decode cX10_listen 82 = .ok (.iload 5, 2) := by decide +kernel
theorem dX10_listen_84 : decode cX10_listen 84 = .ok (.iaload, 1) := by decide +kernel
theorem dX10_listen_85 : decode cX10_listen 85 = .ok (.iastore, 1) := by decide +kernel
theorem dX10_listen_86 : decode cX10_listen 86 = .ok (.iinc 6 1, 3) := by decide +kernel
theorem dX10_listen_89 : decode cX10_listen 89 = .ok (.goto (-49), 3) := by decide +kernel
theorem dX10_listen_92 : decode cX10_listen 92 = .ok (.iconst 0, 1) := by decide +kernel
theorem dX10_listen_93 : decode cX10_listen 93 = .ok (.istore 6, 2) := by decide +kernel
theorem dX10_listen_95 : decode cX10_listen 95 = .ok (.iconst 0, 1) := by decide +kernel
theorem dX10_listen_96 : decode cX10_listen 96 = .ok (.istore 7, 2) := by decide +kernel
theorem dX10_listen_98 : decode cX10_listen 98 = .ok (.iload 7, 2) := by decide +kernel
theorem dX10_listen_100 : decode cX10_listen 100 = .ok (.bipush 11, 2) := by decide +kernel
theorem dX10_listen_102 : decode cX10_listen 102 = .ok (.if_icmp .ge 89, 3) := by decide +kernel
theorem dX10_listen_105 : decode cX10_listen 105 = .ok (.iconst 0, 1) := by decide +kernel
theorem dX10_listen_106 : decode cX10_listen 106 = .ok (.istore 8, 2) := by decide +kernel
theorem dX10_listen_108 : decode cX10_listen 108 = .ok (.iconst 0, 1) := by decide +kernel
theorem dX10_listen_109 : decode cX10_listen 109 = .ok (.istore 9, 2) := by decide +kernel
theorem dX10_listen_111 : decode cX10_listen 111 = .ok (.iload 9, 2) := by decide +kernel
theorem dX10_listen_113 : decode cX10_listen 113 = .ok (.bipush 11, 2) := by decide +kernel
theorem dX10_listen_115 : decode cX10_listen 115 = .ok (.if_icmp .ge 54, 3) := by decide +kernel
theorem dX10_listen_118 : decode cX10_listen 118 = .ok (.iload 8, 2) := by decide +kernel
theorem dX10_listen_120 : decode cX10_listen 120 = .ok (.iload_n 2, 1) := by decide +kernel
theorem dX10_listen_121 : decode cX10_listen 121 = .ok (.iload 7, 2) := by decide +kernel
theorem dX10_listen_123 : decode cX10_listen 123 = .ok (.invokestatic 194, 3) := by decide +kernel
theorem dX10_listen_126 : decode cX10_listen 126 = .ok (.ifCond .eq 33, 3) := by decide +kernel
theorem dX10_listen_129 : decode cX10_listen 129 = .ok (.iload_n 2, 1) := by decide +kernel
theorem dX10_listen_130 : decode cX10_listen 130 = .ok (.iload 9, 2) := by decide +kernel
theorem dX10_listen_132 : decode cX10_listen 132 = .ok (.invokestatic 194, 3) := by decide +kernel
theorem dX10_listen_135 : decode cX10_listen 135 = .ok (.ifCond .eq 24, 3) := by decide +kernel
theorem dX10_listen_138 : decode cX10_listen 138 = .ok (.aload_n 0, 1) := by decide +kernel
theorem dX10_listen_139 : decode cX10_listen 139 = .ok (.getfield 67, 3) := by decide +kernel
theorem dX10_listen_142 : decode cX10_listen 142 = .ok (.iload 9, 2) := by decide +kernel
theorem dX10_listen_144 : decode cX10_listen 144 = .ok (.iaload, 1) := by decide +kernel
theorem dX10_listen_145 : decode cX10_listen 145 = .ok (.aload_n 0, 1) := by decide +kernel
theorem dX10_listen_146 : decode cX10_listen 146 = .ok (.getfield 67, 3) := by decide +kernel
theorem dX10_listen_149 : decode cX10_listen 149 = .ok (.iload 7, 2) := by decide +kernel
theorem dX10_listen_151 : decode cX10_listen 151 = .ok (.iaload, 1) := by decide +kernel
theorem dX10_listen_152 : decode cX10_listen 152 = .ok (.if_icmp .ne 7, 3) := by decide +kernel
theorem dX10_listen_155 : decode cX10_listen 155 = .ok (.iconst 1, 1) := by decide +kernel
theorem dX10_listen_156 : decode cX10_listen 156 = .ok (.goto 4, 3) := by decide +kernel
theorem dX10_listen_159 : decode cX10_listen 159 = .ok (.iconst 0, 1) := by decide +kernel
theorem dX10_listen_160 : decode cX10_listen 160 = .ok (.iadd, 1) := by decide +kernel
theorem dX10_listen_161 : decode cX10_listen 161 = .ok (.istore 8, 2) := by decide +kernel
theorem dX10_listen_163 : decode cX10_listen 163 = .ok (.iinc 9 1, 3) := by decide +kernel
theorem dX10_listen_166 : decode cX10_listen 166 = .ok (.goto (-55), 3) := by decide +kernel
theorem dX10_listen_169 : decode cX10_listen 169 = .ok (.iload 8, 2) := by decide +kernel
theorem dX10_listen_171 : decode cX10_listen 171 = .ok (.iload 6, 2) := by decide +kernel
theorem dX10_listen_173 : decode cX10_listen 173 = .ok (.if_icmp .le 8, 3) := by decide +kernel
theorem dX10_listen_176 : decode cX10_listen 176 = .ok (.iload 8, 2) := by decide +kernel
theorem dX10_listen_178 : decode cX10_listen 178 = .ok (.goto 5, 3) := by decide +kernel
theorem dX10_listen_181 : decode cX10_listen 181 = .ok (.iload 6, 2) := by decide +kernel
theorem dX10_listen_183 : decode cX10_listen 183 = .ok (.istore 6, 2) := by decide +kernel
theorem dX10_listen_185 : decode cX10_listen 185 = .ok (.iinc 7 1, 3) := by decide +kernel
theorem dX10_listen_188 : decode cX10_listen 188 = .ok (.goto (-90), 3) := by decide +kernel
theorem dX10_listen_191 : decode cX10_listen 191 = .ok (.iload 6, 2) := by decide +kernel
theorem dX10_listen_193 : decode cX10_listen 193 = .ok (.iload 4, 2) := by decide +kernel
theorem dX10_listen_195 : decode cX10_listen 195 = .ok (.if_icmp .ge 8, 3) := by decide +kernel
theorem dX10_listen_198 : decode cX10_listen 198 = .ok (.iload 5, 2) := by decide +kernel
theorem dX10_listen_200 : decode cX10_listen 200 = .ok (.goto 4, 3) := by decide +kernel
theorem dX10_listen_203 : decode cX10_listen 203 = .ok (.iload_n 3, 1) := by decide +kernel
theorem dX10_listen_204 : decode cX10_listen 204 = .ok (.istore_n 3, 1) := by decide +kernel
theorem dX10_listen_205 : decode cX10_listen 205 = .ok (.iload 6, 2) := by decide +kernel
theorem dX10_listen_207 : decode cX10_listen 207 = .ok (.iload 4, 2) := by decide +kernel
theorem dX10_listen_209 : decode cX10_listen 209 = .ok (.if_icmp .ge 8, 3) := by decide +kernel
theorem dX10_listen_212 : decode cX10_listen 212 = .ok (.iload 6, 2) := by decide +kernel
theorem dX10_listen_214 : decode cX10_listen 214 = .ok (.goto 5, 3) := by decide +kernel
theorem dX10_listen_217 : decode cX10_listen 217 = .ok (.iload 4, 2) := by decide +kernel
theorem dX10_listen_219 : decode cX10_listen 219 = .ok (.istore 4, 2) := by decide +kernel
theorem dX10_listen_221 : decode cX10_listen 221 = .ok (.iinc 5 1, 3) := by decide +kernel
theorem dX10_listen_224 : decode cX10_listen 224 = .ok (.goto (-196), 3) := by decide +kernel
theorem dX10_listen_227 : decode cX10_listen 227 = .ok (.iload_n 3, 1) := by decide +kernel
theorem dX10_listen_228 : decode cX10_listen 228 = .ok (.ireturn, 1) := by decide +kernel
theorem dX10_write_0 : decode cX10_write 0 = .ok (.aload_n 0, 1) := by decide +kernel
theorem dX10_write_1 : decode cX10_write 1 = .ok (.iload_n 1, 1) := by decide +kernel
theorem dX10_write_2 : decode cX10_write 2 = .ok (.invokevirtual 180, 3) := by decide +kernel
theorem dX10_write_5 : decode cX10_write 5 = .ok (.ifCond .ne 6, 3) := by decide +kernel
theorem dX10_write_8 : decode cX10_write 8 = .ok (.ldc 183, 2) := by decide +kernel
theorem dX10_write_10 : decode cX10_write 10 = .ok (.ireturn, 1) := by decide +kernel
theorem dX10_write_11 : decode cX10_write 11 = .ok (.iload_n 2, 1) := by decide +kernel
theorem dX10_write_12 : decode cX10_write 12 = .ok (.iconst 0, 1) := by decide +kernel
theorem dX10_write_13 : decode cX10_write 13 = .ok (.sipush 255, 3) := by decide +kernel
theorem dX10_write_16 : decode cX10_write 16 = .ok (.invokestatic 83, 3) := by decide +kernel
theorem dX10_write_19 : decode cX10_write 19 = .ok (.ifCond .ne 6, 3) := by decide +kernel
theorem dX10_write_22 : decode cX10_write 22 = .ok (.ldc 90, 2) := by decide +kernel
theorem dX10_write_24 : decode cX10_write 24 = .ok (.ireturn, 1) := by decide +kernel
theorem dX10_write_25 : decode cX10_write 25 = .ok (.aload_n 0, 1) := by decide +kernel
theorem dX10_write_26 : decode cX10_write 26 = .ok (.getfield 162, 3) := by decide +kernel
theorem dX10_write_29 : decode cX10_write 29 = .ok (.bipush 15, 2) := by decide +kernel
theorem dX10_write_31 : decode cX10_write 31 = .ok (.if_icmp .ne 6, 3) := by decide +kernel
theorem dX10_write_34 : decode cX10_write 34 = .ok (.ldc 94, 2) := by decide +kernel
theorem dX10_write_36 : decode cX10_write 36 = .ok (.ireturn, 1) := by decide +kernel
theorem dX10_write_37 : decode cX10_write 37 = .ok (.aload_n 0, 1) := by decide +kernel
theorem dX10_write_38 : decode cX10_write 38 = .ok (.getfield 51, 3) := by decide +kernel
theorem dX10_write_41 : decode cX10_write 41 = .ok (.iconst 2, 1) := by decide +kernel
theorem dX10_write_42 : decode cX10_write 42 = .ok (.aload_n 0, 1) := by decide +kernel
theorem dX10_write_43 : decode cX10_write 43 = .ok (.getfield 162, 3) := by decide +kernel
theorem dX10_write_46 : decode cX10_write 46 = .ok (.imul, 1) := by decide +kernel
theorem dX10_write_47 : decode cX10_write 47 = .ok (.iload_n 1, 1) := by decide +kernel
theorem dX10_write_48 : decode cX10_write 48 = .ok (.iastore, 1) := by decide +kernel
theorem dX10_write_49 : decode cX10_write 49 = .ok (.aload_n 0, 1) := by decide +kernel
theorem dX10_write_50 : decode cX10_write 50 = .ok (.getfield 51, 3) := by decide +kernel
theorem dX10_write_53 : decode cX10_write 53 = .ok (.iconst 2, 1) := by decide +kernel
theorem dX10_write_54 : decode cX10_write 54 = .ok (.aload_n 0, 1) := by decide +kernel
theorem dX10_write_55 : decode cX10_write 55 = .ok (.getfield 162, 3) := by decide +kernel
theorem dX10_write_58 : decode cX10_write 58 = .ok (.imul, 1) := by decide +kernel
theorem dX10_write_59 : decode cX10_write 59 = .ok (.iconst 1, 1) := by decide +kernel
theorem dX10_write_60 : decode cX10_write 60 = .ok (.iadd, 1) := by decide +kernel
theorem dX10_write_61 : decode cX10_write 61 = .ok (.iload_n 2, 1) := by decide +kernel
theorem dX10_write_62 : decode cX10_write 62 = .ok (.iastore, 1) := by decide +kernel
theorem dX10_write_63 : decode cX10_write 63 = .ok (.aload_n 0, 1) := by decide +kernel
theorem dX10_write_64 : decode cX10_write 64 = .ok (.dup, 1) := by decide +kernel
theorem dX10_write_65 : decode cX10_write 65 = .ok (.getfield 162, 3) := by decide +kernel
theorem dX10_write_68 : decode cX10_write 68 = .ok (.iconst 1, 1) := by decide +kernel
theorem dX10_write_69 : decode cX10_write 69 = .ok (.iadd, 1) := by decide +kernel
theorem dX10_write_70 : decode cX10_write 70 = .ok (.putfield 162, 3) := by decide +kernel
theorem dX10_write_73 : decode cX10_write 73 = .ok (.aload_n 0, 1) := by decide +kernel
theorem dX10_write_74 : decode cX10_write 74 = .ok (.getfield 162, 3) := by decide +kernel
theorem dX10_write_77 : decode cX10_write 77 = .ok (.ireturn, 1) := by decide +kernel
theorem dX10_tear_0 : decode cX10_tear 0 = .ok (.aload_n 0, 1) := by decide +kernel
theorem dX10_tear_1 : decode cX10_tear 1 = .ok (.getfield 159, 3) := by decide +kernel
theorem dX10_tear_4 : decode cX10_tear 4 = .ok (.aload_n 0, 1) := by decide +kernel
theorem dX10_tear_5 : decode cX10_tear 5 = .ok (.getfield 162, 3) := by decide +kernel
theorem dX10_tear_8 : decode cX10_tear 8 = .ok (.iadd, 1) := by decide +kernel
theorem dX10_tear_9 : decode cX10_tear 9 = .ok (.istore_n 1, 1) := by decide +kernel
theorem dX10_tear_10 : decode cX10_tear 10 = .ok (.aload_n 0, 1) := by decide +kernel
theorem dX10_tear_11 : decode cX10_tear 11 = .ok (.iconst 0, 1) := by decide +kernel
theorem dX10_tear_12 : decode cX10_tear 12 = .ok (.putfield 159, 3) := by decide +kernel
theorem dX10_tear_15 : decode cX10_tear 15 = .ok (.aload_n 0, 1) := by decide +kernel
theorem dX10_tear_16 : decode cX10_tear 16 = .ok (.iconst 0, 1) := by decide +kernel
theorem dX10_tear_17 : decode cX10_tear 17 = .ok (.putfield 162, 3) := by decide +kernel
theorem dX10_tear_20 : decode cX10_tear 20 = .ok (.iload_n 1, 1) := by decide +kernel
theorem dX10_tear_21 : decode cX10_tear 21 = .ok (.ireturn, 1) := by decide +kernel
theorem dX10_judge_0 : decode cX10_judge 0 = .ok (.iconst 0, 1) := by decide +kernel
theorem dX10_judge_1 : decode cX10_judge 1 = .ok (.istore_n 1, 1) := by decide +kernel
theorem dX10_judge_2 : decode cX10_judge 2 = .ok (.iload_n 1, 1) := by decide +kernel
theorem dX10_judge_3 : decode cX10_judge 3 = .ok (.aload_n 0, 1) := by decide +kernel
theorem dX10_judge_4 : decode cX10_judge 4 = .ok (.getfield 162, 3) := by decide +kernel
theorem dX10_judge_7 : decode cX10_judge 7 = .ok (.if_icmp .ge 40, 3) := by decide +kernel
theorem dX10_judge_10 : decode cX10_judge 10 = .ok (.aload_n 0, 1) := by decide +kernel
theorem dX10_judge_11 : decode cX10_judge 11 = .ok (.getfield 29, 3) := by decide +kernel
theorem dX10_judge_14 : decode cX10_judge 14 = .ok (.bipush 80, 2) := by decide +kernel
theorem dX10_judge_16 : decode cX10_judge 16 = .ok (.aload_n 0, 1) := by decide +kernel
theorem dX10_judge_17 : decode cX10_judge 17 = .ok (.getfield 51, 3) := by decide +kernel
theorem dX10_judge_20 : decode cX10_judge 20 = .ok (.iconst 2, 1) := by decide +kernel
theorem dX10_judge_21 : decode cX10_judge 21 = .ok (.iload_n 1, 1) := by decide +kernel
theorem dX10_judge_22 : decode cX10_judge 22 = .ok (.imul, 1) := by decide +kernel
theorem dX10_judge_23 : decode cX10_judge 23 = .ok (.iaload, 1) := by decide +kernel
theorem dX10_judge_24 : decode cX10_judge 24 = .ok (.iadd, 1) := by decide +kernel
theorem dX10_judge_25 : decode cX10_judge 25 = .ok (.iaload, 1) := by decide +kernel
theorem dX10_judge_26 : decode cX10_judge 26 = .ok (.aload_n 0, 1) := by decide +kernel
theorem dX10_judge_27 : decode cX10_judge 27 = .ok (.getfield 51, 3) := by decide +kernel
theorem dX10_judge_30 : decode cX10_judge 30 = .ok (.iconst 2, 1) := by decide +kernel
theorem dX10_judge_31 : decode cX10_judge 31 = .ok (.iload_n 1, 1) := by decide +kernel
theorem dX10_judge_32 : decode cX10_judge 32 = .ok (.imul, 1) := by decide +kernel
theorem dX10_judge_33 : decode cX10_judge 33 = .ok (.iconst 1, 1) := by decide +kernel
theorem dX10_judge_34 : decode cX10_judge 34 = .ok (.iadd, 1) := by decide +kernel
theorem dX10_judge_35 : decode cX10_judge 35 = .ok (.iaload, 1) := by decide +kernel
theorem dX10_judge_36 : decode cX10_judge 36 = .ok (.if_icmp .eq 5, 3) := by decide +kernel
theorem dX10_judge_39 : decode cX10_judge 39 = .ok (.iload_n 1, 1) := by decide +kernel
theorem dX10_judge_40 : decode cX10_judge 40 = .ok (.ireturn, 1) := by decide +kernel
theorem dX10_judge_41 : decode cX10_judge 41 = .ok (.iinc 1 1, 3) := by decide +kernel
theorem dX10_judge_44 : decode cX10_judge 44 = .ok (.goto (-42), 3) := by decide +kernel
theorem dX10_judge_47 : decode cX10_judge 47 = .ok (.iconst (-1), 1) := by decide +kernel
theorem dX10_judge_48 : decode cX10_judge 48 = .ok (.ireturn, 1) := by decide +kernel
theorem dX10_seed_0 : decode cX10_seed 0 = .ok (.iload_n 1, 1) := by decide +kernel
theorem dX10_seed_1 : decode cX10_seed 1 = .ok (.ifCond .ge 6, 3) := by decide +kernel
theorem dX10_seed_4 : decode cX10_seed 4 = .ok (.ldc 90, 2) := by decide +kernel
theorem dX10_seed_6 : decode cX10_seed 6 = .ok (.ireturn, 1) := by decide +kernel
theorem dX10_seed_7 : decode cX10_seed 7 = .ok (.aload_n 0, 1) := by decide +kernel
theorem dX10_seed_8 : decode cX10_seed 8 = .ok (.getfield 212, 3) := by decide +kernel
theorem dX10_seed_11 : decode cX10_seed 11 = .ok (.istore_n 2, 1) := by decide +kernel
theorem dX10_seed_12 : decode cX10_seed 12 = .ok (.aload_n 0, 1) := by decide +kernel
theorem dX10_seed_13 : decode cX10_seed 13 = .ok (.iload_n 1, 1) := by decide +kernel
theorem dX10_seed_14 : decode cX10_seed 14 = .ok (.putfield 212, 3) := by decide +kernel
theorem dX10_seed_17 : decode cX10_seed 17 = .ok (.iload_n 2, 1) := by decide +kernel
theorem dX10_seed_18 : decode cX10_seed 18 = .ok (.ireturn, 1) := by decide +kernel
theorem dX10_keep_0 : decode cX10_keep 0 = .ok (.iload_n 1, 1) := by decide +kernel
theorem dX10_keep_1 : decode cX10_keep 1 = .ok (.iconst 0, 1) := by decide +kernel
theorem dX10_keep_2 : decode cX10_keep 2 = .ok (.iconst 1, 1) := by decide +kernel
theorem dX10_keep_3 : decode cX10_keep 3 = .ok (.invokestatic 83, 3) := by decide +kernel
theorem dX10_keep_6 : decode cX10_keep 6 = .ok (.ifCond .ne 6, 3) := by decide +kernel
theorem dX10_keep_9 : decode cX10_keep 9 = .ok (.ldc 183, 2) := by decide +kernel
theorem dX10_keep_11 : decode cX10_keep 11 = .ok (.ireturn, 1) := by decide +kernel
theorem dX10_keep_12 : decode cX10_keep 12 = .ok (.aload_n 0, 1) := by decide +kernel
theorem dX10_keep_13 : decode cX10_keep 13 = .ok (.getfield 29, 3) := by decide +kernel
theorem dX10_keep_16 : decode cX10_keep 16 = .ok (.iconst 0, 1) := by decide +kernel
theorem dX10_keep_17 : decode cX10_keep 17 = .ok (.aload_n 0, 1) := by decide +kernel
theorem dX10_keep_18 : decode cX10_keep 18 = .ok (.getfield 38, 3) := by decide +kernel
theorem dX10_keep_21 : decode cX10_keep 21 = .ok (.sipush 174, 3) := by decide +kernel
theorem dX10_keep_24 : decode cX10_keep 24 = .ok (.iload_n 1, 1) := by decide +kernel
theorem dX10_keep_25 : decode cX10_keep 25 = .ok (.imul, 1) := by decide +kernel
theorem dX10_keep_26 : decode cX10_keep 26 = .ok (.invokestatic 190, 3) := by decide +kernel
theorem dX10_keep_29 : decode cX10_keep 29 = .ok (.aload_n 0, 1) := by decide +kernel
theorem dX10_keep_30 : decode cX10_keep 30 = .ok (.getfield 41, 3) := by decide +kernel
theorem dX10_keep_33 : decode cX10_keep 33 = .ok (.iload_n 1, 1) := by decide +kernel
theorem dX10_keep_34 : decode cX10_keep 34 = .ok (.aload_n 0, 1) := by decide +kernel
theorem dX10_keep_35 : decode cX10_keep 35 = .ok (.getfield 212, 3) := by decide +kernel
theorem dX10_keep_38 : decode cX10_keep 38 = .ok (.iastore, 1) := by decide +kernel
theorem dX10_keep_39 : decode cX10_keep 39 = .ok (.aload_n 0, 1) := by decide +kernel
theorem dX10_keep_40 : decode cX10_keep 40 = .ok (.getfield 44, 3) := by decide +kernel
theorem dX10_keep_43 : decode cX10_keep 43 = .ok (.iload_n 1, 1) := by decide +kernel
theorem dX10_keep_44 : decode cX10_keep 44 = .ok (.iconst 1, 1) := by decide +kernel
theorem dX10_keep_45 : decode cX10_keep 45 = .ok (.bastore, 1) := by decide +kernel
theorem dX10_keep_46 : decode cX10_keep 46 = .ok (.aload_n 0, 1) := by decide +kernel
theorem dX10_keep_47 : decode cX10_keep 47 = .ok (.iconst 0, 1) := by decide +kernel
theorem dX10_keep_48 : decode cX10_keep 48 = .ok (.putfield 165, 3) := by decide +kernel
theorem dX10_keep_51 : decode cX10_keep 51 = .ok (.iconst 1, 1) := by decide +kernel
theorem dX10_keep_52 : decode cX10_keep 52 = .ok (.ireturn, 1) := by decide +kernel
theorem dX10_goBack_0 : decode cX10_goBack 0 = .ok (.iload_n 1, 1) := by decide +kernel
theorem dX10_goBack_1 : decode cX10_goBack 1 = .ok (.iconst 0, 1) := by decide +kernel
theorem dX10_goBack_2 : decode cX10_goBack 2 = .ok (.iconst 1, 1) := by decide +kernel
theorem dX10_goBack_3 : decode cX10_goBack 3 = .ok (.invokestatic 83, 3) := by decide +kernel
theorem dX10_goBack_6 : decode cX10_goBack 6 = .ok (.ifCond .ne 6, 3) := by decide +kernel
theorem dX10_goBack_9 : decode cX10_goBack 9 = .ok (.ldc 183, 2) := by decide +kernel
theorem dX10_goBack_11 : decode cX10_goBack 11 = .ok (.ireturn, 1) := by decide +kernel
theorem dX10_goBack_12 : decode cX10_goBack 12 = .ok (.aload_n 0, 1) := by decide +kernel
theorem dX10_goBack_13 : decode cX10_goBack 13 = .ok (.getfield 44, 3) := by decide +kernel
theorem dX10_goBack_16 : decode cX10_goBack 16 = .ok (.iload_n 1, 1) := by decide +kernel
theorem dX10_goBack_17 : decode cX10_goBack 17 = .ok (.baload, 1) := by decide +kernel
theorem dX10_goBack_18 : decode cX10_goBack 18 = .ok (.ifCond .ne 6, 3) := by decide +kernel
theorem dX10_goBack_21 : decode cX10_goBack 21 = .ok (.ldc 205, 2) := by decide +kernel
theorem dX10_goBack_23 : decode cX10_goBack 23 = .ok (.ireturn, 1) := by decide +kernel
theorem dX10_goBack_24 : decode cX10_goBack 24 = .ok (.aload_n 0, 1) := by decide +kernel
theorem dX10_goBack_25 : decode cX10_goBack 25 = .ok (.getfield 38, 3) := by decide +kernel
theorem dX10_goBack_28 : decode cX10_goBack 28 = .ok (.sipush 174, 3) := by decide +kernel
theorem dX10_goBack_31 : decode cX10_goBack 31 = .ok (.iload_n 1, 1) := by decide +kernel
theorem dX10_goBack_32 : decode cX10_goBack 32 = .ok (.imul, 1) := by decide +kernel
theorem dX10_goBack_33 : decode cX10_goBack 33 = .ok (.aload_n 0, 1) := by decide +kernel
theorem dX10_goBack_34 : decode cX10_goBack 34 = .ok (.getfield 29, 3) := by decide +kernel
theorem dX10_goBack_37 : decode cX10_goBack 37 = .ok (.iconst 0, 1) := by decide +kernel
theorem dX10_goBack_38 : decode cX10_goBack 38 = .ok (.invokestatic 190, 3) := by decide +kernel
theorem dX10_goBack_41 : decode cX10_goBack 41 = .ok (.aload_n 0, 1) := by decide +kernel
theorem dX10_goBack_42 : decode cX10_goBack 42 = .ok (.aload_n 0, 1) := by decide +kernel
theorem dX10_goBack_43 : decode cX10_goBack 43 = .ok (.getfield 41, 3) := by decide +kernel
theorem dX10_goBack_46 : decode cX10_goBack 46 = .ok (.iload_n 1, 1) := by decide +kernel
theorem dX10_goBack_47 : decode cX10_goBack 47 = .ok (.iaload, 1) := by decide +kernel
theorem dX10_goBack_48 : decode cX10_goBack 48 = .ok (.putfield 212, 3) := by decide +kernel
theorem dX10_goBack_51 : decode cX10_goBack 51 = .ok (.aload_n 0, 1) := by decide +kernel
theorem dX10_goBack_52 : decode cX10_goBack 52 = .ok (.iconst 0, 1) := by decide +kernel
theorem dX10_goBack_53 : decode cX10_goBack 53 = .ok (.putfield 165, 3) := by decide +kernel
theorem dX10_goBack_56 : decode cX10_goBack 56 = .ok (.iconst 1, 1) := by decide +kernel
theorem dX10_goBack_57 : decode cX10_goBack 57 = .ok (.ireturn, 1) := by decide +kernel
theorem dJ6_numberOfTrailingZeros_0f7a4_0 : decode cJ6_numberOfTrailingZeros_0f7a4 0 = .ok (.iload_n 0, 1) := by decide +kernel
theorem dJ6_numberOfTrailingZeros_0f7a4_1 : decode cJ6_numberOfTrailingZeros_0f7a4 1 = .ok (.iconst (-1), 1) := by decide +kernel
theorem dJ6_numberOfTrailingZeros_0f7a4_2 : decode cJ6_numberOfTrailingZeros_0f7a4 2 = .ok (.ixor, 1) := by decide +kernel
theorem dJ6_numberOfTrailingZeros_0f7a4_3 : decode cJ6_numberOfTrailingZeros_0f7a4 3 = .ok (.iload_n 0, 1) := by decide +kernel
theorem dJ6_numberOfTrailingZeros_0f7a4_4 : decode cJ6_numberOfTrailingZeros_0f7a4 4 = .ok (.iconst 1, 1) := by decide +kernel
theorem dJ6_numberOfTrailingZeros_0f7a4_5 : decode cJ6_numberOfTrailingZeros_0f7a4 5 = .ok (.isub, 1) := by decide +kernel
theorem dJ6_numberOfTrailingZeros_0f7a4_6 : decode cJ6_numberOfTrailingZeros_0f7a4 6 = .ok (.iand, 1) := by decide +kernel
theorem dJ6_numberOfTrailingZeros_0f7a4_7 : decode cJ6_numberOfTrailingZeros_0f7a4 7 = .ok (.istore_n 0, 1) := by decide +kernel
theorem dJ6_numberOfTrailingZeros_0f7a4_8 : decode cJ6_numberOfTrailingZeros_0f7a4 8 = .ok (.iload_n 0, 1) := by decide +kernel
theorem dJ6_numberOfTrailingZeros_0f7a4_9 : decode cJ6_numberOfTrailingZeros_0f7a4 9 = .ok (.ifCond .gt 8, 3) := by decide +kernel
theorem dJ6_numberOfTrailingZeros_0f7a4_12 : decode cJ6_numberOfTrailingZeros_0f7a4 12 = .ok (.iload_n 0, 1) := by decide +kernel
theorem dJ6_numberOfTrailingZeros_0f7a4_13 : decode cJ6_numberOfTrailingZeros_0f7a4 13 = .ok (.bipush 32, 2) := by decide +kernel
theorem dJ6_numberOfTrailingZeros_0f7a4_15 : decode cJ6_numberOfTrailingZeros_0f7a4 15 = .ok (.iand, 1) := by decide +kernel
theorem dJ6_numberOfTrailingZeros_0f7a4_16 : decode cJ6_numberOfTrailingZeros_0f7a4 16 = .ok (.ireturn, 1) := by decide +kernel
theorem dJ6_numberOfTrailingZeros_0f7a4_17 : decode cJ6_numberOfTrailingZeros_0f7a4 17 = .ok (.iconst 1, 1) := by decide +kernel
theorem dJ6_numberOfTrailingZeros_0f7a4_18 : decode cJ6_numberOfTrailingZeros_0f7a4 18 = .ok (.istore_n 1, 1) := by decide +kernel
theorem dJ6_numberOfTrailingZeros_0f7a4_19 : decode cJ6_numberOfTrailingZeros_0f7a4 19 = .ok (.iload_n 0, 1) := by decide +kernel
theorem dJ6_numberOfTrailingZeros_0f7a4_20 : decode cJ6_numberOfTrailingZeros_0f7a4 20 = .ok (.ldc_w 264, 3) := by decide +kernel
theorem dJ6_numberOfTrailingZeros_0f7a4_23 : decode cJ6_numberOfTrailingZeros_0f7a4 23 = .ok (.if_icmp .le 11, 3) := by decide +kernel
theorem dJ6_numberOfTrailingZeros_0f7a4_26 : decode cJ6_numberOfTrailingZeros_0f7a4 26 = .ok (.iinc 1 16, 3) := by decide +kernel
theorem dJ6_numberOfTrailingZeros_0f7a4_29 : decode cJ6_numberOfTrailingZeros_0f7a4 29 = .ok (.iload_n 0, 1) := by decide +kernel
theorem dJ6_numberOfTrailingZeros_0f7a4_30 : decode cJ6_numberOfTrailingZeros_0f7a4 30 = .ok (.bipush 16, 2) := by decide +kernel
theorem dJ6_numberOfTrailingZeros_0f7a4_32 : decode cJ6_numberOfTrailingZeros_0f7a4 32 = .ok (.iushr, 1) := by decide +kernel
theorem dJ6_numberOfTrailingZeros_0f7a4_33 : decode cJ6_numberOfTrailingZeros_0f7a4 33 = .ok (.istore_n 0, 1) := by decide +kernel
theorem dJ6_numberOfTrailingZeros_0f7a4_34 : decode cJ6_numberOfTrailingZeros_0f7a4 34 = .ok (.iload_n 0, 1) := by decide +kernel
theorem dJ6_numberOfTrailingZeros_0f7a4_35 : decode cJ6_numberOfTrailingZeros_0f7a4 35 = .ok (.sipush 256, 3) := by decide +kernel
theorem dJ6_numberOfTrailingZeros_0f7a4_38 : decode cJ6_numberOfTrailingZeros_0f7a4 38 = .ok (.if_icmp .le 11, 3) := by decide +kernel
theorem dJ6_numberOfTrailingZeros_0f7a4_41 : decode cJ6_numberOfTrailingZeros_0f7a4 41 = .ok (.iinc 1 8, 3) := by decide +kernel
theorem dJ6_numberOfTrailingZeros_0f7a4_44 : decode cJ6_numberOfTrailingZeros_0f7a4 44 = .ok (.iload_n 0, 1) := by decide +kernel
theorem dJ6_numberOfTrailingZeros_0f7a4_45 : decode cJ6_numberOfTrailingZeros_0f7a4 45 = .ok (.bipush 8, 2) := by decide +kernel
theorem dJ6_numberOfTrailingZeros_0f7a4_47 : decode cJ6_numberOfTrailingZeros_0f7a4 47 = .ok (.iushr, 1) := by decide +kernel
theorem dJ6_numberOfTrailingZeros_0f7a4_48 : decode cJ6_numberOfTrailingZeros_0f7a4 48 = .ok (.istore_n 0, 1) := by decide +kernel
theorem dJ6_numberOfTrailingZeros_0f7a4_49 : decode cJ6_numberOfTrailingZeros_0f7a4 49 = .ok (.iload_n 0, 1) := by decide +kernel
theorem dJ6_numberOfTrailingZeros_0f7a4_50 : decode cJ6_numberOfTrailingZeros_0f7a4 50 = .ok (.bipush 16, 2) := by decide +kernel
theorem dJ6_numberOfTrailingZeros_0f7a4_52 : decode cJ6_numberOfTrailingZeros_0f7a4 52 = .ok (.if_icmp .le 10, 3) := by decide +kernel
theorem dJ6_numberOfTrailingZeros_0f7a4_55 : decode cJ6_numberOfTrailingZeros_0f7a4 55 = .ok (.iinc 1 4, 3) := by decide +kernel
theorem dJ6_numberOfTrailingZeros_0f7a4_58 : decode cJ6_numberOfTrailingZeros_0f7a4 58 = .ok (.iload_n 0, 1) := by decide +kernel
theorem dJ6_numberOfTrailingZeros_0f7a4_59 : decode cJ6_numberOfTrailingZeros_0f7a4 59 = .ok (.iconst 4, 1) := by decide +kernel
theorem dJ6_numberOfTrailingZeros_0f7a4_60 : decode cJ6_numberOfTrailingZeros_0f7a4 60 = .ok (.iushr, 1) := by decide +kernel
theorem dJ6_numberOfTrailingZeros_0f7a4_61 : decode cJ6_numberOfTrailingZeros_0f7a4 61 = .ok (.istore_n 0, 1) := by decide +kernel
theorem dJ6_numberOfTrailingZeros_0f7a4_62 : decode cJ6_numberOfTrailingZeros_0f7a4 62 = .ok (.iload_n 0, 1) := by decide +kernel
theorem dJ6_numberOfTrailingZeros_0f7a4_63 : decode cJ6_numberOfTrailingZeros_0f7a4 63 = .ok (.iconst 4, 1) := by decide +kernel
theorem dJ6_numberOfTrailingZeros_0f7a4_64 : decode cJ6_numberOfTrailingZeros_0f7a4 64 = .ok (.if_icmp .le 10, 3) := by decide +kernel
theorem dJ6_numberOfTrailingZeros_0f7a4_67 : decode cJ6_numberOfTrailingZeros_0f7a4 67 = .ok (.iinc 1 2, 3) := by decide +kernel
theorem dJ6_numberOfTrailingZeros_0f7a4_70 : decode cJ6_numberOfTrailingZeros_0f7a4 70 = .ok (.iload_n 0, 1) := by decide +kernel
theorem dJ6_numberOfTrailingZeros_0f7a4_71 : decode cJ6_numberOfTrailingZeros_0f7a4 71 = .ok (.iconst 2, 1) := by decide +kernel
theorem dJ6_numberOfTrailingZeros_0f7a4_72 : decode cJ6_numberOfTrailingZeros_0f7a4 72 = .ok (.iushr, 1) := by decide +kernel
theorem dJ6_numberOfTrailingZeros_0f7a4_73 : decode cJ6_numberOfTrailingZeros_0f7a4 73 = .ok (.istore_n 0, 1) := by decide +kernel
theorem dJ6_numberOfTrailingZeros_0f7a4_74 : decode cJ6_numberOfTrailingZeros_0f7a4 74 = .ok (.iload_n 1, 1) := by decide +kernel
theorem dJ6_numberOfTrailingZeros_0f7a4_75 : decode cJ6_numberOfTrailingZeros_0f7a4 75 = .ok (.iload_n 0, 1) := by decide +kernel
theorem dJ6_numberOfTrailingZeros_0f7a4_76 : decode cJ6_numberOfTrailingZeros_0f7a4 76 = .ok (.iconst 1, 1) := by decide +kernel
theorem dJ6_numberOfTrailingZeros_0f7a4_77 : decode cJ6_numberOfTrailingZeros_0f7a4 77 = .ok (.iushr, 1) := by decide +kernel
theorem dJ6_numberOfTrailingZeros_0f7a4_78 : decode cJ6_numberOfTrailingZeros_0f7a4 78 = .ok (.iadd, 1) := by decide +kernel
theorem dJ6_numberOfTrailingZeros_0f7a4_79 : decode cJ6_numberOfTrailingZeros_0f7a4 79 = .ok (.ireturn, 1) := by decide +kernel
theorem dJ6_bitCount_0f7a4_0 : decode cJ6_bitCount_0f7a4 0 = .ok (.iload_n 0, 1) := by decide +kernel
theorem dJ6_bitCount_0f7a4_1 : decode cJ6_bitCount_0f7a4 1 = .ok (.iload_n 0, 1) := by decide +kernel
theorem dJ6_bitCount_0f7a4_2 : decode cJ6_bitCount_0f7a4 2 = .ok (.iconst 1, 1) := by decide +kernel
theorem dJ6_bitCount_0f7a4_3 : decode cJ6_bitCount_0f7a4 3 = .ok (.iushr, 1) := by decide +kernel
theorem dJ6_bitCount_0f7a4_4 : decode cJ6_bitCount_0f7a4 4 = .ok (.ldc_w 265, 3) := by decide +kernel
theorem dJ6_bitCount_0f7a4_7 : decode cJ6_bitCount_0f7a4 7 = .ok (.iand, 1) := by decide +kernel
theorem dJ6_bitCount_0f7a4_8 : decode cJ6_bitCount_0f7a4 8 = .ok (.isub, 1) := by decide +kernel
theorem dJ6_bitCount_0f7a4_9 : decode cJ6_bitCount_0f7a4 9 = .ok (.istore_n 0, 1) := by decide +kernel
theorem dJ6_bitCount_0f7a4_10 : decode cJ6_bitCount_0f7a4 10 = .ok (.iload_n 0, 1) := by decide +kernel
theorem dJ6_bitCount_0f7a4_11 : decode cJ6_bitCount_0f7a4 11 = .ok (.ldc_w 266, 3) := by decide +kernel
theorem dJ6_bitCount_0f7a4_14 : decode cJ6_bitCount_0f7a4 14 = .ok (.iand, 1) := by decide +kernel
theorem dJ6_bitCount_0f7a4_15 : decode cJ6_bitCount_0f7a4 15 = .ok (.iload_n 0, 1) := by decide +kernel
theorem dJ6_bitCount_0f7a4_16 : decode cJ6_bitCount_0f7a4 16 = .ok (.iconst 2, 1) := by decide +kernel
theorem dJ6_bitCount_0f7a4_17 : decode cJ6_bitCount_0f7a4 17 = .ok (.iushr, 1) := by decide +kernel
theorem dJ6_bitCount_0f7a4_18 : decode cJ6_bitCount_0f7a4 18 = .ok (.ldc_w 266, 3) := by decide +kernel
theorem dJ6_bitCount_0f7a4_21 : decode cJ6_bitCount_0f7a4 21 = .ok (.iand, 1) := by decide +kernel
theorem dJ6_bitCount_0f7a4_22 : decode cJ6_bitCount_0f7a4 22 = .ok (.iadd, 1) := by decide +kernel
theorem dJ6_bitCount_0f7a4_23 : decode cJ6_bitCount_0f7a4 23 = .ok (.istore_n 0, 1) := by decide +kernel
theorem dJ6_bitCount_0f7a4_24 : decode cJ6_bitCount_0f7a4 24 = .ok (.iload_n 0, 1) := by decide +kernel
theorem dJ6_bitCount_0f7a4_25 : decode cJ6_bitCount_0f7a4 25 = .ok (.iload_n 0, 1) := by decide +kernel
theorem dJ6_bitCount_0f7a4_26 : decode cJ6_bitCount_0f7a4 26 = .ok (.iconst 4, 1) := by decide +kernel
theorem dJ6_bitCount_0f7a4_27 : decode cJ6_bitCount_0f7a4 27 = .ok (.iushr, 1) := by decide +kernel
theorem dJ6_bitCount_0f7a4_28 : decode cJ6_bitCount_0f7a4 28 = .ok (.iadd, 1) := by decide +kernel
theorem dJ6_bitCount_0f7a4_29 : decode cJ6_bitCount_0f7a4 29 = .ok (.ldc_w 267, 3) := by decide +kernel
theorem dJ6_bitCount_0f7a4_32 : decode cJ6_bitCount_0f7a4 32 = .ok (.iand, 1) := by decide +kernel
theorem dJ6_bitCount_0f7a4_33 : decode cJ6_bitCount_0f7a4 33 = .ok (.istore_n 0, 1) := by decide +kernel
theorem dJ6_bitCount_0f7a4_34 : decode cJ6_bitCount_0f7a4 34 = .ok (.iload_n 0, 1) := by decide +kernel
theorem dJ6_bitCount_0f7a4_35 : decode cJ6_bitCount_0f7a4 35 = .ok (.iload_n 0, 1) := by decide +kernel
theorem dJ6_bitCount_0f7a4_36 : decode cJ6_bitCount_0f7a4 36 = .ok (.bipush 8, 2) := by decide +kernel
theorem dJ6_bitCount_0f7a4_38 : decode cJ6_bitCount_0f7a4 38 = .ok (.iushr, 1) := by decide +kernel
theorem dJ6_bitCount_0f7a4_39 : decode cJ6_bitCount_0f7a4 39 = .ok (.iadd, 1) := by decide +kernel
theorem dJ6_bitCount_0f7a4_40 : decode cJ6_bitCount_0f7a4 40 = .ok (.istore_n 0, 1) := by decide +kernel
theorem dJ6_bitCount_0f7a4_41 : decode cJ6_bitCount_0f7a4 41 = .ok (.iload_n 0, 1) := by decide +kernel
theorem dJ6_bitCount_0f7a4_42 : decode cJ6_bitCount_0f7a4 42 = .ok (.iload_n 0, 1) := by decide +kernel
theorem dJ6_bitCount_0f7a4_43 : decode cJ6_bitCount_0f7a4 43 = .ok (.bipush 16, 2) := by decide +kernel
theorem dJ6_bitCount_0f7a4_45 : decode cJ6_bitCount_0f7a4 45 = .ok (.iushr, 1) := by decide +kernel
theorem dJ6_bitCount_0f7a4_46 : decode cJ6_bitCount_0f7a4 46 = .ok (.iadd, 1) := by decide +kernel
theorem dJ6_bitCount_0f7a4_47 : decode cJ6_bitCount_0f7a4 47 = .ok (.istore_n 0, 1) := by decide +kernel
theorem dJ6_bitCount_0f7a4_48 : decode cJ6_bitCount_0f7a4 48 = .ok (.iload_n 0, 1) := by decide +kernel
theorem dJ6_bitCount_0f7a4_49 : decode cJ6_bitCount_0f7a4 49 = .ok (.bipush 63, 2) := by decide +kernel
theorem dJ6_bitCount_0f7a4_51 : decode cJ6_bitCount_0f7a4 51 = .ok (.iand, 1) := by decide +kernel
theorem dJ6_bitCount_0f7a4_52 : decode cJ6_bitCount_0f7a4 52 = .ok (.ireturn, 1) := by decide +kernel
theorem dJ13_numberOfTrailingZeros_95d88_0 : decode cJ13_numberOfTrailingZeros_95d88 0 = .ok (.lload_n 0, 1) := by decide +kernel
theorem dJ13_numberOfTrailingZeros_95d88_1 : decode cJ13_numberOfTrailingZeros_95d88 1 = .ok (.l2i, 1) := by decide +kernel
theorem dJ13_numberOfTrailingZeros_95d88_2 : decode cJ13_numberOfTrailingZeros_95d88 2 = .ok (.istore_n 2, 1) := by decide +kernel
theorem dJ13_numberOfTrailingZeros_95d88_3 : decode cJ13_numberOfTrailingZeros_95d88 3 = .ok (.iload_n 2, 1) := by decide +kernel
theorem dJ13_numberOfTrailingZeros_95d88_4 : decode cJ13_numberOfTrailingZeros_95d88 4 = .ok (.ifCond .ne 17, 3) := by decide +kernel
theorem dJ13_numberOfTrailingZeros_95d88_7 : decode cJ13_numberOfTrailingZeros_95d88 7 = .ok (.bipush 32, 2) := by decide +kernel
theorem dJ13_numberOfTrailingZeros_95d88_9 : decode cJ13_numberOfTrailingZeros_95d88 9 = .ok (.lload_n 0, 1) := by decide +kernel
theorem dJ13_numberOfTrailingZeros_95d88_10 : decode cJ13_numberOfTrailingZeros_95d88 10 = .ok (.bipush 32, 2) := by decide +kernel
theorem dJ13_numberOfTrailingZeros_95d88_12 : decode cJ13_numberOfTrailingZeros_95d88 12 = .ok (.lushr, 1) := by decide +kernel
theorem dJ13_numberOfTrailingZeros_95d88_13 : decode cJ13_numberOfTrailingZeros_95d88 13 = .ok (.l2i, 1) := by decide +kernel
theorem dJ13_numberOfTrailingZeros_95d88_14 : decode cJ13_numberOfTrailingZeros_95d88 14 = .ok (.invokestatic 311, 3) := by decide +kernel
theorem dJ13_numberOfTrailingZeros_95d88_17 : decode cJ13_numberOfTrailingZeros_95d88 17 = .ok (.iadd, 1) := by decide +kernel
theorem dJ13_numberOfTrailingZeros_95d88_18 : decode cJ13_numberOfTrailingZeros_95d88 18 = .ok (.goto 7, 3) := by decide +kernel
theorem dJ13_numberOfTrailingZeros_95d88_21 : decode cJ13_numberOfTrailingZeros_95d88 21 = .ok (.iload_n 2, 1) := by decide +kernel
theorem dJ13_numberOfTrailingZeros_95d88_22 : decode cJ13_numberOfTrailingZeros_95d88 22 = .ok (.invokestatic 311, 3) := by decide +kernel
theorem dJ13_numberOfTrailingZeros_95d88_25 : decode cJ13_numberOfTrailingZeros_95d88 25 = .ok (.ireturn, 1) := by decide +kernel
theorem dJ9_max_7cf53_0 : decode cJ9_max_7cf53 0 = .ok (.iload_n 0, 1) := by decide +kernel
theorem dJ9_max_7cf53_1 : decode cJ9_max_7cf53 1 = .ok (.iload_n 1, 1) := by decide +kernel
theorem dJ9_max_7cf53_2 : decode cJ9_max_7cf53 2 = .ok (.if_icmp .lt 7, 3) := by decide +kernel
theorem dJ9_max_7cf53_5 : decode cJ9_max_7cf53 5 = .ok (.iload_n 0, 1) := by decide +kernel
theorem dJ9_max_7cf53_6 : decode cJ9_max_7cf53 6 = .ok (.goto 4, 3) := by decide +kernel
theorem dJ9_max_7cf53_9 : decode cJ9_max_7cf53 9 = .ok (.iload_n 1, 1) := by decide +kernel
theorem dJ9_max_7cf53_10 : decode cJ9_max_7cf53 10 = .ok (.ireturn, 1) := by decide +kernel
theorem dJ9_min_7cf53_0 : decode cJ9_min_7cf53 0 = .ok (.iload_n 0, 1) := by decide +kernel
theorem dJ9_min_7cf53_1 : decode cJ9_min_7cf53 1 = .ok (.iload_n 1, 1) := by decide +kernel
theorem dJ9_min_7cf53_2 : decode cJ9_min_7cf53 2 = .ok (.if_icmp .gt 7, 3) := by decide +kernel
theorem dJ9_min_7cf53_5 : decode cJ9_min_7cf53 5 = .ok (.iload_n 0, 1) := by decide +kernel
theorem dJ9_min_7cf53_6 : decode cJ9_min_7cf53 6 = .ok (.goto 4, 3) := by decide +kernel
theorem dJ9_min_7cf53_9 : decode cJ9_min_7cf53 9 = .ok (.iload_n 1, 1) := by decide +kernel
theorem dJ9_min_7cf53_10 : decode cJ9_min_7cf53 10 = .ok (.ireturn, 1) := by decide +kernel
theorem dJ7_fill_d0a16_0 : decode cJ7_fill_d0a16 0 = .ok (.iconst 0, 1) := by decide +kernel
theorem dJ7_fill_d0a16_1 : decode cJ7_fill_d0a16 1 = .ok (.istore_n 3, 1) := by decide +kernel
theorem dJ7_fill_d0a16_2 : decode cJ7_fill_d0a16 2 = .ok (.aload_n 0, 1) := by decide +kernel
theorem dJ7_fill_d0a16_3 : decode cJ7_fill_d0a16 3 = .ok (.arraylength, 1) := by decide +kernel
theorem dJ7_fill_d0a16_4 : decode cJ7_fill_d0a16 4 = .ok (.istore 4, 2) := by decide +kernel
theorem dJ7_fill_d0a16_6 : decode cJ7_fill_d0a16 6 = .ok (.iload_n 3, 1) := by decide +kernel
theorem dJ7_fill_d0a16_7 : decode cJ7_fill_d0a16 7 = .ok (.iload 4, 2) := by decide +kernel
theorem dJ7_fill_d0a16_9 : decode cJ7_fill_d0a16 9 = .ok (.if_icmp .ge 13, 3) := by decide +kernel
theorem dJ7_fill_d0a16_12 : decode cJ7_fill_d0a16 12 = .ok (.aload_n 0, 1) := by decide +kernel
theorem dJ7_fill_d0a16_13 : decode cJ7_fill_d0a16 13 = .ok (.iload_n 3, 1) := by decide +kernel
theorem dJ7_fill_d0a16_14 : decode cJ7_fill_d0a16 14 = .ok (.lload_n 1, 1) := by decide +kernel
theorem dJ7_fill_d0a16_15 : decode cJ7_fill_d0a16 15 = .ok (.lastore, 1) := by decide +kernel
theorem dJ7_fill_d0a16_16 : decode cJ7_fill_d0a16 16 = .ok (.iinc 3 1, 3) := by decide +kernel
theorem dJ7_fill_d0a16_19 : decode cJ7_fill_d0a16 19 = .ok (.goto (-13), 3) := by decide +kernel
theorem dJ7_fill_d0a16_22 : decode cJ7_fill_d0a16 22 = .ok (.return_, 1) := by decide +kernel
theorem dJ7_fill_53178_0 : decode cJ7_fill_53178 0 = .ok (.iconst 0, 1) := by decide +kernel
theorem dJ7_fill_53178_1 : decode cJ7_fill_53178 1 = .ok (.istore_n 2, 1) := by decide +kernel
theorem dJ7_fill_53178_2 : decode cJ7_fill_53178 2 = .ok (.aload_n 0, 1) := by decide +kernel
theorem dJ7_fill_53178_3 : decode cJ7_fill_53178 3 = .ok (.arraylength, 1) := by decide +kernel
theorem dJ7_fill_53178_4 : decode cJ7_fill_53178 4 = .ok (.istore_n 3, 1) := by decide +kernel
theorem dJ7_fill_53178_5 : decode cJ7_fill_53178 5 = .ok (.iload_n 2, 1) := by decide +kernel
theorem dJ7_fill_53178_6 : decode cJ7_fill_53178 6 = .ok (.iload_n 3, 1) := by decide +kernel
theorem dJ7_fill_53178_7 : decode cJ7_fill_53178 7 = .ok (.if_icmp .ge 13, 3) := by decide +kernel
theorem dJ7_fill_53178_10 : decode cJ7_fill_53178 10 = .ok (.aload_n 0, 1) := by decide +kernel
theorem dJ7_fill_53178_11 : decode cJ7_fill_53178 11 = .ok (.iload_n 2, 1) := by decide +kernel
theorem dJ7_fill_53178_12 : decode cJ7_fill_53178 12 = .ok (.iload_n 1, 1) := by decide +kernel
theorem dJ7_fill_53178_13 : decode cJ7_fill_53178 13 = .ok (.iastore, 1) := by decide +kernel
theorem dJ7_fill_53178_14 : decode cJ7_fill_53178 14 = .ok (.iinc 2 1, 3) := by decide +kernel
theorem dJ7_fill_53178_17 : decode cJ7_fill_53178 17 = .ok (.goto (-12), 3) := by decide +kernel
theorem dJ7_fill_53178_20 : decode cJ7_fill_53178 20 = .ok (.return_, 1) := by decide +kernel
theorem dL_law_0 : decode cL_law 0 = .ok (.new 7, 3) := by decide +kernel
theorem dL_law_3 : decode cL_law 3 = .ok (.dup, 1) := by decide +kernel
theorem dL_law_4 : decode cL_law 4 = .ok (.invokespecial 9, 3) := by decide +kernel
theorem dL_law_7 : decode cL_law 7 = .ok (.astore_n 1, 1) := by decide +kernel
theorem dL_law_8 : decode cL_law 8 = .ok (.new 10, 3) := by decide +kernel
theorem dL_law_11 : decode cL_law 11 = .ok (.dup, 1) := by decide +kernel
theorem dL_law_12 : decode cL_law 12 = .ok (.invokespecial 12, 3) := by decide +kernel
theorem dL_law_15 : decode cL_law 15 = .ok (.astore_n 2, 1) := by decide +kernel
theorem dL_law_16 : decode cL_law 16 = .ok (.iconst 0, 1) := by decide +kernel
theorem dL_law_17 : decode cL_law 17 = .ok (.istore_n 3, 1) := by decide +kernel
theorem dL_law_18 : decode cL_law 18 = .ok (.iload_n 3, 1) := by decide +kernel
theorem dL_law_19 : decode cL_law 19 = .ok (.aload_n 0, 1) := by decide +kernel
theorem dL_law_20 : decode cL_law 20 = .ok (.arraylength, 1) := by decide +kernel
theorem dL_law_21 : decode cL_law 21 = .ok (.iconst 4, 1) := by decide +kernel
theorem dL_law_22 : decode cL_law 22 = .ok (.isub, 1) := by decide +kernel
theorem dL_law_23 : decode cL_law 23 = .ok (.if_icmp .gt 1065, 3) := by decide +kernel
theorem dL_law_26 : decode cL_law 26 = .ok (.aload_n 0, 1) := by decide +kernel
theorem dL_law_27 : decode cL_law 27 = .ok (.iload_n 3, 1) := by decide +kernel
theorem dL_law_28 : decode cL_law 28 = .ok (.iaload, 1) := by decide +kernel
theorem dL_law_29 : decode cL_law 29 = .ok (.bipush 63, 2) := by decide +kernel
theorem dL_law_31 : decode cL_law 31 = .ok (.iand, 1) := by decide +kernel
theorem dL_law_32 : decode cL_law 32 = .ok (.tableswitch 1050 0 33 #[152, 175, 188, 201, 224, 257, 290, 323, 346, 369, 418, 441, 474, 487, 510, 523, 556, 589, 632, 675, 718, 741, 764, 777, 800, 833, 876, 899, 922, 955, 968, 981, 1004, 1027], 152) := by decide +kernel
theorem dL_law_184 : decode cL_law 184 = .ok (.aload_n 1, 1) := by decide +kernel
theorem dL_law_185 : decode cL_law 185 = .ok (.aload_n 0, 1) := by decide +kernel
theorem dL_law_186 : decode cL_law 186 = .ok (.iload_n 3, 1) := by decide +kernel
theorem dL_law_187 : decode cL_law 187 = .ok (.iconst 1, 1) := by decide +kernel
theorem dL_law_188 : decode cL_law 188 = .ok (.iadd, 1) := by decide +kernel
theorem dL_law_189 : decode cL_law 189 = .ok (.iaload, 1) := by decide +kernel
theorem dL_law_190 : decode cL_law 190 = .ok (.invokevirtual 13, 3) := by decide +kernel
theorem dL_law_193 : decode cL_law 193 = .ok (.aload_n 2, 1) := by decide +kernel
theorem dL_law_194 : decode cL_law 194 = .ok (.aload_n 0, 1) := by decide +kernel
theorem dL_law_195 : decode cL_law 195 = .ok (.iload_n 3, 1) := by decide +kernel
theorem dL_law_196 : decode cL_law 196 = .ok (.iconst 1, 1) := by decide +kernel
theorem dL_law_197 : decode cL_law 197 = .ok (.iadd, 1) := by decide +kernel
theorem dL_law_198 : decode cL_law 198 = .ok (.iaload, 1) := by decide +kernel
theorem dL_law_199 : decode cL_law 199 = .ok (.invokevirtual 17, 3) := by decide +kernel
theorem dL_law_202 : decode cL_law 202 = .ok (.if_icmp .eq 880, 3) := by decide +kernel
theorem dL_law_205 : decode cL_law 205 = .ok (.iconst 0, 1) := by decide +kernel
theorem dL_law_206 : decode cL_law 206 = .ok (.ireturn, 1) := by decide +kernel
theorem dL_law_207 : decode cL_law 207 = .ok (.aload_n 1, 1) := by decide +kernel
theorem dL_law_208 : decode cL_law 208 = .ok (.invokevirtual 18, 3) := by decide +kernel
theorem dL_law_211 : decode cL_law 211 = .ok (.aload_n 2, 1) := by decide +kernel
theorem dL_law_212 : decode cL_law 212 = .ok (.invokevirtual 22, 3) := by decide +kernel
theorem dL_law_215 : decode cL_law 215 = .ok (.if_icmp .eq 867, 3) := by decide +kernel
theorem dL_law_218 : decode cL_law 218 = .ok (.iconst 0, 1) := by decide +kernel
theorem dL_law_219 : decode cL_law 219 = .ok (.ireturn, 1) := by decide +kernel
theorem dL_law_220 : decode cL_law 220 = .ok (.aload_n 1, 1) := by decide +kernel
theorem dL_law_221 : decode cL_law 221 = .ok (.invokevirtual 23, 3) := by decide +kernel
theorem dL_law_224 : decode cL_law 224 = .ok (.aload_n 2, 1) := by decide +kernel
theorem dL_law_225 : decode cL_law 225 = .ok (.invokevirtual 26, 3) := by decide +kernel
theorem dL_law_228 : decode cL_law 228 = .ok (.if_icmp .eq 854, 3) := by decide +kernel
theorem dL_law_231 : decode cL_law 231 = .ok (.iconst 0, 1) := by decide +kernel
theorem dL_law_232 : decode cL_law 232 = .ok (.ireturn, 1) := by decide +kernel
theorem dL_law_233 : decode cL_law 233 = .ok (.aload_n 1, 1) := by decide +kernel
theorem dL_law_234 : decode cL_law 234 = .ok (.aload_n 0, 1) := by decide +kernel
theorem dL_law_235 : decode cL_law 235 = .ok (.iload_n 3, 1) := by decide +kernel
theorem dL_law_236 : decode cL_law 236 = .ok (.iconst 1, 1) := by decide +kernel
theorem dL_law_237 : decode cL_law 237 = .ok (.iadd, 1) := by decide +kernel
theorem dL_law_238 : decode cL_law 238 = .ok (.iaload, 1) := by decide +kernel
theorem dL_law_239 : decode cL_law 239 = .ok (.invokevirtual 27, 3) := by decide +kernel
theorem dL_law_242 : decode cL_law 242 = .ok (.aload_n 2, 1) := by decide +kernel
theorem dL_law_243 : decode cL_law 243 = .ok (.aload_n 0, 1) := by decide +kernel
theorem dL_law_244 : decode cL_law 244 = .ok (.iload_n 3, 1) := by decide +kernel
theorem dL_law_245 : decode cL_law 245 = .ok (.iconst 1, 1) := by decide +kernel
theorem dL_law_246 : decode cL_law 246 = .ok (.iadd, 1) := by decide +kernel
theorem dL_law_247 : decode cL_law 247 = .ok (.iaload, 1) := by decide +kernel
theorem dL_law_248 : decode cL_law 248 = .ok (.invokevirtual 30, 3) := by decide +kernel
theorem dL_law_251 : decode cL_law 251 = .ok (.if_icmp .eq 831, 3) := by decide +kernel
theorem dL_law_254 : decode cL_law 254 = .ok (.iconst 0, 1) := by decide +kernel
theorem dL_law_255 : decode cL_law 255 = .ok (.ireturn, 1) := by decide +kernel
theorem dL_law_256 : decode cL_law 256 = .ok (.aload_n 1, 1) := by decide +kernel
theorem dL_law_257 : decode cL_law 257 = .ok (.aload_n 0, 1) := by decide +kernel
theorem dL_law_258 : decode cL_law 258 = .ok (.iload_n 3, 1) := by decide +kernel
theorem dL_law_259 : decode cL_law 259 = .ok (.iconst 1, 1) := by decide +kernel
theorem dL_law_260 : decode cL_law 260 = .ok (.iadd, 1) := by decide +kernel
theorem dL_law_261 : decode cL_law 261 = .ok (.iaload, 1) := by decide +kernel
theorem dL_law_262 : decode cL_law 262 = .ok (.aload_n 0, 1) := by decide +kernel
theorem dL_law_263 : decode cL_law 263 = .ok (.iload_n 3, 1) := by decide +kernel
theorem dL_law_264 : decode cL_law 264 = .ok (.iconst 2, 1) := by decide +kernel
theorem dL_law_265 : decode cL_law 265 = .ok (.iadd, 1) := by decide +kernel
theorem dL_law_266 : decode cL_law 266 = .ok (.iaload, 1) := by decide +kernel
theorem dL_law_267 : decode cL_law 267 = .ok (.invokevirtual 31, 3) := by decide +kernel
theorem dL_law_270 : decode cL_law 270 = .ok (.aload_n 2, 1) := by decide +kernel
theorem dL_law_271 : decode cL_law 271 = .ok (.aload_n 0, 1) := by decide +kernel
theorem dL_law_272 : decode cL_law 272 = .ok (.iload_n 3, 1) := by decide +kernel
theorem dL_law_273 : decode cL_law 273 = .ok (.iconst 1, 1) := by decide +kernel
theorem dL_law_274 : decode cL_law 274 = .ok (.iadd, 1) := by decide +kernel
theorem dL_law_275 : decode cL_law 275 = .ok (.iaload, 1) := by decide +kernel
theorem dL_law_276 : decode cL_law 276 = .ok (.aload_n 0, 1) := by decide +kernel
theorem dL_law_277 : decode cL_law 277 = .ok (.iload_n 3, 1) := by decide +kernel
theorem dL_law_278 : decode cL_law 278 = .ok (.iconst 2, 1) := by decide +kernel
theorem dL_law_279 : decode cL_law 279 = .ok (.iadd, 1) := by decide +kernel
theorem dL_law_280 : decode cL_law 280 = .ok (.iaload, 1) := by decide +kernel
theorem dL_law_281 : decode cL_law 281 = .ok (.invokevirtual 35, 3) := by decide +kernel
theorem dL_law_284 : decode cL_law 284 = .ok (.if_icmp .eq 798, 3) := by decide +kernel
theorem dL_law_287 : decode cL_law 287 = .ok (.iconst 0, 1) := by decide +kernel
theorem dL_law_288 : decode cL_law 288 = .ok (.ireturn, 1) := by decide +kernel
theorem dL_law_289 : decode cL_law 289 = .ok (.aload_n 1, 1) := by decide +kernel
theorem dL_law_290 : decode cL_law 290 = .ok (.aload_n 0, 1) := by decide +kernel
theorem dL_law_291 : decode cL_law 291 = .ok (.iload_n 3, 1) := by decide +kernel
theorem dL_law_292 : decode cL_law 292 = .ok (.iconst 1, 1) := by decide +kernel
theorem dL_law_293 : decode cL_law 293 = .ok (.iadd, 1) := by decide +kernel
theorem dL_law_294 : decode cL_law 294 = .ok (.iaload, 1) := by decide +kernel
theorem dL_law_295 : decode cL_law 295 = .ok (.aload_n 0, 1) := by decide +kernel
theorem dL_law_296 : decode cL_law 296 = .ok (.iload_n 3, 1) := by decide +kernel
theorem dL_law_297 : decode cL_law 297 = .ok (.iconst 2, 1) := by decide +kernel
theorem dL_law_298 : decode cL_law 298 = .ok (.iadd, 1) := by decide +kernel
theorem dL_law_299 : decode cL_law 299 = .ok (.iaload, 1) := by decide +kernel
theorem dL_law_300 : decode cL_law 300 = .ok (.invokevirtual 36, 3) := by decide +kernel
theorem dL_law_303 : decode cL_law 303 = .ok (.aload_n 2, 1) := by decide +kernel
theorem dL_law_304 : decode cL_law 304 = .ok (.aload_n 0, 1) := by decide +kernel
theorem dL_law_305 : decode cL_law 305 = .ok (.iload_n 3, 1) := by decide +kernel
theorem dL_law_306 : decode cL_law 306 = .ok (.iconst 1, 1) := by decide +kernel
theorem dL_law_307 : decode cL_law 307 = .ok (.iadd, 1) := by decide +kernel
theorem dL_law_308 : decode cL_law 308 = .ok (.iaload, 1) := by decide +kernel
theorem dL_law_309 : decode cL_law 309 = .ok (.aload_n 0, 1) := by decide +kernel
theorem dL_law_310 : decode cL_law 310 = .ok (.iload_n 3, 1) := by decide +kernel
theorem dL_law_311 : decode cL_law 311 = .ok (.iconst 2, 1) := by decide +kernel
theorem dL_law_312 : decode cL_law 312 = .ok (.iadd, 1) := by decide +kernel
theorem dL_law_313 : decode cL_law 313 = .ok (.iaload, 1) := by decide +kernel
theorem dL_law_314 : decode cL_law 314 = .ok (.invokevirtual 39, 3) := by decide +kernel
theorem dL_law_317 : decode cL_law 317 = .ok (.if_icmp .eq 765, 3) := by decide +kernel
theorem dL_law_320 : decode cL_law 320 = .ok (.iconst 0, 1) := by decide +kernel
theorem dL_law_321 : decode cL_law 321 = .ok (.ireturn, 1) := by decide +kernel
theorem dL_law_322 : decode cL_law 322 = .ok (.aload_n 1, 1) := by decide +kernel
theorem dL_law_323 : decode cL_law 323 = .ok (.aload_n 0, 1) := by decide +kernel
theorem dL_law_324 : decode cL_law 324 = .ok (.iload_n 3, 1) := by decide +kernel
theorem dL_law_325 : decode cL_law 325 = .ok (.iconst 1, 1) := by decide +kernel
theorem dL_law_326 : decode cL_law 326 = .ok (.iadd, 1) := by decide +kernel
theorem dL_law_327 : decode cL_law 327 = .ok (.iaload, 1) := by decide +kernel
theorem dL_law_328 : decode cL_law 328 = .ok (.aload_n 0, 1) := by decide +kernel
theorem dL_law_329 : decode cL_law 329 = .ok (.iload_n 3, 1) := by decide +kernel
theorem dL_law_330 : decode cL_law 330 = .ok (.iconst 2, 1) := by decide +kernel
theorem dL_law_331 : decode cL_law 331 = .ok (.iadd, 1) := by decide +kernel
theorem dL_law_332 : decode cL_law 332 = .ok (.iaload, 1) := by decide +kernel
theorem dL_law_333 : decode cL_law 333 = .ok (.invokevirtual 40, 3) := by decide +kernel
theorem dL_law_336 : decode cL_law 336 = .ok (.aload_n 2, 1) := by decide +kernel
theorem dL_law_337 : decode cL_law 337 = .ok (.aload_n 0, 1) := by decide +kernel
theorem dL_law_338 : decode cL_law 338 = .ok (.iload_n 3, 1) := by decide +kernel
theorem dL_law_339 : decode cL_law 339 = .ok (.iconst 1, 1) := by decide +kernel
theorem dL_law_340 : decode cL_law 340 = .ok (.iadd, 1) := by decide +kernel
theorem dL_law_341 : decode cL_law 341 = .ok (.iaload, 1) := by decide +kernel
theorem dL_law_342 : decode cL_law 342 = .ok (.aload_n 0, 1) := by decide +kernel
theorem dL_law_343 : decode cL_law 343 = .ok (.iload_n 3, 1) := by decide +kernel
theorem dL_law_344 : decode cL_law 344 = .ok (.iconst 2, 1) := by decide +kernel
theorem dL_law_345 : decode cL_law 345 = .ok (.iadd, 1) := by decide +kernel
theorem dL_law_346 : decode cL_law 346 = .ok (.iaload, 1) := by decide +kernel
theorem dL_law_347 : decode cL_law 347 = .ok (.invokevirtual 43, 3) := by decide +kernel
theorem dL_law_350 : decode cL_law 350 = .ok (.if_icmp .eq 732, 3) := by decide +kernel
theorem dL_law_353 : decode cL_law 353 = .ok (.iconst 0, 1) := by decide +kernel
theorem dL_law_354 : decode cL_law 354 = .ok (.ireturn, 1) := by decide +kernel
theorem dL_law_355 : decode cL_law 355 = .ok (.aload_n 1, 1) := by decide +kernel
theorem dL_law_356 : decode cL_law 356 = .ok (.aload_n 0, 1) := by decide +kernel
theorem dL_law_357 : decode cL_law 357 = .ok (.iload_n 3, 1) := by decide +kernel
theorem dL_law_358 : decode cL_law 358 = .ok (.iconst 1, 1) := by decide +kernel
theorem dL_law_359 : decode cL_law 359 = .ok (.iadd, 1) := by decide +kernel
theorem dL_law_360 : decode cL_law 360 = .ok (.iaload, 1) := by decide +kernel
theorem dL_law_361 : decode cL_law 361 = .ok (.invokevirtual 44, 3) := by decide +kernel
theorem dL_law_364 : decode cL_law 364 = .ok (.aload_n 2, 1) := by decide +kernel
theorem dL_law_365 : decode cL_law 365 = .ok (.aload_n 0, 1) := by decide +kernel
theorem dL_law_366 : decode cL_law 366 = .ok (.iload_n 3, 1) := by decide +kernel
theorem dL_law_367 : decode cL_law 367 = .ok (.iconst 1, 1) := by decide +kernel
theorem dL_law_368 : decode cL_law 368 = .ok (.iadd, 1) := by decide +kernel
theorem dL_law_369 : decode cL_law 369 = .ok (.iaload, 1) := by decide +kernel
theorem dL_law_370 : decode cL_law 370 = .ok (.invokevirtual 47, 3) := by decide +kernel
theorem dL_law_373 : decode cL_law 373 = .ok (.if_icmp .eq 709, 3) := by decide +kernel
theorem dL_law_376 : decode cL_law 376 = .ok (.iconst 0, 1) := by decide +kernel
theorem dL_law_377 : decode cL_law 377 = .ok (.ireturn, 1) := by decide +kernel
theorem dL_law_378 : decode cL_law 378 = .ok (.aload_n 1, 1) := by decide +kernel
theorem dL_law_379 : decode cL_law 379 = .ok (.aload_n 0, 1) := by decide +kernel
theorem dL_law_380 : decode cL_law 380 = .ok (.iload_n 3, 1) := by decide +kernel
theorem dL_law_381 : decode cL_law 381 = .ok (.iconst 1, 1) := by decide +kernel
theorem dL_law_382 : decode cL_law 382 = .ok (.iadd, 1) := by decide +kernel
theorem dL_law_383 : decode cL_law 383 = .ok (.iaload, 1) := by decide +kernel
theorem dL_law_384 : decode cL_law 384 = .ok (.invokevirtual 48, 3) := by decide +kernel
theorem dL_law_387 : decode cL_law 387 = .ok (.aload_n 2, 1) := by decide +kernel
theorem dL_law_388 : decode cL_law 388 = .ok (.aload_n 0, 1) := by decide +kernel
theorem dL_law_389 : decode cL_law 389 = .ok (.iload_n 3, 1) := by decide +kernel
theorem dL_law_390 : decode cL_law 390 = .ok (.iconst 1, 1) := by decide +kernel
theorem dL_law_391 : decode cL_law 391 = .ok (.iadd, 1) := by decide +kernel
theorem dL_law_392 : decode cL_law 392 = .ok (.iaload, 1) := by decide +kernel
theorem dL_law_393 : decode cL_law 393 = .ok (.invokevirtual 51, 3) := by decide +kernel
theorem dL_law_396 : decode cL_law 396 = .ok (.if_icmp .eq 686, 3) := by decide +kernel
theorem dL_law_399 : decode cL_law 399 = .ok (.iconst 0, 1) := by decide +kernel
theorem dL_law_400 : decode cL_law 400 = .ok (.ireturn, 1) := by decide +kernel
theorem dL_law_401 : decode cL_law 401 = .ok (.aload_n 1, 1) := by decide +kernel
theorem dL_law_402 : decode cL_law 402 = .ok (.aload_n 0, 1) := by decide +kernel
theorem dL_law_403 : decode cL_law 403 = .ok (.iload_n 3, 1) := by decide +kernel
theorem dL_law_404 : decode cL_law 404 = .ok (.iconst 1, 1) := by decide +kernel
theorem dL_law_405 : decode cL_law 405 = .ok (.iadd, 1) := by decide +kernel
theorem dL_law_406 : decode cL_law 406 = .ok (.iaload, 1) := by decide +kernel
theorem dL_law_407 : decode cL_law 407 = .ok (.aload_n 0, 1) := by decide +kernel
theorem dL_law_408 : decode cL_law 408 = .ok (.iload_n 3, 1) := by decide +kernel
theorem dL_law_409 : decode cL_law 409 = .ok (.iconst 2, 1) := by decide +kernel
theorem dL_law_410 : decode cL_law 410 = .ok (.iadd, 1) := by decide +kernel
theorem dL_law_411 : decode cL_law 411 = .ok (.iaload, 1) := by decide +kernel
theorem dL_law_412 : decode cL_law 412 = .ok (.ifCond .eq 7, 3) := by decide +kernel
theorem dL_law_415 : decode cL_law 415 = .ok (.iconst 1, 1) := by decide +kernel
theorem dL_law_416 : decode cL_law 416 = .ok (.goto 4, 3) := by decide +kernel
theorem dL_law_419 : decode cL_law 419 = .ok (.iconst 0, 1) := by decide +kernel
theorem dL_law_420 : decode cL_law 420 = .ok (.invokevirtual 52, 3) := by decide +kernel
theorem dL_law_423 : decode cL_law 423 = .ok (.aload_n 2, 1) := by decide +kernel
theorem dL_law_424 : decode cL_law 424 = .ok (.aload_n 0, 1) := by decide +kernel
theorem dL_law_425 : decode cL_law 425 = .ok (.iload_n 3, 1) := by decide +kernel
theorem dL_law_426 : decode cL_law 426 = .ok (.iconst 1, 1) := by decide +kernel
theorem dL_law_427 : decode cL_law 427 = .ok (.iadd, 1) := by decide +kernel
theorem dL_law_428 : decode cL_law 428 = .ok (.iaload, 1) := by decide +kernel
theorem dL_law_429 : decode cL_law 429 = .ok (.aload_n 0, 1) := by decide +kernel
theorem dL_law_430 : decode cL_law 430 = .ok (.iload_n 3, 1) := by decide +kernel
theorem dL_law_431 : decode cL_law 431 = .ok (.iconst 2, 1) := by decide +kernel
theorem dL_law_432 : decode cL_law 432 = .ok (.iadd, 1) := by decide +kernel
theorem dL_law_433 : decode cL_law 433 = .ok (.iaload, 1) := by decide +kernel
theorem dL_law_434 : decode cL_law 434 = .ok (.ifCond .eq 7, 3) := by decide +kernel
theorem dL_law_437 : decode cL_law 437 = .ok (.iconst 1, 1) := by decide +kernel
theorem dL_law_438 : decode cL_law 438 = .ok (.goto 4, 3) := by decide +kernel
theorem dL_law_441 : decode cL_law 441 = .ok (.iconst 0, 1) := by decide +kernel
theorem dL_law_442 : decode cL_law 442 = .ok (.invokevirtual 56, 3) := by decide +kernel
theorem dL_law_445 : decode cL_law 445 = .ok (.if_icmp .eq 637, 3) := by decide +kernel
theorem dL_law_448 : decode cL_law 448 = .ok (.iconst 0, 1) := by decide +kernel
theorem dL_law_449 : decode cL_law 449 = .ok (.ireturn, 1) := by decide +kernel
theorem dL_law_450 : decode cL_law 450 = .ok (.aload_n 1, 1) := by decide +kernel
theorem dL_law_451 : decode cL_law 451 = .ok (.aload_n 0, 1) := by decide +kernel
theorem dL_law_452 : decode cL_law 452 = .ok (.iload_n 3, 1) := by decide +kernel
theorem dL_law_453 : decode cL_law 453 = .ok (.iconst 1, 1) := by decide +kernel
theorem dL_law_454 : decode cL_law 454 = .ok (.iadd, 1) := by decide +kernel
theorem dL_law_455 : decode cL_law 455 = .ok (.iaload, 1) := by decide +kernel
theorem dL_law_456 : decode cL_law 456 = .ok (.invokevirtual 57, 3) := by decide +kernel
theorem dL_law_459 : decode cL_law 459 = .ok (.aload_n 2, 1) := by decide +kernel
theorem dL_law_460 : decode cL_law 460 = .ok (.aload_n 0, 1) := by decide +kernel
theorem dL_law_461 : decode cL_law 461 = .ok (.iload_n 3, 1) := by decide +kernel
theorem dL_law_462 : decode cL_law 462 = .ok (.iconst 1, 1) := by decide +kernel
theorem dL_law_463 : decode cL_law 463 = .ok (.iadd, 1) := by decide +kernel
theorem dL_law_464 : decode cL_law 464 = .ok (.iaload, 1) := by decide +kernel
theorem dL_law_465 : decode cL_law 465 = .ok (.invokevirtual 60, 3) := by decide +kernel
theorem dL_law_468 : decode cL_law 468 = .ok (.if_icmp .eq 614, 3) := by decide +kernel
theorem dL_law_471 : decode cL_law 471 = .ok (.iconst 0, 1) := by decide +kernel
theorem dL_law_472 : decode cL_law 472 = .ok (.ireturn, 1) := by decide +kernel
theorem dL_law_473 : decode cL_law 473 = .ok (.aload_n 1, 1) := by decide +kernel
theorem dL_law_474 : decode cL_law 474 = .ok (.aload_n 0, 1) := by decide +kernel
theorem dL_law_475 : decode cL_law 475 = .ok (.iload_n 3, 1) := by decide +kernel
theorem dL_law_476 : decode cL_law 476 = .ok (.iconst 1, 1) := by decide +kernel
theorem dL_law_477 : decode cL_law 477 = .ok (.iadd, 1) := by decide +kernel
theorem dL_law_478 : decode cL_law 478 = .ok (.iaload, 1) := by decide +kernel
theorem dL_law_479 : decode cL_law 479 = .ok (.aload_n 0, 1) := by decide +kernel
theorem dL_law_480 : decode cL_law 480 = .ok (.iload_n 3, 1) := by decide +kernel
theorem dL_law_481 : decode cL_law 481 = .ok (.iconst 2, 1) := by decide +kernel
theorem dL_law_482 : decode cL_law 482 = .ok (.iadd, 1) := by decide +kernel
theorem dL_law_483 : decode cL_law 483 = .ok (.iaload, 1) := by decide +kernel
theorem dL_law_484 : decode cL_law 484 = .ok (.invokevirtual 61, 3) := by decide +kernel
theorem dL_law_487 : decode cL_law 487 = .ok (.aload_n 2, 1) := by decide +kernel
theorem dL_law_488 : decode cL_law 488 = .ok (.aload_n 0, 1) := by decide +kernel
theorem dL_law_489 : decode cL_law 489 = .ok (.iload_n 3, 1) := by decide +kernel
theorem dL_law_490 : decode cL_law 490 = .ok (.iconst 1, 1) := by decide +kernel
theorem dL_law_491 : decode cL_law 491 = .ok (.iadd, 1) := by decide +kernel
theorem dL_law_492 : decode cL_law 492 = .ok (.iaload, 1) := by decide +kernel
theorem dL_law_493 : decode cL_law 493 = .ok (.aload_n 0, 1) := by decide +kernel
theorem dL_law_494 : decode cL_law 494 = .ok (.iload_n 3, 1) := by decide +kernel
theorem dL_law_495 : decode cL_law 495 = .ok (.iconst 2, 1) := by decide +kernel
theorem dL_law_496 : decode cL_law 496 = .ok (.iadd, 1) := by decide +kernel
theorem dL_law_497 : decode cL_law 497 = .ok (.iaload, 1) := by decide +kernel
theorem dL_law_498 : decode cL_law 498 = .ok (.invokevirtual 64, 3) := by decide +kernel
theorem dL_law_501 : decode cL_law 501 = .ok (.if_icmp .eq 581, 3) := by decide +kernel
theorem dL_law_504 : decode cL_law 504 = .ok (.iconst 0, 1) := by decide +kernel
theorem dL_law_505 : decode cL_law 505 = .ok (.ireturn, 1) := by decide +kernel
theorem dL_law_506 : decode cL_law 506 = .ok (.aload_n 1, 1) := by decide +kernel
theorem dL_law_507 : decode cL_law 507 = .ok (.invokevirtual 65, 3) := by decide +kernel
theorem dL_law_510 : decode cL_law 510 = .ok (.aload_n 2, 1) := by decide +kernel
theorem dL_law_511 : decode cL_law 511 = .ok (.invokevirtual 68, 3) := by decide +kernel
theorem dL_law_514 : decode cL_law 514 = .ok (.if_icmp .eq 568, 3) := by decide +kernel
theorem dL_law_517 : decode cL_law 517 = .ok (.iconst 0, 1) := by decide +kernel
theorem dL_law_518 : decode cL_law 518 = .ok (.ireturn, 1) := by decide +kernel
theorem dL_law_519 : decode cL_law 519 = .ok (.aload_n 1, 1) := by decide +kernel
theorem dL_law_520 : decode cL_law 520 = .ok (.aload_n 0, 1) := by decide +kernel
theorem dL_law_521 : decode cL_law 521 = .ok (.iload_n 3, 1) := by decide +kernel
theorem dL_law_522 : decode cL_law 522 = .ok (.iconst 1, 1) := by decide +kernel
theorem dL_law_523 : decode cL_law 523 = .ok (.iadd, 1) := by decide +kernel
theorem dL_law_524 : decode cL_law 524 = .ok (.iaload, 1) := by decide +kernel
theorem dL_law_525 : decode cL_law 525 = .ok (.invokevirtual 69, 3) := by decide +kernel
theorem dL_law_528 : decode cL_law 528 = .ok (.aload_n 2, 1) := by decide +kernel
theorem dL_law_529 : decode cL_law 529 = .ok (.aload_n 0, 1) := by decide +kernel
theorem dL_law_530 : decode cL_law 530 = .ok (.iload_n 3, 1) := by decide +kernel
theorem dL_law_531 : decode cL_law 531 = .ok (.iconst 1, 1) := by decide +kernel
theorem dL_law_532 : decode cL_law 532 = .ok (.iadd, 1) := by decide +kernel
theorem dL_law_533 : decode cL_law 533 = .ok (.iaload, 1) := by decide +kernel
theorem dL_law_534 : decode cL_law 534 = .ok (.invokevirtual 72, 3) := by decide +kernel
theorem dL_law_537 : decode cL_law 537 = .ok (.if_icmp .eq 545, 3) := by decide +kernel
theorem dL_law_540 : decode cL_law 540 = .ok (.iconst 0, 1) := by decide +kernel
theorem dL_law_541 : decode cL_law 541 = .ok (.ireturn, 1) := by decide +kernel
theorem dL_law_542 : decode cL_law 542 = .ok (.aload_n 1, 1) := by decide +kernel
theorem dL_law_543 : decode cL_law 543 = .ok (.invokevirtual 73, 3) := by decide +kernel
theorem dL_law_546 : decode cL_law 546 = .ok (.aload_n 2, 1) := by decide +kernel
theorem dL_law_547 : decode cL_law 547 = .ok (.invokevirtual 76, 3) := by decide +kernel
theorem dL_law_550 : decode cL_law 550 = .ok (.if_icmp .eq 532, 3) := by decide +kernel
theorem dL_law_553 : decode cL_law 553 = .ok (.iconst 0, 1) := by decide +kernel
theorem dL_law_554 : decode cL_law 554 = .ok (.ireturn, 1) := by decide +kernel
theorem dL_law_555 : decode cL_law 555 = .ok (.aload_n 1, 1) := by decide +kernel
theorem dL_law_556 : decode cL_law 556 = .ok (.aload_n 0, 1) := by decide +kernel
theorem dL_law_557 : decode cL_law 557 = .ok (.iload_n 3, 1) := by decide +kernel
theorem dL_law_558 : decode cL_law 558 = .ok (.iconst 1, 1) := by decide +kernel
theorem dL_law_559 : decode cL_law 559 = .ok (.iadd, 1) := by decide +kernel
theorem dL_law_560 : decode cL_law 560 = .ok (.iaload, 1) := by decide +kernel
theorem dL_law_561 : decode cL_law 561 = .ok (.aload_n 0, 1) := by decide +kernel
theorem dL_law_562 : decode cL_law 562 = .ok (.iload_n 3, 1) := by decide +kernel
theorem dL_law_563 : decode cL_law 563 = .ok (.iconst 2, 1) := by decide +kernel
theorem dL_law_564 : decode cL_law 564 = .ok (.iadd, 1) := by decide +kernel
theorem dL_law_565 : decode cL_law 565 = .ok (.iaload, 1) := by decide +kernel
theorem dL_law_566 : decode cL_law 566 = .ok (.invokevirtual 77, 3) := by decide +kernel
theorem dL_law_569 : decode cL_law 569 = .ok (.aload_n 2, 1) := by decide +kernel
theorem dL_law_570 : decode cL_law 570 = .ok (.aload_n 0, 1) := by decide +kernel
theorem dL_law_571 : decode cL_law 571 = .ok (.iload_n 3, 1) := by decide +kernel
theorem dL_law_572 : decode cL_law 572 = .ok (.iconst 1, 1) := by decide +kernel
theorem dL_law_573 : decode cL_law 573 = .ok (.iadd, 1) := by decide +kernel
theorem dL_law_574 : decode cL_law 574 = .ok (.iaload, 1) := by decide +kernel
theorem dL_law_575 : decode cL_law 575 = .ok (.aload_n 0, 1) := by decide +kernel
theorem dL_law_576 : decode cL_law 576 = .ok (.iload_n 3, 1) := by decide +kernel
theorem dL_law_577 : decode cL_law 577 = .ok (.iconst 2, 1) := by decide +kernel
theorem dL_law_578 : decode cL_law 578 = .ok (.iadd, 1) := by decide +kernel
theorem dL_law_579 : decode cL_law 579 = .ok (.iaload, 1) := by decide +kernel
theorem dL_law_580 : decode cL_law 580 = .ok (.invokevirtual 80, 3) := by decide +kernel
theorem dL_law_583 : decode cL_law 583 = .ok (.if_icmp .eq 499, 3) := by decide +kernel
theorem dL_law_586 : decode cL_law 586 = .ok (.iconst 0, 1) := by decide +kernel
theorem dL_law_587 : decode cL_law 587 = .ok (.ireturn, 1) := by decide +kernel
theorem dL_law_588 : decode cL_law 588 = .ok (.aload_n 1, 1) := by decide +kernel
theorem dL_law_589 : decode cL_law 589 = .ok (.aload_n 0, 1) := by decide +kernel
theorem dL_law_590 : decode cL_law 590 = .ok (.iload_n 3, 1) := by decide +kernel
theorem dL_law_591 : decode cL_law 591 = .ok (.iconst 1, 1) := by decide +kernel
theorem dL_law_592 : decode cL_law 592 = .ok (.iadd, 1) := by decide +kernel
theorem dL_law_593 : decode cL_law 593 = .ok (.iaload, 1) := by decide +kernel
theorem dL_law_594 : decode cL_law 594 = .ok (.aload_n 0, 1) := by decide +kernel
theorem dL_law_595 : decode cL_law 595 = .ok (.iload_n 3, 1) := by decide +kernel
theorem dL_law_596 : decode cL_law 596 = .ok (.iconst 2, 1) := by decide +kernel
theorem dL_law_597 : decode cL_law 597 = .ok (.iadd, 1) := by decide +kernel
theorem dL_law_598 : decode cL_law 598 = .ok (.iaload, 1) := by decide +kernel
theorem dL_law_599 : decode cL_law 599 = .ok (.invokevirtual 81, 3) := by decide +kernel
theorem dL_law_602 : decode cL_law 602 = .ok (.aload_n 2, 1) := by decide +kernel
theorem dL_law_603 : decode cL_law 603 = .ok (.aload_n 0, 1) := by decide +kernel
theorem dL_law_604 : decode cL_law 604 = .ok (.iload_n 3, 1) := by decide +kernel
theorem dL_law_605 : decode cL_law 605 = .ok (.iconst 1, 1) := by decide +kernel
theorem dL_law_606 : decode cL_law 606 = .ok (.iadd, 1) := by decide +kernel
theorem dL_law_607 : decode cL_law 607 = .ok (.iaload, 1) := by decide +kernel
theorem dL_law_608 : decode cL_law 608 = .ok (.aload_n 0, 1) := by decide +kernel
theorem dL_law_609 : decode cL_law 609 = .ok (.iload_n 3, 1) := by decide +kernel
theorem dL_law_610 : decode cL_law 610 = .ok (.iconst 2, 1) := by decide +kernel
theorem dL_law_611 : decode cL_law 611 = .ok (.iadd, 1) := by decide +kernel
theorem dL_law_612 : decode cL_law 612 = .ok (.iaload, 1) := by decide +kernel
theorem dL_law_613 : decode cL_law 613 = .ok (.invokevirtual 84, 3) := by decide +kernel
theorem dL_law_616 : decode cL_law 616 = .ok (.if_icmp .eq 466, 3) := by decide +kernel
theorem dL_law_619 : decode cL_law 619 = .ok (.iconst 0, 1) := by decide +kernel
theorem dL_law_620 : decode cL_law 620 = .ok (.ireturn, 1) := by decide +kernel
theorem dL_law_621 : decode cL_law 621 = .ok (.aload_n 1, 1) := by decide +kernel
theorem dL_law_622 : decode cL_law 622 = .ok (.aload_n 0, 1) := by decide +kernel
theorem dL_law_623 : decode cL_law 623 = .ok (.iload_n 3, 1) := by decide +kernel
theorem dL_law_624 : decode cL_law 624 = .ok (.iconst 1, 1) := by decide +kernel
theorem dL_law_625 : decode cL_law 625 = .ok (.iadd, 1) := by decide +kernel
theorem dL_law_626 : decode cL_law 626 = .ok (.iaload, 1) := by decide +kernel
theorem dL_law_627 : decode cL_law 627 = .ok (.aload_n 0, 1) := by decide +kernel
theorem dL_law_628 : decode cL_law 628 = .ok (.iload_n 3, 1) := by decide +kernel
theorem dL_law_629 : decode cL_law 629 = .ok (.iconst 2, 1) := by decide +kernel
theorem dL_law_630 : decode cL_law 630 = .ok (.iadd, 1) := by decide +kernel
theorem dL_law_631 : decode cL_law 631 = .ok (.iaload, 1) := by decide +kernel
theorem dL_law_632 : decode cL_law 632 = .ok (.aload_n 0, 1) := by decide +kernel
theorem dL_law_633 : decode cL_law 633 = .ok (.iload_n 3, 1) := by decide +kernel
theorem dL_law_634 : decode cL_law 634 = .ok (.iconst 3, 1) := by decide +kernel
theorem dL_law_635 : decode cL_law 635 = .ok (.iadd, 1) := by decide +kernel
theorem dL_law_636 : decode cL_law 636 = .ok (.iaload, 1) := by decide +kernel
theorem dL_law_637 : decode cL_law 637 = .ok (.invokevirtual 85, 3) := by decide +kernel
theorem dL_law_640 : decode cL_law 640 = .ok (.aload_n 2, 1) := by decide +kernel
theorem dL_law_641 : decode cL_law 641 = .ok (.aload_n 0, 1) := by decide +kernel
theorem dL_law_642 : decode cL_law 642 = .ok (.iload_n 3, 1) := by decide +kernel
theorem dL_law_643 : decode cL_law 643 = .ok (.iconst 1, 1) := by decide +kernel
theorem dL_law_644 : decode cL_law 644 = .ok (.iadd, 1) := by decide +kernel
theorem dL_law_645 : decode cL_law 645 = .ok (.iaload, 1) := by decide +kernel
theorem dL_law_646 : decode cL_law 646 = .ok (.aload_n 0, 1) := by decide +kernel
theorem dL_law_647 : decode cL_law 647 = .ok (.iload_n 3, 1) := by decide +kernel
theorem dL_law_648 : decode cL_law 648 = .ok (.iconst 2, 1) := by decide +kernel
theorem dL_law_649 : decode cL_law 649 = .ok (.iadd, 1) := by decide +kernel
theorem dL_law_650 : decode cL_law 650 = .ok (.iaload, 1) := by decide +kernel
theorem dL_law_651 : decode cL_law 651 = .ok (.aload_n 0, 1) := by decide +kernel
theorem dL_law_652 : decode cL_law 652 = .ok (.iload_n 3, 1) := by decide +kernel
theorem dL_law_653 : decode cL_law 653 = .ok (.iconst 3, 1) := by decide +kernel
theorem dL_law_654 : decode cL_law 654 = .ok (.iadd, 1) := by decide +kernel
theorem dL_law_655 : decode cL_law 655 = .ok (.iaload, 1) := by decide +kernel
theorem dL_law_656 : decode cL_law 656 = .ok (.invokevirtual 89, 3) := by decide +kernel
theorem dL_law_659 : decode cL_law 659 = .ok (.if_icmp .eq 423, 3) := by decide +kernel
theorem dL_law_662 : decode cL_law 662 = .ok (.iconst 0, 1) := by decide +kernel
theorem dL_law_663 : decode cL_law 663 = .ok (.ireturn, 1) := by decide +kernel
theorem dL_law_664 : decode cL_law 664 = .ok (.aload_n 1, 1) := by decide +kernel
theorem dL_law_665 : decode cL_law 665 = .ok (.aload_n 0, 1) := by decide +kernel
theorem dL_law_666 : decode cL_law 666 = .ok (.iload_n 3, 1) := by decide +kernel
theorem dL_law_667 : decode cL_law 667 = .ok (.iconst 1, 1) := by decide +kernel
theorem dL_law_668 : decode cL_law 668 = .ok (.iadd, 1) := by decide +kernel
theorem dL_law_669 : decode cL_law 669 = .ok (.iaload, 1) := by decide +kernel
theorem dL_law_670 : decode cL_law 670 = .ok (.aload_n 0, 1) := by decide +kernel
theorem dL_law_671 : decode cL_law 671 = .ok (.iload_n 3, 1) := by decide +kernel
theorem dL_law_672 : decode cL_law 672 = .ok (.iconst 2, 1) := by decide +kernel
theorem dL_law_673 : decode cL_law 673 = .ok (.iadd, 1) := by decide +kernel
theorem dL_law_674 : decode cL_law 674 = .ok (.iaload, 1) := by decide +kernel
theorem dL_law_675 : decode cL_law 675 = .ok (.aload_n 0, 1) := by decide +kernel
theorem dL_law_676 : decode cL_law 676 = .ok (.iload_n 3, 1) := by decide +kernel
theorem dL_law_677 : decode cL_law 677 = .ok (.iconst 3, 1) := by decide +kernel
theorem dL_law_678 : decode cL_law 678 = .ok (.iadd, 1) := by decide +kernel
theorem dL_law_679 : decode cL_law 679 = .ok (.iaload, 1) := by decide +kernel
theorem dL_law_680 : decode cL_law 680 = .ok (.invokevirtual 90, 3) := by decide +kernel
theorem dL_law_683 : decode cL_law 683 = .ok (.aload_n 2, 1) := by decide +kernel
theorem dL_law_684 : decode cL_law 684 = .ok (.aload_n 0, 1) := by decide +kernel
theorem dL_law_685 : decode cL_law 685 = .ok (.iload_n 3, 1) := by decide +kernel
theorem dL_law_686 : decode cL_law 686 = .ok (.iconst 1, 1) := by decide +kernel
theorem dL_law_687 : decode cL_law 687 = .ok (.iadd, 1) := by decide +kernel
theorem dL_law_688 : decode cL_law 688 = .ok (.iaload, 1) := by decide +kernel
theorem dL_law_689 : decode cL_law 689 = .ok (.aload_n 0, 1) := by decide +kernel
theorem dL_law_690 : decode cL_law 690 = .ok (.iload_n 3, 1) := by decide +kernel
theorem dL_law_691 : decode cL_law 691 = .ok (.iconst 2, 1) := by decide +kernel
theorem dL_law_692 : decode cL_law 692 = .ok (.iadd, 1) := by decide +kernel
theorem dL_law_693 : decode cL_law 693 = .ok (.iaload, 1) := by decide +kernel
theorem dL_law_694 : decode cL_law 694 = .ok (.aload_n 0, 1) := by decide +kernel
theorem dL_law_695 : decode cL_law 695 = .ok (.iload_n 3, 1) := by decide +kernel
theorem dL_law_696 : decode cL_law 696 = .ok (.iconst 3, 1) := by decide +kernel
theorem dL_law_697 : decode cL_law 697 = .ok (.iadd, 1) := by decide +kernel
theorem dL_law_698 : decode cL_law 698 = .ok (.iaload, 1) := by decide +kernel
theorem dL_law_699 : decode cL_law 699 = .ok (.invokevirtual 93, 3) := by decide +kernel
theorem dL_law_702 : decode cL_law 702 = .ok (.if_icmp .eq 380, 3) := by decide +kernel
theorem dL_law_705 : decode cL_law 705 = .ok (.iconst 0, 1) := by decide +kernel
theorem dL_law_706 : decode cL_law 706 = .ok (.ireturn, 1) := by decide +kernel
theorem dL_law_707 : decode cL_law 707 = .ok (.aload_n 1, 1) := by decide +kernel
theorem dL_law_708 : decode cL_law 708 = .ok (.aload_n 0, 1) := by decide +kernel
theorem dL_law_709 : decode cL_law 709 = .ok (.iload_n 3, 1) := by decide +kernel
theorem dL_law_710 : decode cL_law 710 = .ok (.iconst 1, 1) := by decide +kernel
theorem dL_law_711 : decode cL_law 711 = .ok (.iadd, 1) := by decide +kernel
theorem dL_law_712 : decode cL_law 712 = .ok (.iaload, 1) := by decide +kernel
theorem dL_law_713 : decode cL_law 713 = .ok (.aload_n 0, 1) := by decide +kernel
theorem dL_law_714 : decode cL_law 714 = .ok (.iload_n 3, 1) := by decide +kernel
theorem dL_law_715 : decode cL_law 715 = .ok (.iconst 2, 1) := by decide +kernel
theorem dL_law_716 : decode cL_law 716 = .ok (.iadd, 1) := by decide +kernel
theorem dL_law_717 : decode cL_law 717 = .ok (.iaload, 1) := by decide +kernel
theorem dL_law_718 : decode cL_law 718 = .ok (.aload_n 0, 1) := by decide +kernel
theorem dL_law_719 : decode cL_law 719 = .ok (.iload_n 3, 1) := by decide +kernel
theorem dL_law_720 : decode cL_law 720 = .ok (.iconst 3, 1) := by decide +kernel
theorem dL_law_721 : decode cL_law 721 = .ok (.iadd, 1) := by decide +kernel
theorem dL_law_722 : decode cL_law 722 = .ok (.iaload, 1) := by decide +kernel
theorem dL_law_723 : decode cL_law 723 = .ok (.invokevirtual 94, 3) := by decide +kernel
theorem dL_law_726 : decode cL_law 726 = .ok (.aload_n 2, 1) := by decide +kernel
theorem dL_law_727 : decode cL_law 727 = .ok (.aload_n 0, 1) := by decide +kernel
theorem dL_law_728 : decode cL_law 728 = .ok (.iload_n 3, 1) := by decide +kernel
theorem dL_law_729 : decode cL_law 729 = .ok (.iconst 1, 1) := by decide +kernel
theorem dL_law_730 : decode cL_law 730 = .ok (.iadd, 1) := by decide +kernel
theorem dL_law_731 : decode cL_law 731 = .ok (.iaload, 1) := by decide +kernel
theorem dL_law_732 : decode cL_law 732 = .ok (.aload_n 0, 1) := by decide +kernel
theorem dL_law_733 : decode cL_law 733 = .ok (.iload_n 3, 1) := by decide +kernel
theorem dL_law_734 : decode cL_law 734 = .ok (.iconst 2, 1) := by decide +kernel
theorem dL_law_735 : decode cL_law 735 = .ok (.iadd, 1) := by decide +kernel
theorem dL_law_736 : decode cL_law 736 = .ok (.iaload, 1) := by decide +kernel
theorem dL_law_737 : decode cL_law 737 = .ok (.aload_n 0, 1) := by decide +kernel
theorem dL_law_738 : decode cL_law 738 = .ok (.iload_n 3, 1) := by decide +kernel
theorem dL_law_739 : decode cL_law 739 = .ok (.iconst 3, 1) := by decide +kernel
theorem dL_law_740 : decode cL_law 740 = .ok (.iadd, 1) := by decide +kernel
theorem dL_law_741 : decode cL_law 741 = .ok (.iaload, 1) := by decide +kernel
theorem dL_law_742 : decode cL_law 742 = .ok (.invokevirtual 97, 3) := by decide +kernel
theorem dL_law_745 : decode cL_law 745 = .ok (.if_icmp .eq 337, 3) := by decide +kernel
theorem dL_law_748 : decode cL_law 748 = .ok (.iconst 0, 1) := by decide +kernel
theorem dL_law_749 : decode cL_law 749 = .ok (.ireturn, 1) := by decide +kernel
theorem dL_law_750 : decode cL_law 750 = .ok (.aload_n 1, 1) := by decide +kernel
theorem dL_law_751 : decode cL_law 751 = .ok (.aload_n 0, 1) := by decide +kernel
theorem dL_law_752 : decode cL_law 752 = .ok (.iload_n 3, 1) := by decide +kernel
theorem dL_law_753 : decode cL_law 753 = .ok (.iconst 1, 1) := by decide +kernel
theorem dL_law_754 : decode cL_law 754 = .ok (.iadd, 1) := by decide +kernel
theorem dL_law_755 : decode cL_law 755 = .ok (.iaload, 1) := by decide +kernel
theorem dL_law_756 : decode cL_law 756 = .ok (.invokevirtual 98, 3) := by decide +kernel
theorem dL_law_759 : decode cL_law 759 = .ok (.aload_n 2, 1) := by decide +kernel
theorem dL_law_760 : decode cL_law 760 = .ok (.aload_n 0, 1) := by decide +kernel
theorem dL_law_761 : decode cL_law 761 = .ok (.iload_n 3, 1) := by decide +kernel
theorem dL_law_762 : decode cL_law 762 = .ok (.iconst 1, 1) := by decide +kernel
theorem dL_law_763 : decode cL_law 763 = .ok (.iadd, 1) := by decide +kernel
theorem dL_law_764 : decode cL_law 764 = .ok (.iaload, 1) := by decide +kernel
theorem dL_law_765 : decode cL_law 765 = .ok (.invokevirtual 101, 3) := by decide +kernel
theorem dL_law_768 : decode cL_law 768 = .ok (.if_icmp .eq 314, 3) := by decide +kernel
theorem dL_law_771 : decode cL_law 771 = .ok (.iconst 0, 1) := by decide +kernel
theorem dL_law_772 : decode cL_law 772 = .ok (.ireturn, 1) := by decide +kernel
theorem dL_law_773 : decode cL_law 773 = .ok (.aload_n 1, 1) := by decide +kernel
theorem dL_law_774 : decode cL_law 774 = .ok (.aload_n 0, 1) := by decide +kernel
theorem dL_law_775 : decode cL_law 775 = .ok (.iload_n 3, 1) := by decide +kernel
theorem dL_law_776 : decode cL_law 776 = .ok (.iconst 1, 1) := by decide +kernel
theorem dL_law_777 : decode cL_law 777 = .ok (.iadd, 1) := by decide +kernel
theorem dL_law_778 : decode cL_law 778 = .ok (.iaload, 1) := by decide +kernel
theorem dL_law_779 : decode cL_law 779 = .ok (.invokevirtual 102, 3) := by decide +kernel
theorem dL_law_782 : decode cL_law 782 = .ok (.aload_n 2, 1) := by decide +kernel
theorem dL_law_783 : decode cL_law 783 = .ok (.aload_n 0, 1) := by decide +kernel
theorem dL_law_784 : decode cL_law 784 = .ok (.iload_n 3, 1) := by decide +kernel
theorem dL_law_785 : decode cL_law 785 = .ok (.iconst 1, 1) := by decide +kernel
theorem dL_law_786 : decode cL_law 786 = .ok (.iadd, 1) := by decide +kernel
theorem dL_law_787 : decode cL_law 787 = .ok (.iaload, 1) := by decide +kernel
theorem dL_law_788 : decode cL_law 788 = .ok (.invokevirtual 105, 3) := by decide +kernel
theorem dL_law_791 : decode cL_law 791 = .ok (.if_icmp .eq 291, 3) := by decide +kernel
theorem dL_law_794 : decode cL_law 794 = .ok (.iconst 0, 1) := by decide +kernel
theorem dL_law_795 : decode cL_law 795 = .ok (.ireturn, 1) := by decide +kernel
theorem dL_law_796 : decode cL_law 796 = .ok (.aload_n 1, 1) := by decide +kernel
theorem dL_law_797 : decode cL_law 797 = .ok (.invokevirtual 106, 3) := by decide +kernel
theorem dL_law_800 : decode cL_law 800 = .ok (.aload_n 2, 1) := by decide +kernel
theorem dL_law_801 : decode cL_law 801 = .ok (.invokevirtual 109, 3) := by decide +kernel
theorem dL_law_804 : decode cL_law 804 = .ok (.if_icmp .eq 278, 3) := by decide +kernel
theorem dL_law_807 : decode cL_law 807 = .ok (.iconst 0, 1) := by decide +kernel
theorem dL_law_808 : decode cL_law 808 = .ok (.ireturn, 1) := by decide +kernel
theorem dL_law_809 : decode cL_law 809 = .ok (.aload_n 1, 1) := by decide +kernel
theorem dL_law_810 : decode cL_law 810 = .ok (.aload_n 0, 1) := by decide +kernel
theorem dL_law_811 : decode cL_law 811 = .ok (.iload_n 3, 1) := by decide +kernel
theorem dL_law_812 : decode cL_law 812 = .ok (.iconst 1, 1) := by decide +kernel
theorem dL_law_813 : decode cL_law 813 = .ok (.iadd, 1) := by decide +kernel
theorem dL_law_814 : decode cL_law 814 = .ok (.iaload, 1) := by decide +kernel
theorem dL_law_815 : decode cL_law 815 = .ok (.invokevirtual 110, 3) := by decide +kernel
theorem dL_law_818 : decode cL_law 818 = .ok (.aload_n 2, 1) := by decide +kernel
theorem dL_law_819 : decode cL_law 819 = .ok (.aload_n 0, 1) := by decide +kernel
theorem dL_law_820 : decode cL_law 820 = .ok (.iload_n 3, 1) := by decide +kernel
theorem dL_law_821 : decode cL_law 821 = .ok (.iconst 1, 1) := by decide +kernel
theorem dL_law_822 : decode cL_law 822 = .ok (.iadd, 1) := by decide +kernel
theorem dL_law_823 : decode cL_law 823 = .ok (.iaload, 1) := by decide +kernel
theorem dL_law_824 : decode cL_law 824 = .ok (.invokevirtual 113, 3) := by decide +kernel
theorem dL_law_827 : decode cL_law 827 = .ok (.if_icmp .eq 255, 3) := by decide +kernel
theorem dL_law_830 : decode cL_law 830 = .ok (.iconst 0, 1) := by decide +kernel
theorem dL_law_831 : decode cL_law 831 = .ok (.ireturn, 1) := by decide +kernel
theorem dL_law_832 : decode cL_law 832 = .ok (.aload_n 1, 1) := by decide +kernel
theorem dL_law_833 : decode cL_law 833 = .ok (.aload_n 0, 1) := by decide +kernel
theorem dL_law_834 : decode cL_law 834 = .ok (.iload_n 3, 1) := by decide +kernel
theorem dL_law_835 : decode cL_law 835 = .ok (.iconst 1, 1) := by decide +kernel
theorem dL_law_836 : decode cL_law 836 = .ok (.iadd, 1) := by decide +kernel
theorem dL_law_837 : decode cL_law 837 = .ok (.iaload, 1) := by decide +kernel
theorem dL_law_838 : decode cL_law 838 = .ok (.aload_n 0, 1) := by decide +kernel
theorem dL_law_839 : decode cL_law 839 = .ok (.iload_n 3, 1) := by decide +kernel
theorem dL_law_840 : decode cL_law 840 = .ok (.iconst 2, 1) := by decide +kernel
theorem dL_law_841 : decode cL_law 841 = .ok (.iadd, 1) := by decide +kernel
theorem dL_law_842 : decode cL_law 842 = .ok (.iaload, 1) := by decide +kernel
theorem dL_law_843 : decode cL_law 843 = .ok (.invokevirtual 114, 3) := by decide +kernel
theorem dL_law_846 : decode cL_law 846 = .ok (.aload_n 2, 1) := by decide +kernel
theorem dL_law_847 : decode cL_law 847 = .ok (.aload_n 0, 1) := by decide +kernel
theorem dL_law_848 : decode cL_law 848 = .ok (.iload_n 3, 1) := by decide +kernel
theorem dL_law_849 : decode cL_law 849 = .ok (.iconst 1, 1) := by decide +kernel
theorem dL_law_850 : decode cL_law 850 = .ok (.iadd, 1) := by decide +kernel
theorem dL_law_851 : decode cL_law 851 = .ok (.iaload, 1) := by decide +kernel
theorem dL_law_852 : decode cL_law 852 = .ok (.aload_n 0, 1) := by decide +kernel
theorem dL_law_853 : decode cL_law 853 = .ok (.iload_n 3, 1) := by decide +kernel
theorem dL_law_854 : decode cL_law 854 = .ok (.iconst 2, 1) := by decide +kernel
theorem dL_law_855 : decode cL_law 855 = .ok (.iadd, 1) := by decide +kernel
theorem dL_law_856 : decode cL_law 856 = .ok (.iaload, 1) := by decide +kernel
theorem dL_law_857 : decode cL_law 857 = .ok (.invokevirtual 117, 3) := by decide +kernel
theorem dL_law_860 : decode cL_law 860 = .ok (.if_icmp .eq 222, 3) := by decide +kernel
theorem dL_law_863 : decode cL_law 863 = .ok (.iconst 0, 1) := by decide +kernel
theorem dL_law_864 : decode cL_law 864 = .ok (.ireturn, 1) := by decide +kernel
theorem dL_law_865 : decode cL_law 865 = .ok (.aload_n 1, 1) := by decide +kernel
theorem dL_law_866 : decode cL_law 866 = .ok (.aload_n 0, 1) := by decide +kernel
theorem dL_law_867 : decode cL_law 867 = .ok (.iload_n 3, 1) := by decide +kernel
theorem dL_law_868 : decode cL_law 868 = .ok (.iconst 1, 1) := by decide +kernel
theorem dL_law_869 : decode cL_law 869 = .ok (.iadd, 1) := by decide +kernel
theorem dL_law_870 : decode cL_law 870 = .ok (.iaload, 1) := by decide +kernel
theorem dL_law_871 : decode cL_law 871 = .ok (.aload_n 0, 1) := by decide +kernel
theorem dL_law_872 : decode cL_law 872 = .ok (.iload_n 3, 1) := by decide +kernel
theorem dL_law_873 : decode cL_law 873 = .ok (.iconst 2, 1) := by decide +kernel
theorem dL_law_874 : decode cL_law 874 = .ok (.iadd, 1) := by decide +kernel
theorem dL_law_875 : decode cL_law 875 = .ok (.iaload, 1) := by decide +kernel
theorem dL_law_876 : decode cL_law 876 = .ok (.aload_n 0, 1) := by decide +kernel
theorem dL_law_877 : decode cL_law 877 = .ok (.iload_n 3, 1) := by decide +kernel
theorem dL_law_878 : decode cL_law 878 = .ok (.iconst 3, 1) := by decide +kernel
theorem dL_law_879 : decode cL_law 879 = .ok (.iadd, 1) := by decide +kernel
theorem dL_law_880 : decode cL_law 880 = .ok (.iaload, 1) := by decide +kernel
theorem dL_law_881 : decode cL_law 881 = .ok (.invokevirtual 118, 3) := by decide +kernel
theorem dL_law_884 : decode cL_law 884 = .ok (.aload_n 2, 1) := by decide +kernel
theorem dL_law_885 : decode cL_law 885 = .ok (.aload_n 0, 1) := by decide +kernel
theorem dL_law_886 : decode cL_law 886 = .ok (.iload_n 3, 1) := by decide +kernel
theorem dL_law_887 : decode cL_law 887 = .ok (.iconst 1, 1) := by decide +kernel
theorem dL_law_888 : decode cL_law 888 = .ok (.iadd, 1) := by decide +kernel
theorem dL_law_889 : decode cL_law 889 = .ok (.iaload, 1) := by decide +kernel
theorem dL_law_890 : decode cL_law 890 = .ok (.aload_n 0, 1) := by decide +kernel
theorem dL_law_891 : decode cL_law 891 = .ok (.iload_n 3, 1) := by decide +kernel
theorem dL_law_892 : decode cL_law 892 = .ok (.iconst 2, 1) := by decide +kernel
theorem dL_law_893 : decode cL_law 893 = .ok (.iadd, 1) := by decide +kernel
theorem dL_law_894 : decode cL_law 894 = .ok (.iaload, 1) := by decide +kernel
theorem dL_law_895 : decode cL_law 895 = .ok (.aload_n 0, 1) := by decide +kernel
theorem dL_law_896 : decode cL_law 896 = .ok (.iload_n 3, 1) := by decide +kernel
theorem dL_law_897 : decode cL_law 897 = .ok (.iconst 3, 1) := by decide +kernel
theorem dL_law_898 : decode cL_law 898 = .ok (.iadd, 1) := by decide +kernel
theorem dL_law_899 : decode cL_law 899 = .ok (.iaload, 1) := by decide +kernel
theorem dL_law_900 : decode cL_law 900 = .ok (.invokevirtual 121, 3) := by decide +kernel
theorem dL_law_903 : decode cL_law 903 = .ok (.if_icmp .eq 179, 3) := by decide +kernel
theorem dL_law_906 : decode cL_law 906 = .ok (.iconst 0, 1) := by decide +kernel
theorem dL_law_907 : decode cL_law 907 = .ok (.ireturn, 1) := by decide +kernel
theorem dL_law_908 : decode cL_law 908 = .ok (.aload_n 1, 1) := by decide +kernel
theorem dL_law_909 : decode cL_law 909 = .ok (.aload_n 0, 1) := by decide +kernel
theorem dL_law_910 : decode cL_law 910 = .ok (.iload_n 3, 1) := by decide +kernel
theorem dL_law_911 : decode cL_law 911 = .ok (.iconst 1, 1) := by decide +kernel
theorem dL_law_912 : decode cL_law 912 = .ok (.iadd, 1) := by decide +kernel
theorem dL_law_913 : decode cL_law 913 = .ok (.iaload, 1) := by decide +kernel
theorem dL_law_914 : decode cL_law 914 = .ok (.invokevirtual 122, 3) := by decide +kernel
theorem dL_law_917 : decode cL_law 917 = .ok (.aload_n 2, 1) := by decide +kernel
theorem dL_law_918 : decode cL_law 918 = .ok (.aload_n 0, 1) := by decide +kernel
theorem dL_law_919 : decode cL_law 919 = .ok (.iload_n 3, 1) := by decide +kernel
theorem dL_law_920 : decode cL_law 920 = .ok (.iconst 1, 1) := by decide +kernel
theorem dL_law_921 : decode cL_law 921 = .ok (.iadd, 1) := by decide +kernel
theorem dL_law_922 : decode cL_law 922 = .ok (.iaload, 1) := by decide +kernel
theorem dL_law_923 : decode cL_law 923 = .ok (.invokevirtual 125, 3) := by decide +kernel
theorem dL_law_926 : decode cL_law 926 = .ok (.if_icmp .eq 156, 3) := by decide +kernel
theorem dL_law_929 : decode cL_law 929 = .ok (.iconst 0, 1) := by decide +kernel
theorem dL_law_930 : decode cL_law 930 = .ok (.ireturn, 1) := by decide +kernel
theorem dL_law_931 : decode cL_law 931 = .ok (.aload_n 1, 1) := by decide +kernel
theorem dL_law_932 : decode cL_law 932 = .ok (.aload_n 0, 1) := by decide +kernel
theorem dL_law_933 : decode cL_law 933 = .ok (.iload_n 3, 1) := by decide +kernel
theorem dL_law_934 : decode cL_law 934 = .ok (.iconst 1, 1) := by decide +kernel
theorem dL_law_935 : decode cL_law 935 = .ok (.iadd, 1) := by decide +kernel
theorem dL_law_936 : decode cL_law 936 = .ok (.iaload, 1) := by decide +kernel
theorem dL_law_937 : decode cL_law 937 = .ok (.invokevirtual 126, 3) := by decide +kernel
theorem dL_law_940 : decode cL_law 940 = .ok (.aload_n 2, 1) := by decide +kernel
theorem dL_law_941 : decode cL_law 941 = .ok (.aload_n 0, 1) := by decide +kernel
theorem dL_law_942 : decode cL_law 942 = .ok (.iload_n 3, 1) := by decide +kernel
theorem dL_law_943 : decode cL_law 943 = .ok (.iconst 1, 1) := by decide +kernel
theorem dL_law_944 : decode cL_law 944 = .ok (.iadd, 1) := by decide +kernel
theorem dL_law_945 : decode cL_law 945 = .ok (.iaload, 1) := by decide +kernel
theorem dL_law_946 : decode cL_law 946 = .ok (.invokevirtual 129, 3) := by decide +kernel
theorem dL_law_949 : decode cL_law 949 = .ok (.if_icmp .eq 133, 3) := by decide +kernel
theorem dL_law_952 : decode cL_law 952 = .ok (.iconst 0, 1) := by decide +kernel
theorem dL_law_953 : decode cL_law 953 = .ok (.ireturn, 1) := by decide +kernel
theorem dL_law_954 : decode cL_law 954 = .ok (.aload_n 1, 1) := by decide +kernel
theorem dL_law_955 : decode cL_law 955 = .ok (.aload_n 0, 1) := by decide +kernel
theorem dL_law_956 : decode cL_law 956 = .ok (.iload_n 3, 1) := by decide +kernel
theorem dL_law_957 : decode cL_law 957 = .ok (.iconst 1, 1) := by decide +kernel
theorem dL_law_958 : decode cL_law 958 = .ok (.iadd, 1) := by decide +kernel
theorem dL_law_959 : decode cL_law 959 = .ok (.iaload, 1) := by decide +kernel
theorem dL_law_960 : decode cL_law 960 = .ok (.aload_n 0, 1) := by decide +kernel
theorem dL_law_961 : decode cL_law 961 = .ok (.iload_n 3, 1) := by decide +kernel
theorem dL_law_962 : decode cL_law 962 = .ok (.iconst 2, 1) := by decide +kernel
theorem dL_law_963 : decode cL_law 963 = .ok (.iadd, 1) := by decide +kernel
theorem dL_law_964 : decode cL_law 964 = .ok (.iaload, 1) := by decide +kernel
theorem dL_law_965 : decode cL_law 965 = .ok (.invokevirtual 130, 3) := by decide +kernel
theorem dL_law_968 : decode cL_law 968 = .ok (.aload_n 2, 1) := by decide +kernel
theorem dL_law_969 : decode cL_law 969 = .ok (.aload_n 0, 1) := by decide +kernel
theorem dL_law_970 : decode cL_law 970 = .ok (.iload_n 3, 1) := by decide +kernel
theorem dL_law_971 : decode cL_law 971 = .ok (.iconst 1, 1) := by decide +kernel
theorem dL_law_972 : decode cL_law 972 = .ok (.iadd, 1) := by decide +kernel
theorem dL_law_973 : decode cL_law 973 = .ok (.iaload, 1) := by decide +kernel
theorem dL_law_974 : decode cL_law 974 = .ok (.aload_n 0, 1) := by decide +kernel
theorem dL_law_975 : decode cL_law 975 = .ok (.iload_n 3, 1) := by decide +kernel
theorem dL_law_976 : decode cL_law 976 = .ok (.iconst 2, 1) := by decide +kernel
theorem dL_law_977 : decode cL_law 977 = .ok (.iadd, 1) := by decide +kernel
theorem dL_law_978 : decode cL_law 978 = .ok (.iaload, 1) := by decide +kernel
theorem dL_law_979 : decode cL_law 979 = .ok (.invokevirtual 133, 3) := by decide +kernel
theorem dL_law_982 : decode cL_law 982 = .ok (.if_icmp .eq 100, 3) := by decide +kernel
theorem dL_law_985 : decode cL_law 985 = .ok (.iconst 0, 1) := by decide +kernel
theorem dL_law_986 : decode cL_law 986 = .ok (.ireturn, 1) := by decide +kernel
theorem dL_law_987 : decode cL_law 987 = .ok (.aload_n 1, 1) := by decide +kernel
theorem dL_law_988 : decode cL_law 988 = .ok (.invokevirtual 134, 3) := by decide +kernel
theorem dL_law_991 : decode cL_law 991 = .ok (.aload_n 2, 1) := by decide +kernel
theorem dL_law_992 : decode cL_law 992 = .ok (.invokevirtual 137, 3) := by decide +kernel
theorem dL_law_995 : decode cL_law 995 = .ok (.if_icmp .eq 87, 3) := by decide +kernel
theorem dL_law_998 : decode cL_law 998 = .ok (.iconst 0, 1) := by decide +kernel
theorem dL_law_999 : decode cL_law 999 = .ok (.ireturn, 1) := by decide +kernel
theorem dL_law_1000 : decode cL_law 1000 = .ok (.aload_n 1, 1) := by decide +kernel
theorem dL_law_1001 : decode cL_law 1001 = .ok (.invokevirtual 138, 3) := by decide +kernel
theorem dL_law_1004 : decode cL_law 1004 = .ok (.aload_n 2, 1) := by decide +kernel
theorem dL_law_1005 : decode cL_law 1005 = .ok (.invokevirtual 141, 3) := by decide +kernel
theorem dL_law_1008 : decode cL_law 1008 = .ok (.if_icmp .eq 74, 3) := by decide +kernel
theorem dL_law_1011 : decode cL_law 1011 = .ok (.iconst 0, 1) := by decide +kernel
theorem dL_law_1012 : decode cL_law 1012 = .ok (.ireturn, 1) := by decide +kernel
theorem dL_law_1013 : decode cL_law 1013 = .ok (.aload_n 1, 1) := by decide +kernel
theorem dL_law_1014 : decode cL_law 1014 = .ok (.aload_n 0, 1) := by decide +kernel
theorem dL_law_1015 : decode cL_law 1015 = .ok (.iload_n 3, 1) := by decide +kernel
theorem dL_law_1016 : decode cL_law 1016 = .ok (.iconst 1, 1) := by decide +kernel
theorem dL_law_1017 : decode cL_law 1017 = .ok (.iadd, 1) := by decide +kernel
theorem dL_law_1018 : decode cL_law 1018 = .ok (.iaload, 1) := by decide +kernel
theorem dL_law_1019 : decode cL_law 1019 = .ok (.invokevirtual 142, 3) := by decide +kernel
theorem dL_law_1022 : decode cL_law 1022 = .ok (.aload_n 2, 1) := by decide +kernel
theorem dL_law_1023 : decode cL_law 1023 = .ok (.aload_n 0, 1) := by decide +kernel
theorem dL_law_1024 : decode cL_law 1024 = .ok (.iload_n 3, 1) := by decide +kernel
theorem dL_law_1025 : decode cL_law 1025 = .ok (.iconst 1, 1) := by decide +kernel
theorem dL_law_1026 : decode cL_law 1026 = .ok (.iadd, 1) := by decide +kernel
theorem dL_law_1027 : decode cL_law 1027 = .ok (.iaload, 1) := by decide +kernel
theorem dL_law_1028 : decode cL_law 1028 = .ok (.invokevirtual 145, 3) := by decide +kernel
theorem dL_law_1031 : decode cL_law 1031 = .ok (.if_icmp .eq 51, 3) := by decide +kernel
theorem dL_law_1034 : decode cL_law 1034 = .ok (.iconst 0, 1) := by decide +kernel
theorem dL_law_1035 : decode cL_law 1035 = .ok (.ireturn, 1) := by decide +kernel
theorem dL_law_1036 : decode cL_law 1036 = .ok (.aload_n 1, 1) := by decide +kernel
theorem dL_law_1037 : decode cL_law 1037 = .ok (.aload_n 0, 1) := by decide +kernel
theorem dL_law_1038 : decode cL_law 1038 = .ok (.iload_n 3, 1) := by decide +kernel
theorem dL_law_1039 : decode cL_law 1039 = .ok (.iconst 1, 1) := by decide +kernel
theorem dL_law_1040 : decode cL_law 1040 = .ok (.iadd, 1) := by decide +kernel
theorem dL_law_1041 : decode cL_law 1041 = .ok (.iaload, 1) := by decide +kernel
theorem dL_law_1042 : decode cL_law 1042 = .ok (.invokevirtual 146, 3) := by decide +kernel
theorem dL_law_1045 : decode cL_law 1045 = .ok (.aload_n 2, 1) := by decide +kernel
theorem dL_law_1046 : decode cL_law 1046 = .ok (.aload_n 0, 1) := by decide +kernel
theorem dL_law_1047 : decode cL_law 1047 = .ok (.iload_n 3, 1) := by decide +kernel
theorem dL_law_1048 : decode cL_law 1048 = .ok (.iconst 1, 1) := by decide +kernel
theorem dL_law_1049 : decode cL_law 1049 = .ok (.iadd, 1) := by decide +kernel
theorem dL_law_1050 : decode cL_law 1050 = .ok (.iaload, 1) := by decide +kernel
theorem dL_law_1051 : decode cL_law 1051 = .ok (.invokevirtual 149, 3) := by decide +kernel
theorem dL_law_1054 : decode cL_law 1054 = .ok (.if_icmp .eq 28, 3) := by decide +kernel
theorem dL_law_1057 : decode cL_law 1057 = .ok (.iconst 0, 1) := by decide +kernel
theorem dL_law_1058 : decode cL_law 1058 = .ok (.ireturn, 1) := by decide +kernel
theorem dL_law_1059 : decode cL_law 1059 = .ok (.aload_n 1, 1) := by decide +kernel
theorem dL_law_1060 : decode cL_law 1060 = .ok (.aload_n 0, 1) := by decide +kernel
theorem dL_law_1061 : decode cL_law 1061 = .ok (.iload_n 3, 1) := by decide +kernel
theorem dL_law_1062 : decode cL_law 1062 = .ok (.iconst 1, 1) := by decide +kernel
theorem dL_law_1063 : decode cL_law 1063 = .ok (.iadd, 1) := by decide +kernel
theorem dL_law_1064 : decode cL_law 1064 = .ok (.iaload, 1) := by decide +kernel
theorem dL_law_1065 : decode cL_law 1065 = .ok (.invokevirtual 150, 3) := by decide +kernel
theorem dL_law_1068 : decode cL_law 1068 = .ok (.aload_n 2, 1) := by decide +kernel
theorem dL_law_1069 : decode cL_law 1069 = .ok (.aload_n 0, 1) := by decide +kernel
theorem dL_law_1070 : decode cL_law 1070 = .ok (.iload_n 3, 1) := by decide +kernel
theorem dL_law_1071 : decode cL_law 1071 = .ok (.iconst 1, 1) := by decide +kernel
theorem dL_law_1072 : decode cL_law 1072 = .ok (.iadd, 1) := by decide +kernel
theorem dL_law_1073 : decode cL_law 1073 = .ok (.iaload, 1) := by decide +kernel
theorem dL_law_1074 : decode cL_law 1074 = .ok (.invokevirtual 153, 3) := by decide +kernel
theorem dL_law_1077 : decode cL_law 1077 = .ok (.if_icmp .eq 5, 3) := by decide +kernel
theorem dL_law_1080 : decode cL_law 1080 = .ok (.iconst 0, 1) := by decide +kernel
theorem dL_law_1081 : decode cL_law 1081 = .ok (.ireturn, 1) := by decide +kernel
theorem dL_law_1082 : decode cL_law 1082 = .ok (.iinc 3 4, 3) := by decide +kernel
theorem dL_law_1085 : decode cL_law 1085 = .ok (.goto (-1067), 3) := by decide +kernel
theorem dL_law_1088 : decode cL_law 1088 = .ok (.iconst 1, 1) := by decide +kernel
theorem dL_law_1089 : decode cL_law 1089 = .ok (.ireturn, 1) := by decide +kernel
