theorem dX8_init_20 : decode cX8_init 20 = .ok (.return_, 1) := by decide +kernel
theorem dX8_run_0 : decode cX8_run 0 = .ok (.aload_n 0, 1) := by decide +kernel
theorem dX8_run_1 : decode cX8_run 1 = .ok (.getfield 9, 3) := by decide +kernel
theorem dX8_run_4 : decode cX8_run 4 = .ok (.lconst 0, 1) := by decide +kernel
theorem dX8_run_5 : decode cX8_run 5 = .ok (.invokestatic 18, 3) := by decide +kernel
theorem dX8_run_8 : decode cX8_run 8 = .ok (.aload_n 0, 1) := by decide +kernel
theorem dX8_run_9 : decode cX8_run 9 = .ok (.getfield 15, 3) := by decide +kernel
theorem dX8_run_12 : decode cX8_run 12 = .ok (.lconst 0, 1) := by decide +kernel
theorem dX8_run_13 : decode cX8_run 13 = .ok (.invokestatic 18, 3) := by decide +kernel
theorem dX8_run_16 : decode cX8_run 16 = .ok (.aload_n 0, 1) := by decide +kernel
theorem dX8_run_17 : decode cX8_run 17 = .ok (.getfield 9, 3) := by decide +kernel
theorem dX8_run_20 : decode cX8_run 20 = .ok (.iconst 0, 1) := by decide +kernel
theorem dX8_run_21 : decode cX8_run 21 = .ok (.aload_n 1, 1) := by decide +kernel
theorem dX8_run_22 : decode cX8_run 22 = .ok (.getfield 24, 3) := by decide +kernel
theorem dX8_run_25 : decode cX8_run 25 = .ok (.ifCond .ne 7, 3) := by decide +kernel
theorem dX8_run_28 : decode cX8_run 28 = .ok (.lconst 0, 1) := by decide +kernel
theorem dX8_run_29 : decode cX8_run 29 = .ok (.goto 4, 3) := by decide +kernel
theorem dX8_run_32 : decode cX8_run 32 = .ok (.lconst 1, 1) := by decide +kernel
theorem dX8_run_33 : decode cX8_run 33 = .ok (.lastore, 1) := by decide +kernel
theorem dX8_run_34 : decode cX8_run 34 = .ok (.iconst 0, 1) := by decide +kernel
theorem dX8_run_35 : decode cX8_run 35 = .ok (.istore 5, 2) := by decide +kernel
theorem dX8_run_37 : decode cX8_run 37 = .ok (.iload 5, 2) := by decide +kernel
theorem dX8_run_39 : decode cX8_run 39 = .ok (.aload_n 1, 1) := by decide +kernel
theorem dX8_run_40 : decode cX8_run 40 = .ok (.getfield 30, 3) := by decide +kernel
theorem dX8_run_43 : decode cX8_run 43 = .ok (.if_icmp .ge 132, 3) := by decide +kernel
theorem dX8_run_46 : decode cX8_run 46 = .ok (.aload_n 1, 1) := by decide +kernel
theorem dX8_run_47 : decode cX8_run 47 = .ok (.getfield 33, 3) := by decide +kernel
theorem dX8_run_50 : decode cX8_run 50 = .ok (.iload 5, 2) := by decide +kernel
theorem dX8_run_52 : decode cX8_run 52 = .ok (.iaload, 1) := by decide +kernel
theorem dX8_run_53 : decode cX8_run 53 = .ok (.istore 6, 2) := by decide +kernel
theorem dX8_run_55 : decode cX8_run 55 = .ok (.aload_n 1, 1) := by decide +kernel
theorem dX8_run_56 : decode cX8_run 56 = .ok (.getfield 37, 3) := by decide +kernel
theorem dX8_run_59 : decode cX8_run 59 = .ok (.iload 6, 2) := by decide +kernel
theorem dX8_run_61 : decode cX8_run 61 = .ok (.iaload, 1) := by decide +kernel
theorem dX8_run_62 : decode cX8_run 62 = .ok (.istore 7, 2) := by decide +kernel
theorem dX8_run_64 : decode cX8_run 64 = .ok (.aload_n 0, 1) := by decide +kernel
theorem dX8_run_65 : decode cX8_run 65 = .ok (.getfield 9, 3) := by decide +kernel
theorem dX8_run_68 : decode cX8_run 68 = .ok (.iload 7, 2) := by decide +kernel
theorem dX8_run_70 : decode cX8_run 70 = .ok (.laload, 1) := by decide +kernel
theorem dX8_run_71 : decode cX8_run 71 = .ok (.lconst 0, 1) := by decide +kernel
theorem dX8_run_72 : decode cX8_run 72 = .ok (.lcmp, 1) := by decide +kernel
theorem dX8_run_73 : decode cX8_run 73 = .ok (.ifCond .eq 96, 3) := by decide +kernel
theorem dX8_run_76 : decode cX8_run 76 = .ok (.iload_n 3, 1) := by decide +kernel
theorem dX8_run_77 : decode cX8_run 77 = .ok (.iload 6, 2) := by decide +kernel
theorem dX8_run_79 : decode cX8_run 79 = .ok (.invokestatic 40, 3) := by decide +kernel
theorem dX8_run_82 : decode cX8_run 82 = .ok (.ifCond .ne 87, 3) := by decide +kernel
theorem dX8_run_85 : decode cX8_run 85 = .ok (.aload_n 1, 1) := by decide +kernel
theorem dX8_run_86 : decode cX8_run 86 = .ok (.iload 7, 2) := by decide +kernel
theorem dX8_run_88 : decode cX8_run 88 = .ok (.iconst 1, 1) := by decide +kernel
theorem dX8_run_89 : decode cX8_run 89 = .ok (.iload_n 2, 1) := by decide +kernel
theorem dX8_run_90 : decode cX8_run 90 = .ok (.ishl, 1) := by decide +kernel
theorem dX8_run_91 : decode cX8_run 91 = .ok (.invokevirtual 44, 3) := by decide +kernel
theorem dX8_run_94 : decode cX8_run 94 = .ok (.ifCond .eq 75, 3) := by decide +kernel
theorem dX8_run_97 : decode cX8_run 97 = .ok (.aload_n 0, 1) := by decide +kernel
theorem dX8_run_98 : decode cX8_run 98 = .ok (.getfield 9, 3) := by decide +kernel
theorem dX8_run_101 : decode cX8_run 101 = .ok (.aload_n 1, 1) := by decide +kernel
theorem dX8_run_102 : decode cX8_run 102 = .ok (.getfield 48, 3) := by decide +kernel
theorem dX8_run_105 : decode cX8_run 105 = .ok (.iload 6, 2) := by decide +kernel
theorem dX8_run_107 : decode cX8_run 107 = .ok (.iaload, 1) := by decide +kernel
theorem dX8_run_108 : decode cX8_run 108 = .ok (.dup2, 1) := by decide +kernel
theorem dX8_run_109 : decode cX8_run 109 = .ok (.laload, 1) := by decide +kernel
theorem dX8_run_110 : decode cX8_run 110 = .ok (.aload_n 0, 1) := by decide +kernel
theorem dX8_run_111 : decode cX8_run 111 = .ok (.getfield 9, 3) := by decide +kernel
theorem dX8_run_114 : decode cX8_run 114 = .ok (.iload 7, 2) := by decide +kernel
theorem dX8_run_116 : decode cX8_run 116 = .ok (.laload, 1) := by decide +kernel
theorem dX8_run_117 : decode cX8_run 117 = .ok (.aload_n 1, 1) := by decide +kernel
theorem dX8_run_118 : decode cX8_run 118 = .ok (.getfield 51, 3) := by decide +kernel
theorem dX8_run_121 : decode cX8_run 121 = .ok (.iload 6, 2) := by decide +kernel
theorem dX8_run_123 : decode cX8_run 123 = .ok (.iaload, 1) := by decide +kernel
theorem dX8_run_124 : decode cX8_run 124 = .ok (.lshl, 1) := by decide +kernel
theorem dX8_run_125 : decode cX8_run 125 = .ok (.ldc2_w 54, 3) := by decide +kernel
theorem dX8_run_128 : decode cX8_run 128 = .ok (.land, 1) := by decide +kernel
theorem dX8_run_129 : decode cX8_run 129 = .ok (.lor, 1) := by decide +kernel
theorem dX8_run_130 : decode cX8_run 130 = .ok (.lastore, 1) := by decide +kernel
theorem dX8_run_131 : decode cX8_run 131 = .ok (.aload 4, 2) := by decide +kernel
theorem dX8_run_133 : decode cX8_run 133 = .ok (.iload 6, 2) := by decide +kernel
theorem dX8_run_135 : decode cX8_run 135 = .ok (.iaload, 1) := by decide +kernel
theorem dX8_run_136 : decode cX8_run 136 = .ok (.ifCond .lt 33, 3) := by decide +kernel
theorem dX8_run_139 : decode cX8_run 139 = .ok (.aload 4, 2) := by decide +kernel
theorem dX8_run_141 : decode cX8_run 141 = .ok (.iload 6, 2) := by decide +kernel
theorem dX8_run_143 : decode cX8_run 143 = .ok (.iaload, 1) := by decide +kernel
theorem dX8_run_144 : decode cX8_run 144 = .ok (.bipush 8, 2) := by decide +kernel
theorem dX8_run_146 : decode cX8_run 146 = .ok (.if_icmp .ge 23, 3) := by decide +kernel
theorem dX8_run_149 : decode cX8_run 149 = .ok (.aload_n 0, 1) := by decide +kernel
theorem dX8_run_150 : decode cX8_run 150 = .ok (.getfield 15, 3) := by decide +kernel
theorem dX8_run_153 : decode cX8_run 153 = .ok (.aload 4, 2) := by decide +kernel
theorem dX8_run_155 : decode cX8_run 155 = .ok (.iload 6, 2) := by decide +kernel
theorem dX8_run_157 : decode cX8_run 157 = .ok (.iaload, 1) := by decide +kernel
theorem dX8_run_158 : decode cX8_run 158 = .ok (.dup2, 1) := by decide +kernel
theorem dX8_run_159 : decode cX8_run 159 = .ok (.laload, 1) := by decide +kernel
theorem dX8_run_160 : decode cX8_run 160 = .ok (.aload_n 0, 1) := by decide +kernel
theorem dX8_run_161 : decode cX8_run 161 = .ok (.getfield 9, 3) := by decide +kernel
theorem dX8_run_164 : decode cX8_run 164 = .ok (.iload 7, 2) := by decide +kernel
theorem dX8_run_166 : decode cX8_run 166 = .ok (.laload, 1) := by decide +kernel
theorem dX8_run_167 : decode cX8_run 167 = .ok (.lor, 1) := by decide +kernel
theorem dX8_run_168 : decode cX8_run 168 = .ok (.lastore, 1) := by decide +kernel
theorem dX8_run_169 : decode cX8_run 169 = .ok (.iinc 5 1, 3) := by decide +kernel
theorem dX8_run_172 : decode cX8_run 172 = .ok (.goto (-135), 3) := by decide +kernel
theorem dX8_run_175 : decode cX8_run 175 = .ok (.return_, 1) := by decide +kernel
theorem dX8_firstHour_0 : decode cX8_firstHour 0 = .ok (.aload_n 0, 1) := by decide +kernel
theorem dX8_firstHour_1 : decode cX8_firstHour 1 = .ok (.getfield 9, 3) := by decide +kernel
theorem dX8_firstHour_4 : decode cX8_firstHour 4 = .ok (.iload_n 1, 1) := by decide +kernel
theorem dX8_firstHour_5 : decode cX8_firstHour 5 = .ok (.laload, 1) := by decide +kernel
theorem dX8_firstHour_6 : decode cX8_firstHour 6 = .ok (.aload_n 0, 1) := by decide +kernel
theorem dX8_firstHour_7 : decode cX8_firstHour 7 = .ok (.getfield 15, 3) := by decide +kernel
theorem dX8_firstHour_10 : decode cX8_firstHour 10 = .ok (.iload_n 1, 1) := by decide +kernel
theorem dX8_firstHour_11 : decode cX8_firstHour 11 = .ok (.laload, 1) := by decide +kernel
theorem dX8_firstHour_12 : decode cX8_firstHour 12 = .ok (.lor, 1) := by decide +kernel
theorem dX8_firstHour_13 : decode cX8_firstHour 13 = .ok (.lstore_n 2, 1) := by decide +kernel
theorem dX8_firstHour_14 : decode cX8_firstHour 14 = .ok (.lload_n 2, 1) := by decide +kernel
theorem dX8_firstHour_15 : decode cX8_firstHour 15 = .ok (.lconst 0, 1) := by decide +kernel
theorem dX8_firstHour_16 : decode cX8_firstHour 16 = .ok (.lcmp, 1) := by decide +kernel
theorem dX8_firstHour_17 : decode cX8_firstHour 17 = .ok (.ifCond .ne 8, 3) := by decide +kernel
theorem dX8_firstHour_20 : decode cX8_firstHour 20 = .ok (.bipush 99, 2) := by decide +kernel
theorem dX8_firstHour_22 : decode cX8_firstHour 22 = .ok (.goto 7, 3) := by decide +kernel
theorem dX8_firstHour_25 : decode cX8_firstHour 25 = .ok (.lload_n 2, 1) := by decide +kernel
theorem dX8_firstHour_26 : decode cX8_firstHour 26 = .ok (.invokestatic 56, 3) := by decide +kernel
theorem dX8_firstHour_29 : decode cX8_firstHour 29 = .ok (.ireturn, 1) := by decide +kernel
theorem dX8_heardAtPlaces_0 : decode cX8_heardAtPlaces 0 = .ok (.iconst 0, 1) := by decide +kernel
theorem dX8_heardAtPlaces_1 : decode cX8_heardAtPlaces 1 = .ok (.istore_n 1, 1) := by decide +kernel
theorem dX8_heardAtPlaces_2 : decode cX8_heardAtPlaces 2 = .ok (.iconst 0, 1) := by decide +kernel
theorem dX8_heardAtPlaces_3 : decode cX8_heardAtPlaces 3 = .ok (.istore_n 2, 1) := by decide +kernel
theorem dX8_heardAtPlaces_4 : decode cX8_heardAtPlaces 4 = .ok (.iload_n 2, 1) := by decide +kernel
theorem dX8_heardAtPlaces_5 : decode cX8_heardAtPlaces 5 = .ok (.bipush 8, 2) := by decide +kernel
theorem dX8_heardAtPlaces_7 : decode cX8_heardAtPlaces 7 = .ok (.if_icmp .ge 33, 3) := by decide +kernel
theorem dX8_heardAtPlaces_10 : decode cX8_heardAtPlaces 10 = .ok (.aload_n 0, 1) := by decide +kernel
theorem dX8_heardAtPlaces_11 : decode cX8_heardAtPlaces 11 = .ok (.getfield 9, 3) := by decide +kernel
theorem dX8_heardAtPlaces_14 : decode cX8_heardAtPlaces 14 = .ok (.iload_n 2, 1) := by decide +kernel
theorem dX8_heardAtPlaces_15 : decode cX8_heardAtPlaces 15 = .ok (.laload, 1) := by decide +kernel
theorem dX8_heardAtPlaces_16 : decode cX8_heardAtPlaces 16 = .ok (.aload_n 0, 1) := by decide +kernel
theorem dX8_heardAtPlaces_17 : decode cX8_heardAtPlaces 17 = .ok (.getfield 15, 3) := by decide +kernel
theorem dX8_heardAtPlaces_20 : decode cX8_heardAtPlaces 20 = .ok (.iload_n 2, 1) := by decide +kernel
theorem dX8_heardAtPlaces_21 : decode cX8_heardAtPlaces 21 = .ok (.laload, 1) := by decide +kernel
theorem dX8_heardAtPlaces_22 : decode cX8_heardAtPlaces 22 = .ok (.lor, 1) := by decide +kernel
theorem dX8_heardAtPlaces_23 : decode cX8_heardAtPlaces 23 = .ok (.lconst 0, 1) := by decide +kernel
theorem dX8_heardAtPlaces_24 : decode cX8_heardAtPlaces 24 = .ok (.lcmp, 1) := by decide +kernel
theorem dX8_heardAtPlaces_25 : decode cX8_heardAtPlaces 25 = .ok (.ifCond .eq 9, 3) := by decide +kernel
theorem dX8_heardAtPlaces_28 : decode cX8_heardAtPlaces 28 = .ok (.iload_n 1, 1) := by decide +kernel
theorem dX8_heardAtPlaces_29 : decode cX8_heardAtPlaces 29 = .ok (.iconst 1, 1) := by decide +kernel
theorem dX8_heardAtPlaces_30 : decode cX8_heardAtPlaces 30 = .ok (.iload_n 2, 1) := by decide +kernel
theorem dX8_heardAtPlaces_31 : decode cX8_heardAtPlaces 31 = .ok (.ishl, 1) := by decide +kernel
theorem dX8_heardAtPlaces_32 : decode cX8_heardAtPlaces 32 = .ok (.ior, 1) := by decide +kernel
theorem dX8_heardAtPlaces_33 : decode cX8_heardAtPlaces 33 = .ok (.istore_n 1, 1) := by decide +kernel
theorem dX8_heardAtPlaces_34 : decode cX8_heardAtPlaces 34 = .ok (.iinc 2 1, 3) := by decide +kernel
theorem dX8_heardAtPlaces_37 : decode cX8_heardAtPlaces 37 = .ok (.goto (-33), 3) := by decide +kernel
theorem dX8_heardAtPlaces_40 : decode cX8_heardAtPlaces 40 = .ok (.iload_n 1, 1) := by decide +kernel
theorem dX8_heardAtPlaces_41 : decode cX8_heardAtPlaces 41 = .ok (.ireturn, 1) := by decide +kernel
theorem dX9_init_0 : decode cX9_init 0 = .ok (.aload_n 0, 1) := by decide +kernel
theorem dX9_init_1 : decode cX9_init 1 = .ok (.invokespecial 3, 3) := by decide +kernel
theorem dX9_init_4 : decode cX9_init 4 = .ok (.aload_n 0, 1) := by decide +kernel
theorem dX9_init_5 : decode cX9_init 5 = .ok (.new 9, 3) := by decide +kernel
theorem dX9_init_8 : decode cX9_init 8 = .ok (.dup, 1) := by decide +kernel
theorem dX9_init_9 : decode cX9_init 9 = .ok (.invokespecial 11, 3) := by decide +kernel
theorem dX9_init_12 : decode cX9_init 12 = .ok (.putfield 12, 3) := by decide +kernel
theorem dX9_init_15 : decode cX9_init 15 = .ok (.aload_n 0, 1) := by decide +kernel
theorem dX9_init_16 : decode cX9_init 16 = .ok (.new 16, 3) := by decide +kernel
theorem dX9_init_19 : decode cX9_init 19 = .ok (.dup, 1) := by decide +kernel
theorem dX9_init_20 : decode cX9_init 20 = .ok (.invokespecial 18, 3) := by decide +kernel
theorem dX9_init_23 : decode cX9_init 23 = .ok (.putfield 19, 3) := by decide +kernel
theorem dX9_init_26 : decode cX9_init 26 = .ok (.aload_n 0, 1) := by decide +kernel
theorem dX9_init_27 : decode cX9_init 27 = .ok (.new 16, 3) := by decide +kernel
theorem dX9_init_30 : decode cX9_init 30 = .ok (.dup, 1) := by decide +kernel
theorem dX9_init_31 : decode cX9_init 31 = .ok (.invokespecial 18, 3) := by decide +kernel
theorem dX9_init_34 : decode cX9_init 34 = .ok (.putfield 23, 3) := by decide +kernel
theorem dX9_init_37 : decode cX9_init 37 = .ok (.aload_n 0, 1) := by decide +kernel
theorem dX9_init_38 : decode cX9_init 38 = .ok (.new 26, 3) := by decide +kernel
theorem dX9_init_41 : decode cX9_init 41 = .ok (.dup, 1) := by decide +kernel
theorem dX9_init_42 : decode cX9_init 42 = .ok (.invokespecial 28, 3) := by decide +kernel
theorem dX9_init_45 : decode cX9_init 45 = .ok (.putfield 29, 3) := by decide +kernel
theorem dX9_init_48 : decode cX9_init 48 = .ok (.aload_n 0, 1) := by decide +kernel
theorem dX9_init_49 : decode cX9_init 49 = .ok (.new 26, 3) := by decide +kernel
theorem dX9_init_52 : decode cX9_init 52 = .ok (.dup, 1) := by decide +kernel
theorem dX9_init_53 : decode cX9_init 53 = .ok (.invokespecial 28, 3) := by decide +kernel
theorem dX9_init_56 : decode cX9_init 56 = .ok (.putfield 33, 3) := by decide +kernel
theorem dX9_init_59 : decode cX9_init 59 = .ok (.aload_n 0, 1) := by decide +kernel
theorem dX9_init_60 : decode cX9_init 60 = .ok (.new 36, 3) := by decide +kernel
theorem dX9_init_63 : decode cX9_init 63 = .ok (.dup, 1) := by decide +kernel
theorem dX9_init_64 : decode cX9_init 64 = .ok (.invokespecial 38, 3) := by decide +kernel
theorem dX9_init_67 : decode cX9_init 67 = .ok (.putfield 39, 3) := by decide +kernel
theorem dX9_init_70 : decode cX9_init 70 = .ok (.aload_n 0, 1) := by decide +kernel
theorem dX9_init_71 : decode cX9_init 71 = .ok (.iconst 2, 1) := by decide +kernel
theorem dX9_init_72 : decode cX9_init 72 = .ok (.anewarray 43, 3) := by decide +kernel
theorem dX9_init_75 : decode cX9_init 75 = .ok (.putfield 45, 3) := by decide +kernel
theorem dX9_init_78 : decode cX9_init 78 = .ok (.aload_n 0, 1) := by decide +kernel
theorem dX9_init_79 : decode cX9_init 79 = .ok (.new 49, 3) := by decide +kernel
theorem dX9_init_82 : decode cX9_init 82 = .ok (.dup, 1) := by decide +kernel
theorem dX9_init_83 : decode cX9_init 83 = .ok (.invokespecial 51, 3) := by decide +kernel
theorem dX9_init_86 : decode cX9_init 86 = .ok (.putfield 52, 3) := by decide +kernel
theorem dX9_init_89 : decode cX9_init 89 = .ok (.aload_n 0, 1) := by decide +kernel
theorem dX9_init_90 : decode cX9_init 90 = .ok (.new 56, 3) := by decide +kernel
theorem dX9_init_93 : decode cX9_init 93 = .ok (.dup, 1) := by decide +kernel
theorem dX9_init_94 : decode cX9_init 94 = .ok (.invokespecial 58, 3) := by decide +kernel
theorem dX9_init_97 : decode cX9_init 97 = .ok (.putfield 59, 3) := by decide +kernel
theorem dX9_init_100 : decode cX9_init 100 = .ok (.aload_n 0, 1) := by decide +kernel
theorem dX9_init_101 : decode cX9_init 101 = .ok (.new 63, 3) := by decide +kernel
theorem dX9_init_104 : decode cX9_init 104 = .ok (.dup, 1) := by decide +kernel
theorem dX9_init_105 : decode cX9_init 105 = .ok (.invokespecial 65, 3) := by decide +kernel
theorem dX9_init_108 : decode cX9_init 108 = .ok (.putfield 66, 3) := by decide +kernel
theorem dX9_init_111 : decode cX9_init 111 = .ok (.aload_n 0, 1) := by decide +kernel
theorem dX9_init_112 : decode cX9_init 112 = .ok (.iconst 0, 1) := by decide +kernel
theorem dX9_init_113 : decode cX9_init 113 = .ok (.putfield 70, 3) := by decide +kernel
theorem dX9_init_116 : decode cX9_init 116 = .ok (.iconst 0, 1) := by decide +kernel
theorem dX9_init_117 : decode cX9_init 117 = .ok (.istore_n 1, 1) := by decide +kernel
theorem dX9_init_118 : decode cX9_init 118 = .ok (.iload_n 1, 1) := by decide +kernel
theorem dX9_init_119 : decode cX9_init 119 = .ok (.aload_n 0, 1) := by decide +kernel
theorem dX9_init_120 : decode cX9_init 120 = .ok (.getfield 45, 3) := by decide +kernel
theorem dX9_init_123 : decode cX9_init 123 = .ok (.arraylength, 1) := by decide +kernel
theorem dX9_init_124 : decode cX9_init 124 = .ok (.if_icmp .ge 22, 3) := by decide +kernel
theorem dX9_init_127 : decode cX9_init 127 = .ok (.aload_n 0, 1) := by decide +kernel
theorem dX9_init_128 : decode cX9_init 128 = .ok (.getfield 45, 3) := by decide +kernel
theorem dX9_init_131 : decode cX9_init 131 = .ok (.iload_n 1, 1) := by decide +kernel
theorem dX9_init_132 : decode cX9_init 132 = .ok (.new 43, 3) := by decide +kernel
theorem dX9_init_135 : decode cX9_init 135 = .ok (.dup, 1) := by decide +kernel
theorem dX9_init_136 : decode cX9_init 136 = .ok (.invokespecial 74, 3) := by decide +kernel
theorem dX9_init_139 : decode cX9_init 139 = .ok (.aastore, 1) := by decide +kernel
theorem dX9_init_140 : decode cX9_init 140 = .ok (.iinc 1 1, 3) := by decide +kernel
theorem dX9_init_143 : decode cX9_init 143 = .ok (.goto (-25), 3) := by decide +kernel
theorem dX9_init_146 : decode cX9_init 146 = .ok (.return_, 1) := by decide +kernel
theorem dX9_feed_0 : decode cX9_feed 0 = .ok (.iload_n 1, 1) := by decide +kernel
theorem dX9_feed_1 : decode cX9_feed 1 = .ok (.ifCond .lt 10, 3) := by decide +kernel
theorem dX9_feed_4 : decode cX9_feed 4 = .ok (.iload_n 1, 1) := by decide +kernel
theorem dX9_feed_5 : decode cX9_feed 5 = .ok (.sipush 255, 3) := by decide +kernel
theorem dX9_feed_8 : decode cX9_feed 8 = .ok (.if_icmp .le 6, 3) := by decide +kernel
theorem dX9_feed_11 : decode cX9_feed 11 = .ok (.ldc 75, 2) := by decide +kernel
theorem dX9_feed_13 : decode cX9_feed 13 = .ok (.ireturn, 1) := by decide +kernel
theorem dX9_feed_14 : decode cX9_feed 14 = .ok (.aload_n 0, 1) := by decide +kernel
theorem dX9_feed_15 : decode cX9_feed 15 = .ok (.getfield 12, 3) := by decide +kernel
theorem dX9_feed_18 : decode cX9_feed 18 = .ok (.iload_n 1, 1) := by decide +kernel
theorem dX9_feed_19 : decode cX9_feed 19 = .ok (.invokevirtual 76, 3) := by decide +kernel
theorem dX9_feed_22 : decode cX9_feed 22 = .ok (.ifCond .eq 13, 3) := by decide +kernel
theorem dX9_feed_25 : decode cX9_feed 25 = .ok (.aload_n 0, 1) := by decide +kernel
theorem dX9_feed_26 : decode cX9_feed 26 = .ok (.getfield 12, 3) := by decide +kernel
theorem dX9_feed_29 : decode cX9_feed 29 = .ok (.getfield 80, 3) := by decide +kernel
theorem dX9_feed_32 : decode cX9_feed 32 = .ok (.goto 5, 3) := by decide +kernel
theorem dX9_feed_35 : decode cX9_feed 35 = .ok (.ldc 83, 2) := by decide +kernel
theorem dX9_feed_37 : decode cX9_feed 37 = .ok (.ireturn, 1) := by decide +kernel
theorem dX9_works_0 : decode cX9_works 0 = .ok (.aload_n 0, 1) := by decide +kernel
theorem dX9_works_1 : decode cX9_works 1 = .ok (.getfield 12, 3) := by decide +kernel
theorem dX9_works_4 : decode cX9_works 4 = .ok (.aload_n 0, 1) := by decide +kernel
theorem dX9_works_5 : decode cX9_works 5 = .ok (.getfield 23, 3) := by decide +kernel
theorem dX9_works_8 : decode cX9_works 8 = .ok (.invokevirtual 84, 3) := by decide +kernel
theorem dX9_works_11 : decode cX9_works 11 = .ok (.aload_n 0, 1) := by decide +kernel
theorem dX9_works_12 : decode cX9_works 12 = .ok (.getfield 12, 3) := by decide +kernel
theorem dX9_works_15 : decode cX9_works 15 = .ok (.getfield 88, 3) := by decide +kernel
theorem dX9_works_18 : decode cX9_works 18 = .ok (.ifCond .eq 14, 3) := by decide +kernel
theorem dX9_works_21 : decode cX9_works 21 = .ok (.bipush (-10), 2) := by decide +kernel
theorem dX9_works_23 : decode cX9_works 23 = .ok (.aload_n 0, 1) := by decide +kernel
theorem dX9_works_24 : decode cX9_works 24 = .ok (.getfield 12, 3) := by decide +kernel
theorem dX9_works_27 : decode cX9_works 27 = .ok (.getfield 88, 3) := by decide +kernel
theorem dX9_works_30 : decode cX9_works 30 = .ok (.isub, 1) := by decide +kernel
theorem dX9_works_31 : decode cX9_works 31 = .ok (.ireturn, 1) := by decide +kernel
theorem dX9_works_32 : decode cX9_works 32 = .ok (.aload_n 0, 1) := by decide +kernel
theorem dX9_works_33 : decode cX9_works 33 = .ok (.getfield 19, 3) := by decide +kernel
theorem dX9_works_36 : decode cX9_works 36 = .ok (.astore_n 1, 1) := by decide +kernel
theorem dX9_works_37 : decode cX9_works 37 = .ok (.aload_n 0, 1) := by decide +kernel
theorem dX9_works_38 : decode cX9_works 38 = .ok (.aload_n 0, 1) := by decide +kernel
theorem dX9_works_39 : decode cX9_works 39 = .ok (.getfield 23, 3) := by decide +kernel
theorem dX9_works_42 : decode cX9_works 42 = .ok (.putfield 19, 3) := by decide +kernel
theorem dX9_works_45 : decode cX9_works 45 = .ok (.aload_n 0, 1) := by decide +kernel
theorem dX9_works_46 : decode cX9_works 46 = .ok (.aload_n 1, 1) := by decide +kernel
theorem dX9_works_47 : decode cX9_works 47 = .ok (.putfield 23, 3) := by decide +kernel
theorem dX9_works_50 : decode cX9_works 50 = .ok (.aload_n 0, 1) := by decide +kernel
theorem dX9_works_51 : decode cX9_works 51 = .ok (.getfield 29, 3) := by decide +kernel
theorem dX9_works_54 : decode cX9_works 54 = .ok (.invokevirtual 91, 3) := by decide +kernel
theorem dX9_works_57 : decode cX9_works 57 = .ok (.aload_n 0, 1) := by decide +kernel
theorem dX9_works_58 : decode cX9_works 58 = .ok (.getfield 39, 3) := by decide +kernel
theorem dX9_works_61 : decode cX9_works 61 = .ok (.invokevirtual 94, 3) := by decide +kernel
theorem dX9_works_64 : decode cX9_works 64 = .ok (.aload_n 0, 1) := by decide +kernel
theorem dX9_works_65 : decode cX9_works 65 = .ok (.getfield 52, 3) := by decide +kernel
theorem dX9_works_68 : decode cX9_works 68 = .ok (.invokevirtual 97, 3) := by decide +kernel
theorem dX9_works_71 : decode cX9_works 71 = .ok (.iconst 0, 1) := by decide +kernel
theorem dX9_works_72 : decode cX9_works 72 = .ok (.istore_n 2, 1) := by decide +kernel
theorem dX9_works_73 : decode cX9_works 73 = .ok (.iload_n 2, 1) := by decide +kernel
theorem dX9_works_74 : decode cX9_works 74 = .ok (.aload_n 0, 1) := by decide +kernel
theorem dX9_works_75 : decode cX9_works 75 = .ok (.getfield 45, 3) := by decide +kernel
theorem dX9_works_78 : decode cX9_works 78 = .ok (.arraylength, 1) := by decide +kernel
theorem dX9_works_79 : decode cX9_works 79 = .ok (.if_icmp .ge 19, 3) := by decide +kernel
theorem dX9_works_82 : decode cX9_works 82 = .ok (.aload_n 0, 1) := by decide +kernel
theorem dX9_works_83 : decode cX9_works 83 = .ok (.getfield 45, 3) := by decide +kernel
theorem dX9_works_86 : decode cX9_works 86 = .ok (.iload_n 2, 1) := by decide +kernel
theorem dX9_works_87 : decode cX9_works 87 = .ok (.aaload, 1) := by decide +kernel
theorem dX9_works_88 : decode cX9_works 88 = .ok (.iconst 0, 1) := by decide +kernel
theorem dX9_works_89 : decode cX9_works 89 = .ok (.putfield 100, 3) := by decide +kernel
theorem dX9_works_92 : decode cX9_works 92 = .ok (.iinc 2 1, 3) := by decide +kernel
theorem dX9_works_95 : decode cX9_works 95 = .ok (.goto (-22), 3) := by decide +kernel
theorem dX9_works_98 : decode cX9_works 98 = .ok (.aload_n 0, 1) := by decide +kernel
theorem dX9_works_99 : decode cX9_works 99 = .ok (.getfield 19, 3) := by decide +kernel
theorem dX9_works_102 : decode cX9_works 102 = .ok (.getfield 104, 3) := by decide +kernel
theorem dX9_works_105 : decode cX9_works 105 = .ok (.ireturn, 1) := by decide +kernel
theorem dX9_fault_0 : decode cX9_fault 0 = .ok (.aload_n 0, 1) := by decide +kernel
theorem dX9_fault_1 : decode cX9_fault 1 = .ok (.getfield 12, 3) := by decide +kernel
theorem dX9_fault_4 : decode cX9_fault 4 = .ok (.getfield 107, 3) := by decide +kernel
theorem dX9_fault_7 : decode cX9_fault 7 = .ok (.ireturn, 1) := by decide +kernel
theorem dX9_told_0 : decode cX9_told 0 = .ok (.iload_n 1, 1) := by decide +kernel
theorem dX9_told_1 : decode cX9_told 1 = .ok (.tableswitch 151 0 10 #[59, 67, 75, 83, 91, 99, 107, 119, 127, 135, 143], 59) := by decide +kernel
theorem dX9_told_60 : decode cX9_told 60 = .ok (.aload_n 0, 1) := by decide +kernel
theorem dX9_told_61 : decode cX9_told 61 = .ok (.getfield 19, 3) := by decide +kernel
theorem dX9_told_64 : decode cX9_told 64 = .ok (.getfield 110, 3) := by decide +kernel
theorem dX9_told_67 : decode cX9_told 67 = .ok (.ireturn, 1) := by decide +kernel
theorem dX9_told_68 : decode cX9_told 68 = .ok (.aload_n 0, 1) := by decide +kernel
theorem dX9_told_69 : decode cX9_told 69 = .ok (.getfield 19, 3) := by decide +kernel
theorem dX9_told_72 : decode cX9_told 72 = .ok (.getfield 104, 3) := by decide +kernel
theorem dX9_told_75 : decode cX9_told 75 = .ok (.ireturn, 1) := by decide +kernel
theorem dX9_told_76 : decode cX9_told 76 = .ok (.aload_n 0, 1) := by decide +kernel
theorem dX9_told_77 : decode cX9_told 77 = .ok (.getfield 19, 3) := by decide +kernel
theorem dX9_told_80 : decode cX9_told 80 = .ok (.getfield 113, 3) := by decide +kernel
theorem dX9_told_83 : decode cX9_told 83 = .ok (.ireturn, 1) := by decide +kernel
theorem dX9_told_84 : decode cX9_told 84 = .ok (.aload_n 0, 1) := by decide +kernel
theorem dX9_told_85 : decode cX9_told 85 = .ok (.getfield 12, 3) := by decide +kernel
theorem dX9_told_88 : decode cX9_told 88 = .ok (.getfield 80, 3) := by decide +kernel
theorem dX9_told_91 : decode cX9_told 91 = .ok (.ireturn, 1) := by decide +kernel
theorem dX9_told_92 : decode cX9_told 92 = .ok (.aload_n 0, 1) := by decide +kernel
theorem dX9_told_93 : decode cX9_told 93 = .ok (.getfield 29, 3) := by decide +kernel
theorem dX9_told_96 : decode cX9_told 96 = .ok (.getfield 116, 3) := by decide +kernel
theorem dX9_told_99 : decode cX9_told 99 = .ok (.ireturn, 1) := by decide +kernel
theorem dX9_told_100 : decode cX9_told 100 = .ok (.aload_n 0, 1) := by decide +kernel
theorem dX9_told_101 : decode cX9_told 101 = .ok (.getfield 29, 3) := by decide +kernel
theorem dX9_told_104 : decode cX9_told 104 = .ok (.getfield 119, 3) := by decide +kernel
theorem dX9_told_107 : decode cX9_told 107 = .ok (.ireturn, 1) := by decide +kernel
theorem dX9_told_108 : decode cX9_told 108 = .ok (.aload_n 0, 1) := by decide +kernel
theorem dX9_told_109 : decode cX9_told 109 = .ok (.getfield 29, 3) := by decide +kernel
theorem dX9_told_112 : decode cX9_told 112 = .ok (.aload_n 0, 1) := by decide +kernel
theorem dX9_told_113 : decode cX9_told 113 = .ok (.getfield 19, 3) := by decide +kernel
theorem dX9_told_116 : decode cX9_told 116 = .ok (.invokevirtual 122, 3) := by decide +kernel
theorem dX9_told_119 : decode cX9_told 119 = .ok (.ireturn, 1) := by decide +kernel
theorem dX9_told_120 : decode cX9_told 120 = .ok (.aload_n 0, 1) := by decide +kernel
theorem dX9_told_121 : decode cX9_told 121 = .ok (.getfield 29, 3) := by decide +kernel
theorem dX9_told_124 : decode cX9_told 124 = .ok (.invokevirtual 126, 3) := by decide +kernel
theorem dX9_told_127 : decode cX9_told 127 = .ok (.ireturn, 1) := by decide +kernel
theorem dX9_told_128 : decode cX9_told 128 = .ok (.aload_n 0, 1) := by decide +kernel
theorem dX9_told_129 : decode cX9_told 129 = .ok (.getfield 52, 3) := by decide +kernel
theorem dX9_told_132 : decode cX9_told 132 = .ok (.getfield 130, 3) := by decide +kernel
theorem dX9_told_135 : decode cX9_told 135 = .ok (.ireturn, 1) := by decide +kernel
theorem dX9_told_136 : decode cX9_told 136 = .ok (.aload_n 0, 1) := by decide +kernel
theorem dX9_told_137 : decode cX9_told 137 = .ok (.getfield 52, 3) := by decide +kernel
theorem dX9_told_140 : decode cX9_told 140 = .ok (.getfield 133, 3) := by decide +kernel
theorem dX9_told_143 : decode cX9_told 143 = .ok (.ireturn, 1) := by decide +kernel
theorem dX9_told_144 : decode cX9_told 144 = .ok (.aload_n 0, 1) := by decide +kernel
theorem dX9_told_145 : decode cX9_told 145 = .ok (.getfield 39, 3) := by decide +kernel
theorem dX9_told_148 : decode cX9_told 148 = .ok (.getfield 136, 3) := by decide +kernel
theorem dX9_told_151 : decode cX9_told 151 = .ok (.ireturn, 1) := by decide +kernel
theorem dX9_told_152 : decode cX9_told 152 = .ok (.ldc 75, 2) := by decide +kernel
theorem dX9_told_154 : decode cX9_told 154 = .ok (.ireturn, 1) := by decide +kernel
theorem dX9_place_0 : decode cX9_place 0 = .ok (.aload_n 0, 1) := by decide +kernel
theorem dX9_place_1 : decode cX9_place 1 = .ok (.getfield 19, 3) := by decide +kernel
theorem dX9_place_4 : decode cX9_place 4 = .ok (.iload_n 1, 1) := by decide +kernel
theorem dX9_place_5 : decode cX9_place 5 = .ok (.invokevirtual 139, 3) := by decide +kernel
theorem dX9_place_8 : decode cX9_place 8 = .ok (.ifCond .ne 6, 3) := by decide +kernel
theorem dX9_place_11 : decode cX9_place 11 = .ok (.ldc 142, 2) := by decide +kernel
theorem dX9_place_13 : decode cX9_place 13 = .ok (.ireturn, 1) := by decide +kernel
theorem dX9_place_14 : decode cX9_place 14 = .ok (.iload_n 2, 1) := by decide +kernel
theorem dX9_place_15 : decode cX9_place 15 = .ok (.tableswitch 55 0 2 #[25, 35, 45], 25) := by decide +kernel
theorem dX9_place_40 : decode cX9_place 40 = .ok (.aload_n 0, 1) := by decide +kernel
theorem dX9_place_41 : decode cX9_place 41 = .ok (.getfield 19, 3) := by decide +kernel
theorem dX9_place_44 : decode cX9_place 44 = .ok (.getfield 143, 3) := by decide +kernel
theorem dX9_place_47 : decode cX9_place 47 = .ok (.iload_n 1, 1) := by decide +kernel
theorem dX9_place_48 : decode cX9_place 48 = .ok (.iaload, 1) := by decide +kernel
theorem dX9_place_49 : decode cX9_place 49 = .ok (.ireturn, 1) := by decide +kernel
theorem dX9_place_50 : decode cX9_place 50 = .ok (.aload_n 0, 1) := by decide +kernel
theorem dX9_place_51 : decode cX9_place 51 = .ok (.getfield 19, 3) := by decide +kernel
theorem dX9_place_54 : decode cX9_place 54 = .ok (.getfield 147, 3) := by decide +kernel
theorem dX9_place_57 : decode cX9_place 57 = .ok (.iload_n 1, 1) := by decide +kernel
theorem dX9_place_58 : decode cX9_place 58 = .ok (.iaload, 1) := by decide +kernel
theorem dX9_place_59 : decode cX9_place 59 = .ok (.ireturn, 1) := by decide +kernel
theorem dX9_place_60 : decode cX9_place 60 = .ok (.aload_n 0, 1) := by decide +kernel
theorem dX9_place_61 : decode cX9_place 61 = .ok (.getfield 29, 3) := by decide +kernel
theorem dX9_place_64 : decode cX9_place 64 = .ok (.getfield 150, 3) := by decide +kernel
theorem dX9_place_67 : decode cX9_place 67 = .ok (.iload_n 1, 1) := by decide +kernel
theorem dX9_place_68 : decode cX9_place 68 = .ok (.iaload, 1) := by decide +kernel
theorem dX9_place_69 : decode cX9_place 69 = .ok (.ireturn, 1) := by decide +kernel
theorem dX9_place_70 : decode cX9_place 70 = .ok (.ldc 75, 2) := by decide +kernel
theorem dX9_place_72 : decode cX9_place 72 = .ok (.ireturn, 1) := by decide +kernel
theorem dX9_channel_0 : decode cX9_channel 0 = .ok (.aload_n 0, 1) := by decide +kernel
theorem dX9_channel_1 : decode cX9_channel 1 = .ok (.getfield 19, 3) := by decide +kernel
theorem dX9_channel_4 : decode cX9_channel 4 = .ok (.iload_n 1, 1) := by decide +kernel
theorem dX9_channel_5 : decode cX9_channel 5 = .ok (.invokevirtual 153, 3) := by decide +kernel
theorem dX9_channel_8 : decode cX9_channel 8 = .ok (.ifCond .ne 6, 3) := by decide +kernel
theorem dX9_channel_11 : decode cX9_channel 11 = .ok (.ldc 142, 2) := by decide +kernel
theorem dX9_channel_13 : decode cX9_channel 13 = .ok (.ireturn, 1) := by decide +kernel
theorem dX9_channel_14 : decode cX9_channel 14 = .ok (.iload_n 2, 1) := by decide +kernel
theorem dX9_channel_15 : decode cX9_channel 15 = .ok (.tableswitch 107 0 5 #[37, 47, 57, 67, 77, 97], 37) := by decide +kernel
theorem dX9_channel_52 : decode cX9_channel 52 = .ok (.aload_n 0, 1) := by decide +kernel
theorem dX9_channel_53 : decode cX9_channel 53 = .ok (.getfield 19, 3) := by decide +kernel
theorem dX9_channel_56 : decode cX9_channel 56 = .ok (.getfield 156, 3) := by decide +kernel
theorem dX9_channel_59 : decode cX9_channel 59 = .ok (.iload_n 1, 1) := by decide +kernel
theorem dX9_channel_60 : decode cX9_channel 60 = .ok (.iaload, 1) := by decide +kernel
theorem dX9_channel_61 : decode cX9_channel 61 = .ok (.ireturn, 1) := by decide +kernel
theorem dX9_channel_62 : decode cX9_channel 62 = .ok (.aload_n 0, 1) := by decide +kernel
theorem dX9_channel_63 : decode cX9_channel 63 = .ok (.getfield 19, 3) := by decide +kernel
theorem dX9_channel_66 : decode cX9_channel 66 = .ok (.getfield 159, 3) := by decide +kernel
theorem dX9_channel_69 : decode cX9_channel 69 = .ok (.iload_n 1, 1) := by decide +kernel
theorem dX9_channel_70 : decode cX9_channel 70 = .ok (.iaload, 1) := by decide +kernel
theorem dX9_channel_71 : decode cX9_channel 71 = .ok (.ireturn, 1) := by decide +kernel
theorem dX9_channel_72 : decode cX9_channel 72 = .ok (.aload_n 0, 1) := by decide +kernel
theorem dX9_channel_73 : decode cX9_channel 73 = .ok (.getfield 19, 3) := by decide +kernel
theorem dX9_channel_76 : decode cX9_channel 76 = .ok (.getfield 162, 3) := by decide +kernel
theorem dX9_channel_79 : decode cX9_channel 79 = .ok (.iload_n 1, 1) := by decide +kernel
theorem dX9_channel_80 : decode cX9_channel 80 = .ok (.iaload, 1) := by decide +kernel
theorem dX9_channel_81 : decode cX9_channel 81 = .ok (.ireturn, 1) := by decide +kernel
theorem dX9_channel_82 : decode cX9_channel 82 = .ok (.aload_n 0, 1) := by decide +kernel
theorem dX9_channel_83 : decode cX9_channel 83 = .ok (.getfield 29, 3) := by decide +kernel
theorem dX9_channel_86 : decode cX9_channel 86 = .ok (.getfield 165, 3) := by decide +kernel
theorem dX9_channel_89 : decode cX9_channel 89 = .ok (.iload_n 1, 1) := by decide +kernel
theorem dX9_channel_90 : decode cX9_channel 90 = .ok (.iaload, 1) := by decide +kernel
theorem dX9_channel_91 : decode cX9_channel 91 = .ok (.ireturn, 1) := by decide +kernel
theorem dX9_channel_92 : decode cX9_channel 92 = .ok (.aload_n 0, 1) := by decide +kernel
theorem dX9_channel_93 : decode cX9_channel 93 = .ok (.getfield 29, 3) := by decide +kernel
theorem dX9_channel_96 : decode cX9_channel 96 = .ok (.getfield 119, 3) := by decide +kernel
theorem dX9_channel_99 : decode cX9_channel 99 = .ok (.iload_n 1, 1) := by decide +kernel
theorem dX9_channel_100 : decode cX9_channel 100 = .ok (.invokestatic 168, 3) := by decide +kernel
theorem dX9_channel_103 : decode cX9_channel 103 = .ok (.ifCond .eq 7, 3) := by decide +kernel
theorem dX9_channel_106 : decode cX9_channel 106 = .ok (.iconst 1, 1) := by decide +kernel
theorem dX9_channel_107 : decode cX9_channel 107 = .ok (.goto 4, 3) := by decide +kernel
theorem dX9_channel_110 : decode cX9_channel 110 = .ok (.iconst 0, 1) := by decide +kernel
theorem dX9_channel_111 : decode cX9_channel 111 = .ok (.ireturn, 1) := by decide +kernel
theorem dX9_channel_112 : decode cX9_channel 112 = .ok (.aload_n 0, 1) := by decide +kernel
theorem dX9_channel_113 : decode cX9_channel 113 = .ok (.getfield 29, 3) := by decide +kernel
theorem dX9_channel_116 : decode cX9_channel 116 = .ok (.getfield 172, 3) := by decide +kernel
theorem dX9_channel_119 : decode cX9_channel 119 = .ok (.iload_n 1, 1) := by decide +kernel
theorem dX9_channel_120 : decode cX9_channel 120 = .ok (.iaload, 1) := by decide +kernel
theorem dX9_channel_121 : decode cX9_channel 121 = .ok (.ireturn, 1) := by decide +kernel
theorem dX9_channel_122 : decode cX9_channel 122 = .ok (.ldc 75, 2) := by decide +kernel
theorem dX9_channel_124 : decode cX9_channel 124 = .ok (.ireturn, 1) := by decide +kernel
theorem dX9_first_0 : decode cX9_first 0 = .ok (.aload_n 0, 1) := by decide +kernel
theorem dX9_first_1 : decode cX9_first 1 = .ok (.getfield 19, 3) := by decide +kernel
theorem dX9_first_4 : decode cX9_first 4 = .ok (.iload_n 1, 1) := by decide +kernel
theorem dX9_first_5 : decode cX9_first 5 = .ok (.invokevirtual 139, 3) := by decide +kernel
theorem dX9_first_8 : decode cX9_first 8 = .ok (.ifCond .eq 10, 3) := by decide +kernel
theorem dX9_first_11 : decode cX9_first 11 = .ok (.iload_n 2, 1) := by decide +kernel
theorem dX9_first_12 : decode cX9_first 12 = .ok (.invokestatic 175, 3) := by decide +kernel
theorem dX9_first_15 : decode cX9_first 15 = .ok (.ifCond .ne 6, 3) := by decide +kernel
theorem dX9_first_18 : decode cX9_first 18 = .ok (.ldc 142, 2) := by decide +kernel
theorem dX9_first_20 : decode cX9_first 20 = .ok (.ireturn, 1) := by decide +kernel
theorem dX9_first_21 : decode cX9_first 21 = .ok (.aload_n 0, 1) := by decide +kernel
theorem dX9_first_22 : decode cX9_first 22 = .ok (.getfield 29, 3) := by decide +kernel
theorem dX9_first_25 : decode cX9_first 25 = .ok (.getfield 178, 3) := by decide +kernel
theorem dX9_first_28 : decode cX9_first 28 = .ok (.iload_n 1, 1) := by decide +kernel
theorem dX9_first_29 : decode cX9_first 29 = .ok (.bipush 8, 2) := by decide +kernel
theorem dX9_first_31 : decode cX9_first 31 = .ok (.imul, 1) := by decide +kernel
theorem dX9_first_32 : decode cX9_first 32 = .ok (.iload_n 2, 1) := by decide +kernel
theorem dX9_first_33 : decode cX9_first 33 = .ok (.iadd, 1) := by decide +kernel
theorem dX9_first_34 : decode cX9_first 34 = .ok (.iaload, 1) := by decide +kernel
theorem dX9_first_35 : decode cX9_first 35 = .ok (.ireturn, 1) := by decide +kernel
theorem dX9_letIn_0 : decode cX9_letIn 0 = .ok (.iload_n 1, 1) := by decide +kernel
theorem dX9_letIn_1 : decode cX9_letIn 1 = .ok (.iconst 1, 1) := by decide +kernel
theorem dX9_letIn_2 : decode cX9_letIn 2 = .ok (.if_icmp .lt 10, 3) := by decide +kernel
theorem dX9_letIn_5 : decode cX9_letIn 5 = .ok (.iload_n 1, 1) := by decide +kernel
theorem dX9_letIn_6 : decode cX9_letIn 6 = .ok (.sipush 255, 3) := by decide +kernel
theorem dX9_letIn_9 : decode cX9_letIn 9 = .ok (.if_icmp .le 6, 3) := by decide +kernel
theorem dX9_letIn_12 : decode cX9_letIn 12 = .ok (.ldc 75, 2) := by decide +kernel
theorem dX9_letIn_14 : decode cX9_letIn 14 = .ok (.ireturn, 1) := by decide +kernel
theorem dX9_letIn_15 : decode cX9_letIn 15 = .ok (.aload_n 0, 1) := by decide +kernel
theorem dX9_letIn_16 : decode cX9_letIn 16 = .ok (.getfield 19, 3) := by decide +kernel
theorem dX9_letIn_19 : decode cX9_letIn 19 = .ok (.getfield 104, 3) := by decide +kernel
theorem dX9_letIn_22 : decode cX9_letIn 22 = .ok (.ifCond .ne 6, 3) := by decide +kernel
theorem dX9_letIn_25 : decode cX9_letIn 25 = .ok (.ldc 181, 2) := by decide +kernel
theorem dX9_letIn_27 : decode cX9_letIn 27 = .ok (.ireturn, 1) := by decide +kernel
theorem dX9_letIn_28 : decode cX9_letIn 28 = .ok (.aload_n 0, 1) := by decide +kernel
theorem dX9_letIn_29 : decode cX9_letIn 29 = .ok (.getfield 39, 3) := by decide +kernel
theorem dX9_letIn_32 : decode cX9_letIn 32 = .ok (.aload_n 0, 1) := by decide +kernel
theorem dX9_letIn_33 : decode cX9_letIn 33 = .ok (.getfield 29, 3) := by decide +kernel
theorem dX9_letIn_36 : decode cX9_letIn 36 = .ok (.invokevirtual 182, 3) := by decide +kernel
theorem dX9_letIn_39 : decode cX9_letIn 39 = .ok (.aload_n 0, 1) := by decide +kernel
theorem dX9_letIn_40 : decode cX9_letIn 40 = .ok (.getfield 29, 3) := by decide +kernel
theorem dX9_letIn_43 : decode cX9_letIn 43 = .ok (.iload_n 1, 1) := by decide +kernel
theorem dX9_letIn_44 : decode cX9_letIn 44 = .ok (.invokevirtual 186, 3) := by decide +kernel
theorem dX9_letIn_47 : decode cX9_letIn 47 = .ok (.ireturn, 1) := by decide +kernel
theorem dX9_hour_0 : decode cX9_hour 0 = .ok (.aload_n 0, 1) := by decide +kernel
theorem dX9_hour_1 : decode cX9_hour 1 = .ok (.iload_n 1, 1) := by decide +kernel
theorem dX9_hour_2 : decode cX9_hour 2 = .ok (.invokevirtual 190, 3) := by decide +kernel
theorem dX9_hour_5 : decode cX9_hour 5 = .ok (.istore_n 2, 1) := by decide +kernel
theorem dX9_hour_6 : decode cX9_hour 6 = .ok (.iload_n 2, 1) := by decide +kernel
theorem dX9_hour_7 : decode cX9_hour 7 = .ok (.ifCond .eq 5, 3) := by decide +kernel
theorem dX9_hour_10 : decode cX9_hour 10 = .ok (.iload_n 2, 1) := by decide +kernel
theorem dX9_hour_11 : decode cX9_hour 11 = .ok (.ireturn, 1) := by decide +kernel
theorem dX9_hour_12 : decode cX9_hour 12 = .ok (.aload_n 0, 1) := by decide +kernel
theorem dX9_hour_13 : decode cX9_hour 13 = .ok (.getfield 39, 3) := by decide +kernel
theorem dX9_hour_16 : decode cX9_hour 16 = .ok (.aload_n 0, 1) := by decide +kernel
theorem dX9_hour_17 : decode cX9_hour 17 = .ok (.getfield 29, 3) := by decide +kernel
theorem dX9_hour_20 : decode cX9_hour 20 = .ok (.invokevirtual 182, 3) := by decide +kernel
theorem dX9_hour_23 : decode cX9_hour 23 = .ok (.iconst 0, 1) := by decide +kernel
theorem dX9_hour_24 : decode cX9_hour 24 = .ok (.istore_n 3, 1) := by decide +kernel
theorem dX9_hour_25 : decode cX9_hour 25 = .ok (.iload_n 3, 1) := by decide +kernel
theorem dX9_hour_26 : decode cX9_hour 26 = .ok (.iload_n 1, 1) := by decide +kernel
theorem dX9_hour_27 : decode cX9_hour 27 = .ok (.if_icmp .ge 20, 3) := by decide +kernel
theorem dX9_hour_30 : decode cX9_hour 30 = .ok (.aload_n 0, 1) := by decide +kernel
theorem dX9_hour_31 : decode cX9_hour 31 = .ok (.getfield 29, 3) := by decide +kernel
theorem dX9_hour_34 : decode cX9_hour 34 = .ok (.aload_n 0, 1) := by decide +kernel
theorem dX9_hour_35 : decode cX9_hour 35 = .ok (.getfield 19, 3) := by decide +kernel
theorem dX9_hour_38 : decode cX9_hour 38 = .ok (.invokevirtual 193, 3) := by decide +kernel
theorem dX9_hour_41 : decode cX9_hour 41 = .ok (.iinc 3 1, 3) := by decide +kernel
theorem dX9_hour_44 : decode cX9_hour 44 = .ok (.goto (-19), 3) := by decide +kernel
theorem dX9_hour_47 : decode cX9_hour 47 = .ok (.aload_n 0, 1) := by decide +kernel
theorem dX9_hour_48 : decode cX9_hour 48 = .ok (.getfield 29, 3) := by decide +kernel
theorem dX9_hour_51 : decode cX9_hour 51 = .ok (.getfield 116, 3) := by decide +kernel
theorem dX9_hour_54 : decode cX9_hour 54 = .ok (.ireturn, 1) := by decide +kernel
theorem dX9_gate_0 : decode cX9_gate 0 = .ok (.aload_n 0, 1) := by decide +kernel
theorem dX9_gate_1 : decode cX9_gate 1 = .ok (.getfield 19, 3) := by decide +kernel
theorem dX9_gate_4 : decode cX9_gate 4 = .ok (.iload_n 1, 1) := by decide +kernel
theorem dX9_gate_5 : decode cX9_gate 5 = .ok (.invokevirtual 153, 3) := by decide +kernel
theorem dX9_gate_8 : decode cX9_gate 8 = .ok (.ifCond .ne 6, 3) := by decide +kernel
theorem dX9_gate_11 : decode cX9_gate 11 = .ok (.ldc 142, 2) := by decide +kernel
theorem dX9_gate_13 : decode cX9_gate 13 = .ok (.ireturn, 1) := by decide +kernel
theorem dX9_gate_14 : decode cX9_gate 14 = .ok (.aload_n 0, 1) := by decide +kernel
theorem dX9_gate_15 : decode cX9_gate 15 = .ok (.getfield 39, 3) := by decide +kernel
theorem dX9_gate_18 : decode cX9_gate 18 = .ok (.aload_n 0, 1) := by decide +kernel
theorem dX9_gate_19 : decode cX9_gate 19 = .ok (.getfield 29, 3) := by decide +kernel
theorem dX9_gate_22 : decode cX9_gate 22 = .ok (.invokevirtual 182, 3) := by decide +kernel
theorem dX9_gate_25 : decode cX9_gate 25 = .ok (.aload_n 0, 1) := by decide +kernel
theorem dX9_gate_26 : decode cX9_gate 26 = .ok (.getfield 29, 3) := by decide +kernel
theorem dX9_gate_29 : decode cX9_gate 29 = .ok (.getfield 119, 3) := by decide +kernel
theorem dX9_gate_32 : decode cX9_gate 32 = .ok (.iload_n 1, 1) := by decide +kernel
theorem dX9_gate_33 : decode cX9_gate 33 = .ok (.invokestatic 168, 3) := by decide +kernel
theorem dX9_gate_36 : decode cX9_gate 36 = .ok (.ifCond .eq 7, 3) := by decide +kernel
theorem dX9_gate_39 : decode cX9_gate 39 = .ok (.iconst 1, 1) := by decide +kernel
theorem dX9_gate_40 : decode cX9_gate 40 = .ok (.goto 4, 3) := by decide +kernel
theorem dX9_gate_43 : decode cX9_gate 43 = .ok (.iconst 0, 1) := by decide +kernel
theorem dX9_gate_44 : decode cX9_gate 44 = .ok (.istore_n 3, 1) := by decide +kernel
theorem dX9_gate_45 : decode cX9_gate 45 = .ok (.aload_n 0, 1) := by decide +kernel
theorem dX9_gate_46 : decode cX9_gate 46 = .ok (.getfield 29, 3) := by decide +kernel
theorem dX9_gate_49 : decode cX9_gate 49 = .ok (.iload_n 2, 1) := by decide +kernel
theorem dX9_gate_50 : decode cX9_gate 50 = .ok (.ifCond .eq 17, 3) := by decide +kernel
theorem dX9_gate_53 : decode cX9_gate 53 = .ok (.aload_n 0, 1) := by decide +kernel
theorem dX9_gate_54 : decode cX9_gate 54 = .ok (.getfield 29, 3) := by decide +kernel
theorem dX9_gate_57 : decode cX9_gate 57 = .ok (.getfield 119, 3) := by decide +kernel
theorem dX9_gate_60 : decode cX9_gate 60 = .ok (.iconst 1, 1) := by decide +kernel
theorem dX9_gate_61 : decode cX9_gate 61 = .ok (.iload_n 1, 1) := by decide +kernel
theorem dX9_gate_62 : decode cX9_gate 62 = .ok (.ishl, 1) := by decide +kernel
theorem dX9_gate_63 : decode cX9_gate 63 = .ok (.ior, 1) := by decide +kernel
theorem dX9_gate_64 : decode cX9_gate 64 = .ok (.goto 16, 3) := by decide +kernel
theorem dX9_gate_67 : decode cX9_gate 67 = .ok (.aload_n 0, 1) := by decide +kernel
theorem dX9_gate_68 : decode cX9_gate 68 = .ok (.getfield 29, 3) := by decide +kernel
theorem dX9_gate_71 : decode cX9_gate 71 = .ok (.getfield 119, 3) := by decide +kernel
theorem dX9_gate_74 : decode cX9_gate 74 = .ok (.iconst 1, 1) := by decide +kernel
theorem dX9_gate_75 : decode cX9_gate 75 = .ok (.iload_n 1, 1) := by decide +kernel
theorem dX9_gate_76 : decode cX9_gate 76 = .ok (.ishl, 1) := by decide +kernel
theorem dX9_gate_77 : decode cX9_gate 77 = .ok (.iconst (-1), 1) := by decide +kernel
theorem dX9_gate_78 : decode cX9_gate 78 = .ok (.ixor, 1) := by decide +kernel
theorem dX9_gate_79 : decode cX9_gate 79 = .ok (.iand, 1) := by decide +kernel
theorem dX9_gate_80 : decode cX9_gate 80 = .ok (.putfield 119, 3) := by decide +kernel
theorem dX9_gate_83 : decode cX9_gate 83 = .ok (.iload_n 3, 1) := by decide +kernel
theorem dX9_gate_84 : decode cX9_gate 84 = .ok (.ireturn, 1) := by decide +kernel
theorem dX9_clear_0 : decode cX9_clear 0 = .ok (.aload_n 0, 1) := by decide +kernel
theorem dX9_clear_1 : decode cX9_clear 1 = .ok (.getfield 19, 3) := by decide +kernel
theorem dX9_clear_4 : decode cX9_clear 4 = .ok (.iload_n 1, 1) := by decide +kernel
theorem dX9_clear_5 : decode cX9_clear 5 = .ok (.invokevirtual 153, 3) := by decide +kernel
theorem dX9_clear_8 : decode cX9_clear 8 = .ok (.ifCond .ne 6, 3) := by decide +kernel
theorem dX9_clear_11 : decode cX9_clear 11 = .ok (.ldc 142, 2) := by decide +kernel
theorem dX9_clear_13 : decode cX9_clear 13 = .ok (.ireturn, 1) := by decide +kernel
theorem dX9_clear_14 : decode cX9_clear 14 = .ok (.aload_n 0, 1) := by decide +kernel
theorem dX9_clear_15 : decode cX9_clear 15 = .ok (.getfield 39, 3) := by decide +kernel
theorem dX9_clear_18 : decode cX9_clear 18 = .ok (.aload_n 0, 1) := by decide +kernel
theorem dX9_clear_19 : decode cX9_clear 19 = .ok (.getfield 29, 3) := by decide +kernel
theorem dX9_clear_22 : decode cX9_clear 22 = .ok (.invokevirtual 182, 3) := by decide +kernel
theorem dX9_clear_25 : decode cX9_clear 25 = .ok (.aload_n 0, 1) := by decide +kernel
theorem dX9_clear_26 : decode cX9_clear 26 = .ok (.getfield 29, 3) := by decide +kernel
theorem dX9_clear_29 : decode cX9_clear 29 = .ok (.getfield 165, 3) := by decide +kernel
theorem dX9_clear_32 : decode cX9_clear 32 = .ok (.iload_n 1, 1) := by decide +kernel
theorem dX9_clear_33 : decode cX9_clear 33 = .ok (.iaload, 1) := by decide +kernel
theorem dX9_clear_34 : decode cX9_clear 34 = .ok (.istore_n 2, 1) := by decide +kernel
theorem dX9_clear_35 : decode cX9_clear 35 = .ok (.aload_n 0, 1) := by decide +kernel
theorem dX9_clear_36 : decode cX9_clear 36 = .ok (.getfield 29, 3) := by decide +kernel
theorem dX9_clear_39 : decode cX9_clear 39 = .ok (.getfield 165, 3) := by decide +kernel
theorem dX9_clear_42 : decode cX9_clear 42 = .ok (.iload_n 1, 1) := by decide +kernel
theorem dX9_clear_43 : decode cX9_clear 43 = .ok (.iconst 0, 1) := by decide +kernel
theorem dX9_clear_44 : decode cX9_clear 44 = .ok (.iastore, 1) := by decide +kernel
theorem dX9_clear_45 : decode cX9_clear 45 = .ok (.iload_n 2, 1) := by decide +kernel
theorem dX9_clear_46 : decode cX9_clear 46 = .ok (.ireturn, 1) := by decide +kernel
theorem dX9_crack_0 : decode cX9_crack 0 = .ok (.aload_n 0, 1) := by decide +kernel
theorem dX9_crack_1 : decode cX9_crack 1 = .ok (.getfield 19, 3) := by decide +kernel
theorem dX9_crack_4 : decode cX9_crack 4 = .ok (.iload_n 1, 1) := by decide +kernel
theorem dX9_crack_5 : decode cX9_crack 5 = .ok (.invokevirtual 153, 3) := by decide +kernel
theorem dX9_crack_8 : decode cX9_crack 8 = .ok (.ifCond .eq 19, 3) := by decide +kernel
theorem dX9_crack_11 : decode cX9_crack 11 = .ok (.iload_n 2, 1) := by decide +kernel
theorem dX9_crack_12 : decode cX9_crack 12 = .ok (.iconst (-1), 1) := by decide +kernel
theorem dX9_crack_13 : decode cX9_crack 13 = .ok (.if_icmp .eq 17, 3) := by decide +kernel
theorem dX9_crack_16 : decode cX9_crack 16 = .ok (.aload_n 0, 1) := by decide +kernel
theorem dX9_crack_17 : decode cX9_crack 17 = .ok (.getfield 19, 3) := by decide +kernel
theorem dX9_crack_20 : decode cX9_crack 20 = .ok (.iload_n 2, 1) := by decide +kernel
theorem dX9_crack_21 : decode cX9_crack 21 = .ok (.invokevirtual 139, 3) := by decide +kernel
theorem dX9_crack_24 : decode cX9_crack 24 = .ok (.ifCond .ne 6, 3) := by decide +kernel
theorem dX9_crack_27 : decode cX9_crack 27 = .ok (.ldc 142, 2) := by decide +kernel
theorem dX9_crack_29 : decode cX9_crack 29 = .ok (.ireturn, 1) := by decide +kernel
theorem dX9_crack_30 : decode cX9_crack 30 = .ok (.aload_n 0, 1) := by decide +kernel
theorem dX9_crack_31 : decode cX9_crack 31 = .ok (.getfield 39, 3) := by decide +kernel
theorem dX9_crack_34 : decode cX9_crack 34 = .ok (.aload_n 0, 1) := by decide +kernel
theorem dX9_crack_35 : decode cX9_crack 35 = .ok (.getfield 29, 3) := by decide +kernel
theorem dX9_crack_38 : decode cX9_crack 38 = .ok (.invokevirtual 182, 3) := by decide +kernel
theorem dX9_crack_41 : decode cX9_crack 41 = .ok (.aload_n 0, 1) := by decide +kernel
theorem dX9_crack_42 : decode cX9_crack 42 = .ok (.getfield 29, 3) := by decide +kernel
theorem dX9_crack_45 : decode cX9_crack 45 = .ok (.getfield 172, 3) := by decide +kernel
theorem dX9_crack_48 : decode cX9_crack 48 = .ok (.iload_n 1, 1) := by decide +kernel
theorem dX9_crack_49 : decode cX9_crack 49 = .ok (.iaload, 1) := by decide +kernel
theorem dX9_crack_50 : decode cX9_crack 50 = .ok (.istore_n 3, 1) := by decide +kernel
theorem dX9_crack_51 : decode cX9_crack 51 = .ok (.aload_n 0, 1) := by decide +kernel
theorem dX9_crack_52 : decode cX9_crack 52 = .ok (.getfield 29, 3) := by decide +kernel
theorem dX9_crack_55 : decode cX9_crack 55 = .ok (.getfield 172, 3) := by decide +kernel
theorem dX9_crack_58 : decode cX9_crack 58 = .ok (.iload_n 1, 1) := by decide +kernel
theorem dX9_crack_59 : decode cX9_crack 59 = .ok (.iload_n 2, 1) := by decide +kernel
theorem dX9_crack_60 : decode cX9_crack 60 = .ok (.iastore, 1) := by decide +kernel
theorem dX9_crack_61 : decode cX9_crack 61 = .ok (.iload_n 3, 1) := by decide +kernel
theorem dX9_crack_62 : decode cX9_crack 62 = .ok (.ireturn, 1) := by decide +kernel
theorem dX9_empty_0 : decode cX9_empty 0 = .ok (.aload_n 0, 1) := by decide +kernel
theorem dX9_empty_1 : decode cX9_empty 1 = .ok (.getfield 39, 3) := by decide +kernel
theorem dX9_empty_4 : decode cX9_empty 4 = .ok (.aload_n 0, 1) := by decide +kernel
theorem dX9_empty_5 : decode cX9_empty 5 = .ok (.getfield 29, 3) := by decide +kernel
theorem dX9_empty_8 : decode cX9_empty 8 = .ok (.invokevirtual 182, 3) := by decide +kernel
theorem dX9_empty_11 : decode cX9_empty 11 = .ok (.aload_n 0, 1) := by decide +kernel
theorem dX9_empty_12 : decode cX9_empty 12 = .ok (.getfield 29, 3) := by decide +kernel
theorem dX9_empty_15 : decode cX9_empty 15 = .ok (.invokevirtual 126, 3) := by decide +kernel
theorem dX9_empty_18 : decode cX9_empty 18 = .ok (.istore_n 1, 1) := by decide +kernel
theorem dX9_empty_19 : decode cX9_empty 19 = .ok (.aload_n 0, 1) := by decide +kernel
theorem dX9_empty_20 : decode cX9_empty 20 = .ok (.getfield 29, 3) := by decide +kernel
theorem dX9_empty_23 : decode cX9_empty 23 = .ok (.invokevirtual 196, 3) := by decide +kernel
theorem dX9_empty_26 : decode cX9_empty 26 = .ok (.iload_n 1, 1) := by decide +kernel
theorem dX9_empty_27 : decode cX9_empty 27 = .ok (.ireturn, 1) := by decide +kernel
theorem dX9_drift_0 : decode cX9_drift 0 = .ok (.aload_n 0, 1) := by decide +kernel
theorem dX9_drift_1 : decode cX9_drift 1 = .ok (.iload_n 1, 1) := by decide +kernel
theorem dX9_drift_2 : decode cX9_drift 2 = .ok (.invokevirtual 190, 3) := by decide +kernel
theorem dX9_drift_5 : decode cX9_drift 5 = .ok (.istore_n 2, 1) := by decide +kernel
theorem dX9_drift_6 : decode cX9_drift 6 = .ok (.iload_n 2, 1) := by decide +kernel
theorem dX9_drift_7 : decode cX9_drift 7 = .ok (.ifCond .eq 5, 3) := by decide +kernel
theorem dX9_drift_10 : decode cX9_drift 10 = .ok (.iload_n 2, 1) := by decide +kernel
theorem dX9_drift_11 : decode cX9_drift 11 = .ok (.ireturn, 1) := by decide +kernel
theorem dX9_drift_12 : decode cX9_drift 12 = .ok (.aload_n 0, 1) := by decide +kernel
theorem dX9_drift_13 : decode cX9_drift 13 = .ok (.getfield 39, 3) := by decide +kernel
theorem dX9_drift_16 : decode cX9_drift 16 = .ok (.aload_n 0, 1) := by decide +kernel
theorem dX9_drift_17 : decode cX9_drift 17 = .ok (.getfield 29, 3) := by decide +kernel
theorem dX9_drift_20 : decode cX9_drift 20 = .ok (.invokevirtual 182, 3) := by decide +kernel
theorem dX9_drift_23 : decode cX9_drift 23 = .ok (.iconst 0, 1) := by decide +kernel
theorem dX9_drift_24 : decode cX9_drift 24 = .ok (.istore_n 3, 1) := by decide +kernel
theorem dX9_drift_25 : decode cX9_drift 25 = .ok (.iload_n 3, 1) := by decide +kernel
theorem dX9_drift_26 : decode cX9_drift 26 = .ok (.iload_n 1, 1) := by decide +kernel
theorem dX9_drift_27 : decode cX9_drift 27 = .ok (.if_icmp .ge 41, 3) := by decide +kernel
theorem dX9_drift_30 : decode cX9_drift 30 = .ok (.aload_n 0, 1) := by decide +kernel
theorem dX9_drift_31 : decode cX9_drift 31 = .ok (.invokevirtual 199, 3) := by decide +kernel
theorem dX9_drift_34 : decode cX9_drift 34 = .ok (.ifCond .ne 17, 3) := by decide +kernel
theorem dX9_drift_37 : decode cX9_drift 37 = .ok (.aload_n 0, 1) := by decide +kernel
theorem dX9_drift_38 : decode cX9_drift 38 = .ok (.getfield 29, 3) := by decide +kernel
theorem dX9_drift_41 : decode cX9_drift 41 = .ok (.iconst 1, 1) := by decide +kernel
theorem dX9_drift_42 : decode cX9_drift 42 = .ok (.aload_n 0, 1) := by decide +kernel
theorem dX9_drift_43 : decode cX9_drift 43 = .ok (.invokevirtual 202, 3) := by decide +kernel
theorem dX9_drift_46 : decode cX9_drift 46 = .ok (.ishl, 1) := by decide +kernel
theorem dX9_drift_47 : decode cX9_drift 47 = .ok (.invokevirtual 186, 3) := by decide +kernel
theorem dX9_drift_50 : decode cX9_drift 50 = .ok (.pop, 1) := by decide +kernel
theorem dX9_drift_51 : decode cX9_drift 51 = .ok (.aload_n 0, 1) := by decide +kernel
theorem dX9_drift_52 : decode cX9_drift 52 = .ok (.getfield 29, 3) := by decide +kernel
theorem dX9_drift_55 : decode cX9_drift 55 = .ok (.aload_n 0, 1) := by decide +kernel
theorem dX9_drift_56 : decode cX9_drift 56 = .ok (.getfield 19, 3) := by decide +kernel
theorem dX9_drift_59 : decode cX9_drift 59 = .ok (.invokevirtual 193, 3) := by decide +kernel
theorem dX9_drift_62 : decode cX9_drift 62 = .ok (.iinc 3 1, 3) := by decide +kernel
theorem dX9_drift_65 : decode cX9_drift 65 = .ok (.goto (-40), 3) := by decide +kernel
theorem dX9_drift_68 : decode cX9_drift 68 = .ok (.aload_n 0, 1) := by decide +kernel
theorem dX9_drift_69 : decode cX9_drift 69 = .ok (.getfield 29, 3) := by decide +kernel
theorem dX9_drift_72 : decode cX9_drift 72 = .ok (.getfield 116, 3) := by decide +kernel
theorem dX9_drift_75 : decode cX9_drift 75 = .ok (.ireturn, 1) := by decide +kernel
theorem dX9_undo_0 : decode cX9_undo 0 = .ok (.aload_n 0, 1) := by decide +kernel
theorem dX9_undo_1 : decode cX9_undo 1 = .ok (.getfield 39, 3) := by decide +kernel
theorem dX9_undo_4 : decode cX9_undo 4 = .ok (.aload_n 0, 1) := by decide +kernel
theorem dX9_undo_5 : decode cX9_undo 5 = .ok (.getfield 29, 3) := by decide +kernel
theorem dX9_undo_8 : decode cX9_undo 8 = .ok (.invokevirtual 205, 3) := by decide +kernel
theorem dX9_undo_11 : decode cX9_undo 11 = .ok (.ifCond .eq 13, 3) := by decide +kernel
theorem dX9_undo_14 : decode cX9_undo 14 = .ok (.aload_n 0, 1) := by decide +kernel
theorem dX9_undo_15 : decode cX9_undo 15 = .ok (.getfield 39, 3) := by decide +kernel
theorem dX9_undo_18 : decode cX9_undo 18 = .ok (.getfield 136, 3) := by decide +kernel
theorem dX9_undo_21 : decode cX9_undo 21 = .ok (.goto 5, 3) := by decide +kernel
theorem dX9_undo_24 : decode cX9_undo 24 = .ok (.ldc 181, 2) := by decide +kernel
theorem dX9_undo_26 : decode cX9_undo 26 = .ok (.ireturn, 1) := by decide +kernel
theorem dX9_hears_0 : decode cX9_hears 0 = .ok (.aload_n 0, 1) := by decide +kernel
theorem dX9_hears_1 : decode cX9_hears 1 = .ok (.iload_n 1, 1) := by decide +kernel
theorem dX9_hears_2 : decode cX9_hears 2 = .ok (.iload_n 2, 1) := by decide +kernel
theorem dX9_hears_3 : decode cX9_hears 3 = .ok (.invokevirtual 209, 3) := by decide +kernel
theorem dX9_hears_6 : decode cX9_hears 6 = .ok (.istore_n 3, 1) := by decide +kernel
theorem dX9_hears_7 : decode cX9_hears 7 = .ok (.iload_n 3, 1) := by decide +kernel
theorem dX9_hears_8 : decode cX9_hears 8 = .ok (.ifCond .eq 5, 3) := by decide +kernel
theorem dX9_hears_11 : decode cX9_hears 11 = .ok (.iload_n 3, 1) := by decide +kernel
theorem dX9_hears_12 : decode cX9_hears 12 = .ok (.ireturn, 1) := by decide +kernel
theorem dX9_hears_13 : decode cX9_hears 13 = .ok (.aload_n 0, 1) := by decide +kernel
theorem dX9_hears_14 : decode cX9_hears 14 = .ok (.iload_n 1, 1) := by decide +kernel
theorem dX9_hears_15 : decode cX9_hears 15 = .ok (.invokevirtual 213, 3) := by decide +kernel
theorem dX9_hears_18 : decode cX9_hears 18 = .ok (.aload_n 0, 1) := by decide +kernel
theorem dX9_hears_19 : decode cX9_hears 19 = .ok (.getfield 33, 3) := by decide +kernel
theorem dX9_hears_22 : decode cX9_hears 22 = .ok (.getfield 150, 3) := by decide +kernel
theorem dX9_hears_25 : decode cX9_hears 25 = .ok (.iload_n 2, 1) := by decide +kernel
theorem dX9_hears_26 : decode cX9_hears 26 = .ok (.iaload, 1) := by decide +kernel
theorem dX9_hears_27 : decode cX9_hears 27 = .ok (.ireturn, 1) := by decide +kernel
theorem dX9_soonest_0 : decode cX9_soonest 0 = .ok (.aload_n 0, 1) := by decide +kernel
theorem dX9_soonest_1 : decode cX9_soonest 1 = .ok (.iload_n 1, 1) := by decide +kernel
theorem dX9_soonest_2 : decode cX9_soonest 2 = .ok (.iload_n 2, 1) := by decide +kernel
theorem dX9_soonest_3 : decode cX9_soonest 3 = .ok (.invokevirtual 209, 3) := by decide +kernel
theorem dX9_soonest_6 : decode cX9_soonest 6 = .ok (.istore_n 3, 1) := by decide +kernel
theorem dX9_soonest_7 : decode cX9_soonest 7 = .ok (.iload_n 3, 1) := by decide +kernel
theorem dX9_soonest_8 : decode cX9_soonest 8 = .ok (.ifCond .eq 5, 3) := by decide +kernel
theorem dX9_soonest_11 : decode cX9_soonest 11 = .ok (.iload_n 3, 1) := by decide +kernel
theorem dX9_soonest_12 : decode cX9_soonest 12 = .ok (.ireturn, 1) := by decide +kernel
theorem dX9_soonest_13 : decode cX9_soonest 13 = .ok (.aload_n 0, 1) := by decide +kernel
theorem dX9_soonest_14 : decode cX9_soonest 14 = .ok (.iload_n 1, 1) := by decide +kernel
theorem dX9_soonest_15 : decode cX9_soonest 15 = .ok (.invokevirtual 213, 3) := by decide +kernel
theorem dX9_soonest_18 : decode cX9_soonest 18 = .ok (.aload_n 0, 1) := by decide +kernel
theorem dX9_soonest_19 : decode cX9_soonest 19 = .ok (.getfield 33, 3) := by decide +kernel
theorem dX9_soonest_22 : decode cX9_soonest 22 = .ok (.iload_n 2, 1) := by decide +kernel
theorem dX9_soonest_23 : decode cX9_soonest 23 = .ok (.invokevirtual 217, 3) := by decide +kernel
theorem dX9_soonest_26 : decode cX9_soonest 26 = .ok (.ireturn, 1) := by decide +kernel
theorem dX9_gates_0 : decode cX9_gates 0 = .ok (.aload_n 0, 1) := by decide +kernel
theorem dX9_gates_1 : decode cX9_gates 1 = .ok (.getfield 19, 3) := by decide +kernel
theorem dX9_gates_4 : decode cX9_gates 4 = .ok (.iload_n 1, 1) := by decide +kernel
theorem dX9_gates_5 : decode cX9_gates 5 = .ok (.invokevirtual 139, 3) := by decide +kernel
theorem dX9_gates_8 : decode cX9_gates 8 = .ok (.ifCond .eq 22, 3) := by decide +kernel
theorem dX9_gates_11 : decode cX9_gates 11 = .ok (.iload_n 2, 1) := by decide +kernel
theorem dX9_gates_12 : decode cX9_gates 12 = .ok (.invokestatic 175, 3) := by decide +kernel
theorem dX9_gates_15 : decode cX9_gates 15 = .ok (.ifCond .eq 15, 3) := by decide +kernel
theorem dX9_gates_18 : decode cX9_gates 18 = .ok (.iload_n 3, 1) := by decide +kernel
theorem dX9_gates_19 : decode cX9_gates 19 = .ok (.aload_n 0, 1) := by decide +kernel
theorem dX9_gates_20 : decode cX9_gates 20 = .ok (.getfield 19, 3) := by decide +kernel
theorem dX9_gates_23 : decode cX9_gates 23 = .ok (.getfield 104, 3) := by decide +kernel
theorem dX9_gates_26 : decode cX9_gates 26 = .ok (.iushr, 1) := by decide +kernel
theorem dX9_gates_27 : decode cX9_gates 27 = .ok (.ifCond .eq 6, 3) := by decide +kernel
theorem dX9_gates_30 : decode cX9_gates 30 = .ok (.ldc 142, 2) := by decide +kernel
theorem dX9_gates_32 : decode cX9_gates 32 = .ok (.ireturn, 1) := by decide +kernel
theorem dX9_gates_33 : decode cX9_gates 33 = .ok (.aload_n 0, 1) := by decide +kernel
theorem dX9_gates_34 : decode cX9_gates 34 = .ok (.getfield 59, 3) := by decide +kernel
theorem dX9_gates_37 : decode cX9_gates 37 = .ok (.aload_n 0, 1) := by decide +kernel
theorem dX9_gates_38 : decode cX9_gates 38 = .ok (.getfield 19, 3) := by decide +kernel
theorem dX9_gates_41 : decode cX9_gates 41 = .ok (.aload_n 0, 1) := by decide +kernel
theorem dX9_gates_42 : decode cX9_gates 42 = .ok (.getfield 29, 3) := by decide +kernel
theorem dX9_gates_45 : decode cX9_gates 45 = .ok (.iload_n 1, 1) := by decide +kernel
theorem dX9_gates_46 : decode cX9_gates 46 = .ok (.iload_n 2, 1) := by decide +kernel
theorem dX9_gates_47 : decode cX9_gates 47 = .ok (.iload_n 3, 1) := by decide +kernel
theorem dX9_gates_48 : decode cX9_gates 48 = .ok (.invokevirtual 220, 3) := by decide +kernel
theorem dX9_gates_51 : decode cX9_gates 51 = .ok (.ireturn, 1) := by decide +kernel
theorem dX9_cut_0 : decode cX9_cut 0 = .ok (.aload_n 0, 1) := by decide +kernel
theorem dX9_cut_1 : decode cX9_cut 1 = .ok (.getfield 19, 3) := by decide +kernel
theorem dX9_cut_4 : decode cX9_cut 4 = .ok (.iload_n 1, 1) := by decide +kernel
theorem dX9_cut_5 : decode cX9_cut 5 = .ok (.invokevirtual 139, 3) := by decide +kernel
theorem dX9_cut_8 : decode cX9_cut 8 = .ok (.ifCond .eq 10, 3) := by decide +kernel
theorem dX9_cut_11 : decode cX9_cut 11 = .ok (.iload_n 2, 1) := by decide +kernel
theorem dX9_cut_12 : decode cX9_cut 12 = .ok (.invokestatic 175, 3) := by decide +kernel
theorem dX9_cut_15 : decode cX9_cut 15 = .ok (.ifCond .ne 6, 3) := by decide +kernel
theorem dX9_cut_18 : decode cX9_cut 18 = .ok (.ldc 142, 2) := by decide +kernel
theorem dX9_cut_20 : decode cX9_cut 20 = .ok (.ireturn, 1) := by decide +kernel
theorem dX9_cut_21 : decode cX9_cut 21 = .ok (.iload_n 3, 1) := by decide +kernel
theorem dX9_cut_22 : decode cX9_cut 22 = .ok (.ifCond .lt 8, 3) := by decide +kernel
theorem dX9_cut_25 : decode cX9_cut 25 = .ok (.iload_n 3, 1) := by decide +kernel
theorem dX9_cut_26 : decode cX9_cut 26 = .ok (.iconst 1, 1) := by decide +kernel
theorem dX9_cut_27 : decode cX9_cut 27 = .ok (.if_icmp .le 6, 3) := by decide +kernel
theorem dX9_cut_30 : decode cX9_cut 30 = .ok (.ldc 75, 2) := by decide +kernel
theorem dX9_cut_32 : decode cX9_cut 32 = .ok (.ireturn, 1) := by decide +kernel
theorem dX9_cut_33 : decode cX9_cut 33 = .ok (.aload_n 0, 1) := by decide +kernel
theorem dX9_cut_34 : decode cX9_cut 34 = .ok (.getfield 59, 3) := by decide +kernel
theorem dX9_cut_37 : decode cX9_cut 37 = .ok (.aload_n 0, 1) := by decide +kernel
theorem dX9_cut_38 : decode cX9_cut 38 = .ok (.getfield 19, 3) := by decide +kernel
theorem dX9_cut_41 : decode cX9_cut 41 = .ok (.aload_n 0, 1) := by decide +kernel
theorem dX9_cut_42 : decode cX9_cut 42 = .ok (.getfield 29, 3) := by decide +kernel
theorem dX9_cut_45 : decode cX9_cut 45 = .ok (.iconst (-1), 1) := by decide +kernel
theorem dX9_cut_46 : decode cX9_cut 46 = .ok (.iload_n 2, 1) := by decide +kernel
theorem dX9_cut_47 : decode cX9_cut 47 = .ok (.iconst 1, 1) := by decide +kernel
theorem dX9_cut_48 : decode cX9_cut 48 = .ok (.iload_n 1, 1) := by decide +kernel
theorem dX9_cut_49 : decode cX9_cut 49 = .ok (.ishl, 1) := by decide +kernel
theorem dX9_cut_50 : decode cX9_cut 50 = .ok (.invokevirtual 220, 3) := by decide +kernel
theorem dX9_cut_53 : decode cX9_cut 53 = .ok (.istore 4, 2) := by decide +kernel
theorem dX9_cut_55 : decode cX9_cut 55 = .ok (.iload 4, 2) := by decide +kernel
theorem dX9_cut_57 : decode cX9_cut 57 = .ok (.iconst (-1), 1) := by decide +kernel
theorem dX9_cut_58 : decode cX9_cut 58 = .ok (.if_icmp .eq 8, 3) := by decide +kernel
theorem dX9_cut_61 : decode cX9_cut 61 = .ok (.iload_n 3, 1) := by decide +kernel
theorem dX9_cut_62 : decode cX9_cut 62 = .ok (.iconst 1, 1) := by decide +kernel
theorem dX9_cut_63 : decode cX9_cut 63 = .ok (.if_icmp .ne 8, 3) := by decide +kernel
theorem dX9_cut_66 : decode cX9_cut 66 = .ok (.iload 4, 2) := by decide +kernel
theorem dX9_cut_68 : decode cX9_cut 68 = .ok (.goto 8, 3) := by decide +kernel
theorem dX9_cut_71 : decode cX9_cut 71 = .ok (.iload 4, 2) := by decide +kernel
theorem dX9_cut_73 : decode cX9_cut 73 = .ok (.invokestatic 224, 3) := by decide +kernel
theorem dX9_cut_76 : decode cX9_cut 76 = .ok (.ireturn, 1) := by decide +kernel
theorem dX9_meet_0 : decode cX9_meet 0 = .ok (.iload_n 1, 1) := by decide +kernel
theorem dX9_meet_1 : decode cX9_meet 1 = .ok (.invokestatic 175, 3) := by decide +kernel
theorem dX9_meet_4 : decode cX9_meet 4 = .ok (.ifCond .eq 15, 3) := by decide +kernel
theorem dX9_meet_7 : decode cX9_meet 7 = .ok (.iload_n 2, 1) := by decide +kernel
theorem dX9_meet_8 : decode cX9_meet 8 = .ok (.invokestatic 175, 3) := by decide +kernel
theorem dX9_meet_11 : decode cX9_meet 11 = .ok (.ifCond .eq 8, 3) := by decide +kernel
theorem dX9_meet_14 : decode cX9_meet 14 = .ok (.iload_n 1, 1) := by decide +kernel
theorem dX9_meet_15 : decode cX9_meet 15 = .ok (.iload_n 2, 1) := by decide +kernel
theorem dX9_meet_16 : decode cX9_meet 16 = .ok (.if_icmp .ne 6, 3) := by decide +kernel
theorem dX9_meet_19 : decode cX9_meet 19 = .ok (.ldc 142, 2) := by decide +kernel
theorem dX9_meet_21 : decode cX9_meet 21 = .ok (.ireturn, 1) := by decide +kernel
theorem dX9_meet_22 : decode cX9_meet 22 = .ok (.iload_n 3, 1) := by decide +kernel
theorem dX9_meet_23 : decode cX9_meet 23 = .ok (.ifCond .lt 9, 3) := by decide +kernel
theorem dX9_meet_26 : decode cX9_meet 26 = .ok (.iload_n 3, 1) := by decide +kernel
theorem dX9_meet_27 : decode cX9_meet 27 = .ok (.bipush 30, 2) := by decide +kernel
theorem dX9_meet_29 : decode cX9_meet 29 = .ok (.if_icmp .le 6, 3) := by decide +kernel
theorem dX9_meet_32 : decode cX9_meet 32 = .ok (.ldc 75, 2) := by decide +kernel
theorem dX9_meet_34 : decode cX9_meet 34 = .ok (.ireturn, 1) := by decide +kernel
theorem dX9_meet_35 : decode cX9_meet 35 = .ok (.aload_n 0, 1) := by decide +kernel
theorem dX9_meet_36 : decode cX9_meet 36 = .ok (.getfield 59, 3) := by decide +kernel
theorem dX9_meet_39 : decode cX9_meet 39 = .ok (.aload_n 0, 1) := by decide +kernel
theorem dX9_meet_40 : decode cX9_meet 40 = .ok (.getfield 19, 3) := by decide +kernel
theorem dX9_meet_43 : decode cX9_meet 43 = .ok (.aload_n 0, 1) := by decide +kernel
theorem dX9_meet_44 : decode cX9_meet 44 = .ok (.getfield 29, 3) := by decide +kernel
theorem dX9_meet_47 : decode cX9_meet 47 = .ok (.iload_n 1, 1) := by decide +kernel
theorem dX9_meet_48 : decode cX9_meet 48 = .ok (.iload_n 2, 1) := by decide +kernel
theorem dX9_meet_49 : decode cX9_meet 49 = .ok (.iload_n 3, 1) := by decide +kernel
theorem dX9_meet_50 : decode cX9_meet 50 = .ok (.invokevirtual 229, 3) := by decide +kernel
theorem dX9_meet_53 : decode cX9_meet 53 = .ok (.ireturn, 1) := by decide +kernel
theorem dX9_longest_0 : decode cX9_longest 0 = .ok (.aload_n 0, 1) := by decide +kernel
theorem dX9_longest_1 : decode cX9_longest 1 = .ok (.getfield 19, 3) := by decide +kernel
theorem dX9_longest_4 : decode cX9_longest 4 = .ok (.iload_n 1, 1) := by decide +kernel
theorem dX9_longest_5 : decode cX9_longest 5 = .ok (.invokevirtual 139, 3) := by decide +kernel
theorem dX9_longest_8 : decode cX9_longest 8 = .ok (.ifCond .ne 6, 3) := by decide +kernel
theorem dX9_longest_11 : decode cX9_longest 11 = .ok (.ldc 142, 2) := by decide +kernel
theorem dX9_longest_13 : decode cX9_longest 13 = .ok (.ireturn, 1) := by decide +kernel
theorem dX9_longest_14 : decode cX9_longest 14 = .ok (.aload_n 0, 1) := by decide +kernel
theorem dX9_longest_15 : decode cX9_longest 15 = .ok (.getfield 66, 3) := by decide +kernel
theorem dX9_longest_18 : decode cX9_longest 18 = .ok (.aload_n 0, 1) := by decide +kernel
theorem dX9_longest_19 : decode cX9_longest 19 = .ok (.getfield 19, 3) := by decide +kernel
theorem dX9_longest_22 : decode cX9_longest 22 = .ok (.aload_n 0, 1) := by decide +kernel
theorem dX9_longest_23 : decode cX9_longest 23 = .ok (.getfield 29, 3) := by decide +kernel
theorem dX9_longest_26 : decode cX9_longest 26 = .ok (.getfield 119, 3) := by decide +kernel
theorem dX9_longest_29 : decode cX9_longest 29 = .ok (.invokevirtual 232, 3) := by decide +kernel
theorem dX9_longest_32 : decode cX9_longest 32 = .ok (.aload_n 0, 1) := by decide +kernel
theorem dX9_longest_33 : decode cX9_longest 33 = .ok (.getfield 66, 3) := by decide +kernel
theorem dX9_longest_36 : decode cX9_longest 36 = .ok (.getfield 236, 3) := by decide +kernel
theorem dX9_longest_39 : decode cX9_longest 39 = .ok (.iload_n 1, 1) := by decide +kernel
theorem dX9_longest_40 : decode cX9_longest 40 = .ok (.iaload, 1) := by decide +kernel
theorem dX9_longest_41 : decode cX9_longest 41 = .ok (.ireturn, 1) := by decide +kernel
theorem dX9_ways_0 : decode cX9_ways 0 = .ok (.aload_n 0, 1) := by decide +kernel
theorem dX9_ways_1 : decode cX9_ways 1 = .ok (.getfield 19, 3) := by decide +kernel
theorem dX9_ways_4 : decode cX9_ways 4 = .ok (.iload_n 1, 1) := by decide +kernel
theorem dX9_ways_5 : decode cX9_ways 5 = .ok (.invokevirtual 139, 3) := by decide +kernel
theorem dX9_ways_8 : decode cX9_ways 8 = .ok (.ifCond .ne 6, 3) := by decide +kernel
theorem dX9_ways_11 : decode cX9_ways 11 = .ok (.ldc 142, 2) := by decide +kernel
theorem dX9_ways_13 : decode cX9_ways 13 = .ok (.ireturn, 1) := by decide +kernel
theorem dX9_ways_14 : decode cX9_ways 14 = .ok (.aload_n 0, 1) := by decide +kernel
theorem dX9_ways_15 : decode cX9_ways 15 = .ok (.getfield 66, 3) := by decide +kernel
theorem dX9_ways_18 : decode cX9_ways 18 = .ok (.aload_n 0, 1) := by decide +kernel
theorem dX9_ways_19 : decode cX9_ways 19 = .ok (.getfield 19, 3) := by decide +kernel
theorem dX9_ways_22 : decode cX9_ways 22 = .ok (.aload_n 0, 1) := by decide +kernel
theorem dX9_ways_23 : decode cX9_ways 23 = .ok (.getfield 29, 3) := by decide +kernel
theorem dX9_ways_26 : decode cX9_ways 26 = .ok (.getfield 119, 3) := by decide +kernel
theorem dX9_ways_29 : decode cX9_ways 29 = .ok (.invokevirtual 232, 3) := by decide +kernel
theorem dX9_ways_32 : decode cX9_ways 32 = .ok (.aload_n 0, 1) := by decide +kernel
theorem dX9_ways_33 : decode cX9_ways 33 = .ok (.getfield 66, 3) := by decide +kernel
theorem dX9_ways_36 : decode cX9_ways 36 = .ok (.getfield 238, 3) := by decide +kernel
theorem dX9_ways_39 : decode cX9_ways 39 = .ok (.iload_n 1, 1) := by decide +kernel
theorem dX9_ways_40 : decode cX9_ways 40 = .ok (.iaload, 1) := by decide +kernel
theorem dX9_ways_41 : decode cX9_ways 41 = .ok (.ireturn, 1) := by decide +kernel
theorem dX9_firstBlocked_0 : decode cX9_firstBlocked 0 = .ok (.aload_n 0, 1) := by decide +kernel
theorem dX9_firstBlocked_1 : decode cX9_firstBlocked 1 = .ok (.getfield 19, 3) := by decide +kernel
theorem dX9_firstBlocked_4 : decode cX9_firstBlocked 4 = .ok (.getfield 104, 3) := by decide +kernel
theorem dX9_firstBlocked_7 : decode cX9_firstBlocked 7 = .ok (.ifCond .ne 5, 3) := by decide +kernel
theorem dX9_firstBlocked_10 : decode cX9_firstBlocked 10 = .ok (.iconst (-1), 1) := by decide +kernel
theorem dX9_firstBlocked_11 : decode cX9_firstBlocked 11 = .ok (.ireturn, 1) := by decide +kernel
theorem dX9_firstBlocked_12 : decode cX9_firstBlocked 12 = .ok (.aload_n 0, 1) := by decide +kernel
theorem dX9_firstBlocked_13 : decode cX9_firstBlocked 13 = .ok (.getfield 33, 3) := by decide +kernel
theorem dX9_firstBlocked_16 : decode cX9_firstBlocked 16 = .ok (.aload_n 0, 1) := by decide +kernel
theorem dX9_firstBlocked_17 : decode cX9_firstBlocked 17 = .ok (.getfield 29, 3) := by decide +kernel
theorem dX9_firstBlocked_20 : decode cX9_firstBlocked 20 = .ok (.invokevirtual 240, 3) := by decide +kernel
theorem dX9_firstBlocked_23 : decode cX9_firstBlocked 23 = .ok (.aload_n 0, 1) := by decide +kernel
theorem dX9_firstBlocked_24 : decode cX9_firstBlocked 24 = .ok (.getfield 33, 3) := by decide +kernel
theorem dX9_firstBlocked_27 : decode cX9_firstBlocked 27 = .ok (.aload_n 0, 1) := by decide +kernel
theorem dX9_firstBlocked_28 : decode cX9_firstBlocked 28 = .ok (.getfield 19, 3) := by decide +kernel
theorem dX9_firstBlocked_31 : decode cX9_firstBlocked 31 = .ok (.invokevirtual 122, 3) := by decide +kernel
theorem dX9_firstBlocked_34 : decode cX9_firstBlocked 34 = .ok (.istore_n 1, 1) := by decide +kernel
theorem dX9_firstBlocked_35 : decode cX9_firstBlocked 35 = .ok (.iconst 0, 1) := by decide +kernel
theorem dX9_firstBlocked_36 : decode cX9_firstBlocked 36 = .ok (.istore_n 2, 1) := by decide +kernel
theorem dX9_firstBlocked_37 : decode cX9_firstBlocked 37 = .ok (.iload_n 2, 1) := by decide +kernel
theorem dX9_firstBlocked_38 : decode cX9_firstBlocked 38 = .ok (.bipush 99, 2) := by decide +kernel
theorem dX9_firstBlocked_40 : decode cX9_firstBlocked 40 = .ok (.if_icmp .ge 54, 3) := by decide +kernel
theorem dX9_firstBlocked_43 : decode cX9_firstBlocked 43 = .ok (.aload_n 0, 1) := by decide +kernel
theorem dX9_firstBlocked_44 : decode cX9_firstBlocked 44 = .ok (.getfield 33, 3) := by decide +kernel
theorem dX9_firstBlocked_47 : decode cX9_firstBlocked 47 = .ok (.iconst 1, 1) := by decide +kernel
theorem dX9_firstBlocked_48 : decode cX9_firstBlocked 48 = .ok (.invokevirtual 186, 3) := by decide +kernel
theorem dX9_firstBlocked_51 : decode cX9_firstBlocked 51 = .ok (.pop, 1) := by decide +kernel
theorem dX9_firstBlocked_52 : decode cX9_firstBlocked 52 = .ok (.aload_n 0, 1) := by decide +kernel
theorem dX9_firstBlocked_53 : decode cX9_firstBlocked 53 = .ok (.getfield 33, 3) := by decide +kernel
theorem dX9_firstBlocked_56 : decode cX9_firstBlocked 56 = .ok (.aload_n 0, 1) := by decide +kernel
theorem dX9_firstBlocked_57 : decode cX9_firstBlocked 57 = .ok (.getfield 19, 3) := by decide +kernel
theorem dX9_firstBlocked_60 : decode cX9_firstBlocked 60 = .ok (.invokevirtual 193, 3) := by decide +kernel
theorem dX9_firstBlocked_63 : decode cX9_firstBlocked 63 = .ok (.aload_n 0, 1) := by decide +kernel
theorem dX9_firstBlocked_64 : decode cX9_firstBlocked 64 = .ok (.getfield 33, 3) := by decide +kernel
theorem dX9_firstBlocked_67 : decode cX9_firstBlocked 67 = .ok (.aload_n 0, 1) := by decide +kernel
theorem dX9_firstBlocked_68 : decode cX9_firstBlocked 68 = .ok (.getfield 19, 3) := by decide +kernel
theorem dX9_firstBlocked_71 : decode cX9_firstBlocked 71 = .ok (.invokevirtual 122, 3) := by decide +kernel
theorem dX9_firstBlocked_74 : decode cX9_firstBlocked 74 = .ok (.iload_n 1, 1) := by decide +kernel
theorem dX9_firstBlocked_75 : decode cX9_firstBlocked 75 = .ok (.iconst (-1), 1) := by decide +kernel
theorem dX9_firstBlocked_76 : decode cX9_firstBlocked 76 = .ok (.ixor, 1) := by decide +kernel
theorem dX9_firstBlocked_77 : decode cX9_firstBlocked 77 = .ok (.iand, 1) := by decide +kernel
theorem dX9_firstBlocked_78 : decode cX9_firstBlocked 78 = .ok (.istore_n 3, 1) := by decide +kernel
theorem dX9_firstBlocked_79 : decode cX9_firstBlocked 79 = .ok (.iload_n 3, 1) := by decide +kernel
theorem dX9_firstBlocked_80 : decode cX9_firstBlocked 80 = .ok (.ifCond .eq 8, 3) := by decide +kernel
theorem dX9_firstBlocked_83 : decode cX9_firstBlocked 83 = .ok (.iload_n 3, 1) := by decide +kernel
theorem dX9_firstBlocked_84 : decode cX9_firstBlocked 84 = .ok (.invokestatic 243, 3) := by decide +kernel
theorem dX9_firstBlocked_87 : decode cX9_firstBlocked 87 = .ok (.ireturn, 1) := by decide +kernel
theorem dX9_firstBlocked_88 : decode cX9_firstBlocked 88 = .ok (.iinc 2 1, 3) := by decide +kernel
theorem dX9_firstBlocked_91 : decode cX9_firstBlocked 91 = .ok (.goto (-54), 3) := by decide +kernel
theorem dX9_firstBlocked_94 : decode cX9_firstBlocked 94 = .ok (.iconst (-1), 1) := by decide +kernel
theorem dX9_firstBlocked_95 : decode cX9_firstBlocked 95 = .ok (.ireturn, 1) := by decide +kernel
theorem dX9_share_0 : decode cX9_share 0 = .ok (.aload_n 0, 1) := by decide +kernel
theorem dX9_share_1 : decode cX9_share 1 = .ok (.getfield 19, 3) := by decide +kernel
theorem dX9_share_4 : decode cX9_share 4 = .ok (.iload_n 1, 1) := by decide +kernel
theorem dX9_share_5 : decode cX9_share 5 = .ok (.invokevirtual 139, 3) := by decide +kernel
theorem dX9_share_8 : decode cX9_share 8 = .ok (.ifCond .ne 6, 3) := by decide +kernel
theorem dX9_share_11 : decode cX9_share 11 = .ok (.ldc 142, 2) := by decide +kernel
theorem dX9_share_13 : decode cX9_share 13 = .ok (.ireturn, 1) := by decide +kernel
theorem dX9_share_14 : decode cX9_share 14 = .ok (.iconst 0, 1) := by decide +kernel
theorem dX9_share_15 : decode cX9_share 15 = .ok (.istore_n 2, 1) := by decide +kernel
theorem dX9_share_16 : decode cX9_share 16 = .ok (.iconst 0, 1) := by decide +kernel
theorem dX9_share_17 : decode cX9_share 17 = .ok (.istore_n 3, 1) := by decide +kernel
theorem dX9_share_18 : decode cX9_share 18 = .ok (.iload_n 3, 1) := by decide +kernel
theorem dX9_share_19 : decode cX9_share 19 = .ok (.aload_n 0, 1) := by decide +kernel
theorem dX9_share_20 : decode cX9_share 20 = .ok (.getfield 19, 3) := by decide +kernel
theorem dX9_share_23 : decode cX9_share 23 = .ok (.getfield 104, 3) := by decide +kernel
theorem dX9_share_26 : decode cX9_share 26 = .ok (.if_icmp .ge 24, 3) := by decide +kernel
theorem dX9_share_29 : decode cX9_share 29 = .ok (.iload_n 2, 1) := by decide +kernel
theorem dX9_share_30 : decode cX9_share 30 = .ok (.aload_n 0, 1) := by decide +kernel
theorem dX9_share_31 : decode cX9_share 31 = .ok (.getfield 29, 3) := by decide +kernel
theorem dX9_share_34 : decode cX9_share 34 = .ok (.getfield 150, 3) := by decide +kernel
theorem dX9_share_37 : decode cX9_share 37 = .ok (.iload_n 3, 1) := by decide +kernel
theorem dX9_share_38 : decode cX9_share 38 = .ok (.iaload, 1) := by decide +kernel
theorem dX9_share_39 : decode cX9_share 39 = .ok (.invokestatic 224, 3) := by decide +kernel
theorem dX9_share_42 : decode cX9_share 42 = .ok (.iadd, 1) := by decide +kernel
theorem dX9_share_43 : decode cX9_share 43 = .ok (.istore_n 2, 1) := by decide +kernel
theorem dX9_share_44 : decode cX9_share 44 = .ok (.iinc 3 1, 3) := by decide +kernel
theorem dX9_share_47 : decode cX9_share 47 = .ok (.goto (-29), 3) := by decide +kernel
theorem dX9_share_50 : decode cX9_share 50 = .ok (.iload_n 2, 1) := by decide +kernel
theorem dX9_share_51 : decode cX9_share 51 = .ok (.ifCond .ne 7, 3) := by decide +kernel
theorem dX9_share_54 : decode cX9_share 54 = .ok (.iconst 0, 1) := by decide +kernel
theorem dX9_share_55 : decode cX9_share 55 = .ok (.goto 21, 3) := by decide +kernel
theorem dX9_share_58 : decode cX9_share 58 = .ok (.sipush 1000, 3) := by decide +kernel
theorem dX9_share_61 : decode cX9_share 61 = .ok (.aload_n 0, 1) := by decide +kernel
theorem dX9_share_62 : decode cX9_share 62 = .ok (.getfield 29, 3) := by decide +kernel
theorem dX9_share_65 : decode cX9_share 65 = .ok (.getfield 150, 3) := by decide +kernel
theorem dX9_share_68 : decode cX9_share 68 = .ok (.iload_n 1, 1) := by decide +kernel
theorem dX9_share_69 : decode cX9_share 69 = .ok (.iaload, 1) := by decide +kernel
theorem dX9_share_70 : decode cX9_share 70 = .ok (.invokestatic 224, 3) := by decide +kernel
theorem dX9_share_73 : decode cX9_share 73 = .ok (.imul, 1) := by decide +kernel
theorem dX9_share_74 : decode cX9_share 74 = .ok (.iload_n 2, 1) := by decide +kernel
theorem dX9_share_75 : decode cX9_share 75 = .ok (.idiv, 1) := by decide +kernel
theorem dX9_share_76 : decode cX9_share 76 = .ok (.ireturn, 1) := by decide +kernel
theorem dX9_frost_0 : decode cX9_frost 0 = .ok (.iload_n 1, 1) := by decide +kernel
theorem dX9_frost_1 : decode cX9_frost 1 = .ok (.ifCond .lt 19, 3) := by decide +kernel
theorem dX9_frost_4 : decode cX9_frost 4 = .ok (.iload_n 1, 1) := by decide +kernel
theorem dX9_frost_5 : decode cX9_frost 5 = .ok (.bipush 60, 2) := by decide +kernel
theorem dX9_frost_7 : decode cX9_frost 7 = .ok (.if_icmp .gt 13, 3) := by decide +kernel
theorem dX9_frost_10 : decode cX9_frost 10 = .ok (.iload_n 2, 1) := by decide +kernel
theorem dX9_frost_11 : decode cX9_frost 11 = .ok (.ifCond .lt 9, 3) := by decide +kernel
theorem dX9_frost_14 : decode cX9_frost 14 = .ok (.iload_n 2, 1) := by decide +kernel
theorem dX9_frost_15 : decode cX9_frost 15 = .ok (.bipush 100, 2) := by decide +kernel
theorem dX9_frost_17 : decode cX9_frost 17 = .ok (.if_icmp .le 6, 3) := by decide +kernel
theorem dX9_frost_20 : decode cX9_frost 20 = .ok (.ldc 75, 2) := by decide +kernel
theorem dX9_frost_22 : decode cX9_frost 22 = .ok (.ireturn, 1) := by decide +kernel
theorem dX9_frost_23 : decode cX9_frost 23 = .ok (.ldc2_w 246, 3) := by decide +kernel
theorem dX9_frost_26 : decode cX9_frost 26 = .ok (.lstore_n 3, 1) := by decide +kernel
theorem dX9_frost_27 : decode cX9_frost 27 = .ok (.iconst 0, 1) := by decide +kernel
theorem dX9_frost_28 : decode cX9_frost 28 = .ok (.istore 5, 2) := by decide +kernel
theorem dX9_frost_30 : decode cX9_frost 30 = .ok (.iload 5, 2) := by decide +kernel
theorem dX9_frost_32 : decode cX9_frost 32 = .ok (.iload_n 1, 1) := by decide +kernel
theorem dX9_frost_33 : decode cX9_frost 33 = .ok (.if_icmp .ge 21, 3) := by decide +kernel
theorem dX9_frost_36 : decode cX9_frost 36 = .ok (.lload_n 3, 1) := by decide +kernel
theorem dX9_frost_37 : decode cX9_frost 37 = .ok (.bipush 100, 2) := by decide +kernel
theorem dX9_frost_39 : decode cX9_frost 39 = .ok (.iload_n 2, 1) := by decide +kernel
theorem dX9_frost_40 : decode cX9_frost 40 = .ok (.isub, 1) := by decide +kernel
theorem dX9_frost_41 : decode cX9_frost 41 = .ok (.i2l, 1) := by decide +kernel
theorem dX9_frost_42 : decode cX9_frost 42 = .ok (.lmul, 1) := by decide +kernel
theorem dX9_frost_43 : decode cX9_frost 43 = .ok (.ldc2_w 248, 3) := by decide +kernel
theorem dX9_frost_46 : decode cX9_frost 46 = .ok (.ldiv, 1) := by decide +kernel
theorem dX9_frost_47 : decode cX9_frost 47 = .ok (.lstore_n 3, 1) := by decide +kernel
theorem dX9_frost_48 : decode cX9_frost 48 = .ok (.iinc 5 1, 3) := by decide +kernel
theorem dX9_frost_51 : decode cX9_frost 51 = .ok (.goto (-21), 3) := by decide +kernel
theorem dX9_frost_54 : decode cX9_frost 54 = .ok (.lload_n 3, 1) := by decide +kernel
theorem dX9_frost_55 : decode cX9_frost 55 = .ok (.l2i, 1) := by decide +kernel
theorem dX9_frost_56 : decode cX9_frost 56 = .ok (.ireturn, 1) := by decide +kernel
theorem dX9_drip_0 : decode cX9_drip 0 = .ok (.aload_n 0, 1) := by decide +kernel
theorem dX9_drip_1 : decode cX9_drip 1 = .ok (.getfield 19, 3) := by decide +kernel
theorem dX9_drip_4 : decode cX9_drip 4 = .ok (.iload_n 1, 1) := by decide +kernel
theorem dX9_drip_5 : decode cX9_drip 5 = .ok (.invokevirtual 139, 3) := by decide +kernel
theorem dX9_drip_8 : decode cX9_drip 8 = .ok (.ifCond .eq 10, 3) := by decide +kernel
theorem dX9_drip_11 : decode cX9_drip 11 = .ok (.iload_n 2, 1) := by decide +kernel
theorem dX9_drip_12 : decode cX9_drip 12 = .ok (.invokestatic 175, 3) := by decide +kernel
theorem dX9_drip_15 : decode cX9_drip 15 = .ok (.ifCond .ne 6, 3) := by decide +kernel
theorem dX9_drip_18 : decode cX9_drip 18 = .ok (.ldc 142, 2) := by decide +kernel
theorem dX9_drip_20 : decode cX9_drip 20 = .ok (.ireturn, 1) := by decide +kernel
theorem dX9_drip_21 : decode cX9_drip 21 = .ok (.iload_n 3, 1) := by decide +kernel
theorem dX9_drip_22 : decode cX9_drip 22 = .ok (.ifCond .lt 9, 3) := by decide +kernel
theorem dX9_drip_25 : decode cX9_drip 25 = .ok (.iload_n 3, 1) := by decide +kernel
theorem dX9_drip_26 : decode cX9_drip 26 = .ok (.bipush 60, 2) := by decide +kernel
theorem dX9_drip_28 : decode cX9_drip 28 = .ok (.if_icmp .le 12, 3) := by decide +kernel
theorem dX9_drip_31 : decode cX9_drip 31 = .ok (.iload_n 3, 1) := by decide +kernel
theorem dX9_drip_32 : decode cX9_drip 32 = .ok (.bipush 99, 2) := by decide +kernel
theorem dX9_drip_34 : decode cX9_drip 34 = .ok (.if_icmp .eq 6, 3) := by decide +kernel
theorem dX9_drip_37 : decode cX9_drip 37 = .ok (.ldc 75, 2) := by decide +kernel
theorem dX9_drip_39 : decode cX9_drip 39 = .ok (.ireturn, 1) := by decide +kernel
theorem dX9_drip_40 : decode cX9_drip 40 = .ok (.aload_n 0, 1) := by decide +kernel
theorem dX9_drip_41 : decode cX9_drip 41 = .ok (.getfield 52, 3) := by decide +kernel
theorem dX9_drip_44 : decode cX9_drip 44 = .ok (.iload_n 1, 1) := by decide +kernel
theorem dX9_drip_45 : decode cX9_drip 45 = .ok (.iload_n 2, 1) := by decide +kernel
theorem dX9_drip_46 : decode cX9_drip 46 = .ok (.iload_n 3, 1) := by decide +kernel
theorem dX9_drip_47 : decode cX9_drip 47 = .ok (.invokevirtual 250, 3) := by decide +kernel
theorem dX9_drip_50 : decode cX9_drip 50 = .ok (.ifCond .eq 13, 3) := by decide +kernel
theorem dX9_drip_53 : decode cX9_drip 53 = .ok (.aload_n 0, 1) := by decide +kernel
theorem dX9_drip_54 : decode cX9_drip 54 = .ok (.getfield 52, 3) := by decide +kernel
theorem dX9_drip_57 : decode cX9_drip 57 = .ok (.getfield 130, 3) := by decide +kernel
theorem dX9_drip_60 : decode cX9_drip 60 = .ok (.goto 5, 3) := by decide +kernel
theorem dX9_drip_63 : decode cX9_drip 63 = .ok (.ldc 83, 2) := by decide +kernel
theorem dX9_drip_65 : decode cX9_drip 65 = .ok (.ireturn, 1) := by decide +kernel
theorem dX9_cracked_0 : decode cX9_cracked 0 = .ok (.aload_n 0, 1) := by decide +kernel
theorem dX9_cracked_1 : decode cX9_cracked 1 = .ok (.getfield 19, 3) := by decide +kernel
theorem dX9_cracked_4 : decode cX9_cracked 4 = .ok (.iload_n 1, 1) := by decide +kernel
theorem dX9_cracked_5 : decode cX9_cracked 5 = .ok (.invokevirtual 139, 3) := by decide +kernel
theorem dX9_cracked_8 : decode cX9_cracked 8 = .ok (.ifCond .ne 6, 3) := by decide +kernel
theorem dX9_cracked_11 : decode cX9_cracked 11 = .ok (.ldc 142, 2) := by decide +kernel
theorem dX9_cracked_13 : decode cX9_cracked 13 = .ok (.ireturn, 1) := by decide +kernel
theorem dX9_cracked_14 : decode cX9_cracked 14 = .ok (.aload_n 0, 1) := by decide +kernel
theorem dX9_cracked_15 : decode cX9_cracked 15 = .ok (.getfield 59, 3) := by decide +kernel
theorem dX9_cracked_18 : decode cX9_cracked 18 = .ok (.aload_n 0, 1) := by decide +kernel
theorem dX9_cracked_19 : decode cX9_cracked 19 = .ok (.getfield 19, 3) := by decide +kernel
theorem dX9_cracked_22 : decode cX9_cracked 22 = .ok (.aload_n 0, 1) := by decide +kernel
theorem dX9_cracked_23 : decode cX9_cracked 23 = .ok (.getfield 29, 3) := by decide +kernel
theorem dX9_cracked_26 : decode cX9_cracked 26 = .ok (.aload_n 0, 1) := by decide +kernel
theorem dX9_cracked_27 : decode cX9_cracked 27 = .ok (.getfield 52, 3) := by decide +kernel
theorem dX9_cracked_30 : decode cX9_cracked 30 = .ok (.iload_n 1, 1) := by decide +kernel
theorem dX9_cracked_31 : decode cX9_cracked 31 = .ok (.invokevirtual 254, 3) := by decide +kernel
theorem dX9_cracked_34 : decode cX9_cracked 34 = .ok (.ireturn, 1) := by decide +kernel
theorem dX9_listen_0 : decode cX9_listen 0 = .ok (.aload_n 0, 1) := by decide +kernel
theorem dX9_listen_1 : decode cX9_listen 1 = .ok (.getfield 19, 3) := by decide +kernel
theorem dX9_listen_4 : decode cX9_listen 4 = .ok (.iload_n 1, 1) := by decide +kernel
theorem dX9_listen_5 : decode cX9_listen 5 = .ok (.invokevirtual 139, 3) := by decide +kernel
theorem dX9_listen_8 : decode cX9_listen 8 = .ok (.ifCond .ne 6, 3) := by decide +kernel
theorem dX9_listen_11 : decode cX9_listen 11 = .ok (.ldc 142, 2) := by decide +kernel
theorem dX9_listen_13 : decode cX9_listen 13 = .ok (.ireturn, 1) := by decide +kernel
theorem dX9_listen_14 : decode cX9_listen 14 = .ok (.aload_n 0, 1) := by decide +kernel
theorem dX9_listen_15 : decode cX9_listen 15 = .ok (.getfield 59, 3) := by decide +kernel
theorem dX9_listen_18 : decode cX9_listen 18 = .ok (.aload_n 0, 1) := by decide +kernel
theorem dX9_listen_19 : decode cX9_listen 19 = .ok (.getfield 19, 3) := by decide +kernel
theorem dX9_listen_22 : decode cX9_listen 22 = .ok (.aload_n 0, 1) := by decide +kernel
theorem dX9_listen_23 : decode cX9_listen 23 = .ok (.getfield 29, 3) := by decide +kernel
theorem dX9_listen_26 : decode cX9_listen 26 = .ok (.aload_n 0, 1) := by decide +kernel
theorem dX9_listen_27 : decode cX9_listen 27 = .ok (.getfield 52, 3) := by decide +kernel
theorem dX9_listen_30 : decode cX9_listen 30 = .ok (.iload_n 1, 1) := by decide +kernel
theorem dX9_listen_31 : decode cX9_listen 31 = .ok (.invokevirtual 254, 3) := by decide +kernel
theorem dX9_listen_34 : decode cX9_listen 34 = .ok (.istore_n 2, 1) := by decide +kernel
theorem dX9_listen_35 : decode cX9_listen 35 = .ok (.aload_n 0, 1) := by decide +kernel
theorem dX9_listen_36 : decode cX9_listen 36 = .ok (.getfield 59, 3) := by decide +kernel
theorem dX9_listen_39 : decode cX9_listen 39 = .ok (.aload_n 0, 1) := by decide +kernel
theorem dX9_listen_40 : decode cX9_listen 40 = .ok (.getfield 19, 3) := by decide +kernel
theorem dX9_listen_43 : decode cX9_listen 43 = .ok (.aload_n 0, 1) := by decide +kernel
theorem dX9_listen_44 : decode cX9_listen 44 = .ok (.getfield 29, 3) := by decide +kernel
theorem dX9_listen_47 : decode cX9_listen 47 = .ok (.iload_n 2, 1) := by decide +kernel
theorem dX9_listen_48 : decode cX9_listen 48 = .ok (.iload_n 1, 1) := by decide +kernel
theorem dX9_listen_49 : decode cX9_listen 49 = .ok (.invokevirtual 258, 3) := by decide +kernel
theorem dX9_listen_52 : decode cX9_listen 52 = .ok (.ireturn, 1) := by decide +kernel
theorem dX9_write_0 : decode cX9_write 0 = .ok (.aload_n 0, 1) := by decide +kernel
theorem dX9_write_1 : decode cX9_write 1 = .ok (.getfield 19, 3) := by decide +kernel
theorem dX9_write_4 : decode cX9_write 4 = .ok (.iload_n 1, 1) := by decide +kernel
theorem dX9_write_5 : decode cX9_write 5 = .ok (.invokevirtual 139, 3) := by decide +kernel
theorem dX9_write_8 : decode cX9_write 8 = .ok (.ifCond .ne 6, 3) := by decide +kernel
theorem dX9_write_11 : decode cX9_write 11 = .ok (.ldc 142, 2) := by decide +kernel
theorem dX9_write_13 : decode cX9_write 13 = .ok (.ireturn, 1) := by decide +kernel
theorem dX9_write_14 : decode cX9_write 14 = .ok (.iload_n 2, 1) := by decide +kernel
theorem dX9_write_15 : decode cX9_write 15 = .ok (.ifCond .lt 10, 3) := by decide +kernel
theorem dX9_write_18 : decode cX9_write 18 = .ok (.iload_n 2, 1) := by decide +kernel
theorem dX9_write_19 : decode cX9_write 19 = .ok (.sipush 255, 3) := by decide +kernel
theorem dX9_write_22 : decode cX9_write 22 = .ok (.if_icmp .le 6, 3) := by decide +kernel
theorem dX9_write_25 : decode cX9_write 25 = .ok (.ldc 75, 2) := by decide +kernel
theorem dX9_write_27 : decode cX9_write 27 = .ok (.ireturn, 1) := by decide +kernel
theorem dX9_write_28 : decode cX9_write 28 = .ok (.aload_n 0, 1) := by decide +kernel
theorem dX9_write_29 : decode cX9_write 29 = .ok (.getfield 52, 3) := by decide +kernel
theorem dX9_write_32 : decode cX9_write 32 = .ok (.iload_n 1, 1) := by decide +kernel
theorem dX9_write_33 : decode cX9_write 33 = .ok (.iload_n 2, 1) := by decide +kernel
theorem dX9_write_34 : decode cX9_write 34 = .ok (.invokevirtual 262, 3) := by decide +kernel
theorem dX9_write_37 : decode cX9_write 37 = .ok (.ifCond .eq 13, 3) := by decide +kernel
theorem dX9_write_40 : decode cX9_write 40 = .ok (.aload_n 0, 1) := by decide +kernel
theorem dX9_write_41 : decode cX9_write 41 = .ok (.getfield 52, 3) := by decide +kernel
theorem dX9_write_44 : decode cX9_write 44 = .ok (.getfield 133, 3) := by decide +kernel
theorem dX9_write_47 : decode cX9_write 47 = .ok (.goto 5, 3) := by decide +kernel
theorem dX9_write_50 : decode cX9_write 50 = .ok (.ldc 83, 2) := by decide +kernel
theorem dX9_write_52 : decode cX9_write 52 = .ok (.ireturn, 1) := by decide +kernel
theorem dX9_tear_0 : decode cX9_tear 0 = .ok (.aload_n 0, 1) := by decide +kernel
theorem dX9_tear_1 : decode cX9_tear 1 = .ok (.getfield 52, 3) := by decide +kernel
theorem dX9_tear_4 : decode cX9_tear 4 = .ok (.getfield 130, 3) := by decide +kernel
theorem dX9_tear_7 : decode cX9_tear 7 = .ok (.aload_n 0, 1) := by decide +kernel
theorem dX9_tear_8 : decode cX9_tear 8 = .ok (.getfield 52, 3) := by decide +kernel
theorem dX9_tear_11 : decode cX9_tear 11 = .ok (.getfield 133, 3) := by decide +kernel
theorem dX9_tear_14 : decode cX9_tear 14 = .ok (.iadd, 1) := by decide +kernel
theorem dX9_tear_15 : decode cX9_tear 15 = .ok (.istore_n 1, 1) := by decide +kernel
theorem dX9_tear_16 : decode cX9_tear 16 = .ok (.aload_n 0, 1) := by decide +kernel
theorem dX9_tear_17 : decode cX9_tear 17 = .ok (.getfield 52, 3) := by decide +kernel
theorem dX9_tear_20 : decode cX9_tear 20 = .ok (.invokevirtual 97, 3) := by decide +kernel
theorem dX9_tear_23 : decode cX9_tear 23 = .ok (.iload_n 1, 1) := by decide +kernel
theorem dX9_tear_24 : decode cX9_tear 24 = .ok (.ireturn, 1) := by decide +kernel
theorem dX9_judge_0 : decode cX9_judge 0 = .ok (.aload_n 0, 1) := by decide +kernel
theorem dX9_judge_1 : decode cX9_judge 1 = .ok (.getfield 52, 3) := by decide +kernel
theorem dX9_judge_4 : decode cX9_judge 4 = .ok (.aload_n 0, 1) := by decide +kernel
theorem dX9_judge_5 : decode cX9_judge 5 = .ok (.getfield 29, 3) := by decide +kernel
theorem dX9_judge_8 : decode cX9_judge 8 = .ok (.invokevirtual 265, 3) := by decide +kernel
theorem dX9_judge_11 : decode cX9_judge 11 = .ok (.ireturn, 1) := by decide +kernel
theorem dX9_seed_0 : decode cX9_seed 0 = .ok (.iload_n 1, 1) := by decide +kernel
theorem dX9_seed_1 : decode cX9_seed 1 = .ok (.ifCond .ge 6, 3) := by decide +kernel
theorem dX9_seed_4 : decode cX9_seed 4 = .ok (.ldc 75, 2) := by decide +kernel
theorem dX9_seed_6 : decode cX9_seed 6 = .ok (.ireturn, 1) := by decide +kernel
theorem dX9_seed_7 : decode cX9_seed 7 = .ok (.aload_n 0, 1) := by decide +kernel
theorem dX9_seed_8 : decode cX9_seed 8 = .ok (.getfield 70, 3) := by decide +kernel
theorem dX9_seed_11 : decode cX9_seed 11 = .ok (.istore_n 2, 1) := by decide +kernel
theorem dX9_seed_12 : decode cX9_seed 12 = .ok (.aload_n 0, 1) := by decide +kernel
theorem dX9_seed_13 : decode cX9_seed 13 = .ok (.iload_n 1, 1) := by decide +kernel
theorem dX9_seed_14 : decode cX9_seed 14 = .ok (.putfield 70, 3) := by decide +kernel
theorem dX9_seed_17 : decode cX9_seed 17 = .ok (.iload_n 2, 1) := by decide +kernel
theorem dX9_seed_18 : decode cX9_seed 18 = .ok (.ireturn, 1) := by decide +kernel
theorem dX9_keep_0 : decode cX9_keep 0 = .ok (.iload_n 1, 1) := by decide +kernel
theorem dX9_keep_1 : decode cX9_keep 1 = .ok (.ifCond .lt 12, 3) := by decide +kernel
theorem dX9_keep_4 : decode cX9_keep 4 = .ok (.iload_n 1, 1) := by decide +kernel
theorem dX9_keep_5 : decode cX9_keep 5 = .ok (.aload_n 0, 1) := by decide +kernel
theorem dX9_keep_6 : decode cX9_keep 6 = .ok (.getfield 45, 3) := by decide +kernel
theorem dX9_keep_9 : decode cX9_keep 9 = .ok (.arraylength, 1) := by decide +kernel
theorem dX9_keep_10 : decode cX9_keep 10 = .ok (.if_icmp .lt 6, 3) := by decide +kernel
theorem dX9_keep_13 : decode cX9_keep 13 = .ok (.ldc 142, 2) := by decide +kernel
theorem dX9_keep_15 : decode cX9_keep 15 = .ok (.ireturn, 1) := by decide +kernel
theorem dX9_keep_16 : decode cX9_keep 16 = .ok (.aload_n 0, 1) := by decide +kernel
theorem dX9_keep_17 : decode cX9_keep 17 = .ok (.getfield 45, 3) := by decide +kernel
theorem dX9_keep_20 : decode cX9_keep 20 = .ok (.iload_n 1, 1) := by decide +kernel
theorem dX9_keep_21 : decode cX9_keep 21 = .ok (.aaload, 1) := by decide +kernel
theorem dX9_keep_22 : decode cX9_keep 22 = .ok (.getfield 269, 3) := by decide +kernel
theorem dX9_keep_25 : decode cX9_keep 25 = .ok (.aload_n 0, 1) := by decide +kernel
theorem dX9_keep_26 : decode cX9_keep 26 = .ok (.getfield 29, 3) := by decide +kernel
theorem dX9_keep_29 : decode cX9_keep 29 = .ok (.invokevirtual 240, 3) := by decide +kernel
theorem dX9_keep_32 : decode cX9_keep 32 = .ok (.aload_n 0, 1) := by decide +kernel
theorem dX9_keep_33 : decode cX9_keep 33 = .ok (.getfield 45, 3) := by decide +kernel
theorem dX9_keep_36 : decode cX9_keep 36 = .ok (.iload_n 1, 1) := by decide +kernel
theorem dX9_keep_37 : decode cX9_keep 37 = .ok (.aaload, 1) := by decide +kernel
theorem dX9_keep_38 : decode cX9_keep 38 = .ok (.aload_n 0, 1) := by decide +kernel
theorem dX9_keep_39 : decode cX9_keep 39 = .ok (.getfield 70, 3) := by decide +kernel
theorem dX9_keep_42 : decode cX9_keep 42 = .ok (.putfield 270, 3) := by decide +kernel
theorem dX9_keep_45 : decode cX9_keep 45 = .ok (.aload_n 0, 1) := by decide +kernel
theorem dX9_keep_46 : decode cX9_keep 46 = .ok (.getfield 45, 3) := by decide +kernel
theorem dX9_keep_49 : decode cX9_keep 49 = .ok (.iload_n 1, 1) := by decide +kernel
theorem dX9_keep_50 : decode cX9_keep 50 = .ok (.aaload, 1) := by decide +kernel
theorem dX9_keep_51 : decode cX9_keep 51 = .ok (.iconst 1, 1) := by decide +kernel
theorem dX9_keep_52 : decode cX9_keep 52 = .ok (.putfield 100, 3) := by decide +kernel
theorem dX9_keep_55 : decode cX9_keep 55 = .ok (.aload_n 0, 1) := by decide +kernel
theorem dX9_keep_56 : decode cX9_keep 56 = .ok (.getfield 39, 3) := by decide +kernel
theorem dX9_keep_59 : decode cX9_keep 59 = .ok (.invokevirtual 94, 3) := by decide +kernel
theorem dX9_keep_62 : decode cX9_keep 62 = .ok (.iconst 1, 1) := by decide +kernel
theorem dX9_keep_63 : decode cX9_keep 63 = .ok (.ireturn, 1) := by decide +kernel
theorem dX9_goBack_0 : decode cX9_goBack 0 = .ok (.iload_n 1, 1) := by decide +kernel
theorem dX9_goBack_1 : decode cX9_goBack 1 = .ok (.ifCond .lt 12, 3) := by decide +kernel
theorem dX9_goBack_4 : decode cX9_goBack 4 = .ok (.iload_n 1, 1) := by decide +kernel
theorem dX9_goBack_5 : decode cX9_goBack 5 = .ok (.aload_n 0, 1) := by decide +kernel
theorem dX9_goBack_6 : decode cX9_goBack 6 = .ok (.getfield 45, 3) := by decide +kernel
theorem dX9_goBack_9 : decode cX9_goBack 9 = .ok (.arraylength, 1) := by decide +kernel
theorem dX9_goBack_10 : decode cX9_goBack 10 = .ok (.if_icmp .lt 6, 3) := by decide +kernel
theorem dX9_goBack_13 : decode cX9_goBack 13 = .ok (.ldc 142, 2) := by decide +kernel
theorem dX9_goBack_15 : decode cX9_goBack 15 = .ok (.ireturn, 1) := by decide +kernel
theorem dX9_goBack_16 : decode cX9_goBack 16 = .ok (.aload_n 0, 1) := by decide +kernel
theorem dX9_goBack_17 : decode cX9_goBack 17 = .ok (.getfield 45, 3) := by decide +kernel
theorem dX9_goBack_20 : decode cX9_goBack 20 = .ok (.iload_n 1, 1) := by decide +kernel
theorem dX9_goBack_21 : decode cX9_goBack 21 = .ok (.aaload, 1) := by decide +kernel
theorem dX9_goBack_22 : decode cX9_goBack 22 = .ok (.getfield 100, 3) := by decide +kernel
theorem dX9_goBack_25 : decode cX9_goBack 25 = .ok (.ifCond .ne 6, 3) := by decide +kernel
theorem dX9_goBack_28 : decode cX9_goBack 28 = .ok (.ldc 181, 2) := by decide +kernel
theorem dX9_goBack_30 : decode cX9_goBack 30 = .ok (.ireturn, 1) := by decide +kernel
theorem dX9_goBack_31 : decode cX9_goBack 31 = .ok (.aload_n 0, 1) := by decide +kernel
theorem dX9_goBack_32 : decode cX9_goBack 32 = .ok (.getfield 29, 3) := by decide +kernel
theorem dX9_goBack_35 : decode cX9_goBack 35 = .ok (.aload_n 0, 1) := by decide +kernel
theorem dX9_goBack_36 : decode cX9_goBack 36 = .ok (.getfield 45, 3) := by decide +kernel
theorem dX9_goBack_39 : decode cX9_goBack 39 = .ok (.iload_n 1, 1) := by decide +kernel
theorem dX9_goBack_40 : decode cX9_goBack 40 = .ok (.aaload, 1) := by decide +kernel
theorem dX9_goBack_41 : decode cX9_goBack 41 = .ok (.getfield 269, 3) := by decide +kernel
theorem dX9_goBack_44 : decode cX9_goBack 44 = .ok (.invokevirtual 240, 3) := by decide +kernel
theorem dX9_goBack_47 : decode cX9_goBack 47 = .ok (.aload_n 0, 1) := by decide +kernel
theorem dX9_goBack_48 : decode cX9_goBack 48 = .ok (.aload_n 0, 1) := by decide +kernel
theorem dX9_goBack_49 : decode cX9_goBack 49 = .ok (.getfield 45, 3) := by decide +kernel
theorem dX9_goBack_52 : decode cX9_goBack 52 = .ok (.iload_n 1, 1) := by decide +kernel
theorem dX9_goBack_53 : decode cX9_goBack 53 = .ok (.aaload, 1) := by decide +kernel
theorem dX9_goBack_54 : decode cX9_goBack 54 = .ok (.getfield 270, 3) := by decide +kernel
theorem dX9_goBack_57 : decode cX9_goBack 57 = .ok (.putfield 70, 3) := by decide +kernel
theorem dX9_goBack_60 : decode cX9_goBack 60 = .ok (.aload_n 0, 1) := by decide +kernel
theorem dX9_goBack_61 : decode cX9_goBack 61 = .ok (.getfield 39, 3) := by decide +kernel
theorem dX9_goBack_64 : decode cX9_goBack 64 = .ok (.invokevirtual 94, 3) := by decide +kernel
theorem dX9_goBack_67 : decode cX9_goBack 67 = .ok (.iconst 1, 1) := by decide +kernel
theorem dX9_goBack_68 : decode cX9_goBack 68 = .ok (.ireturn, 1) := by decide +kernel
theorem dX9_isSaying_0 : decode cX9_isSaying 0 = .ok (.iload_n 0, 1) := by decide +kernel
theorem dX9_isSaying_1 : decode cX9_isSaying 1 = .ok (.ifCond .lt 13, 3) := by decide +kernel
theorem dX9_isSaying_4 : decode cX9_isSaying 4 = .ok (.iload_n 0, 1) := by decide +kernel
theorem dX9_isSaying_5 : decode cX9_isSaying 5 = .ok (.bipush 8, 2) := by decide +kernel
theorem dX9_isSaying_7 : decode cX9_isSaying 7 = .ok (.if_icmp .ge 7, 3) := by decide +kernel
theorem dX9_isSaying_10 : decode cX9_isSaying 10 = .ok (.iconst 1, 1) := by decide +kernel
theorem dX9_isSaying_11 : decode cX9_isSaying 11 = .ok (.goto 4, 3) := by decide +kernel
theorem dX9_isSaying_14 : decode cX9_isSaying 14 = .ok (.iconst 0, 1) := by decide +kernel
theorem dX9_isSaying_15 : decode cX9_isSaying 15 = .ok (.ireturn, 1) := by decide +kernel
theorem dX9_has_0 : decode cX9_has 0 = .ok (.iload_n 0, 1) := by decide +kernel
theorem dX9_has_1 : decode cX9_has 1 = .ok (.iload_n 1, 1) := by decide +kernel
theorem dX9_has_2 : decode cX9_has 2 = .ok (.ishr, 1) := by decide +kernel
theorem dX9_has_3 : decode cX9_has 3 = .ok (.iconst 1, 1) := by decide +kernel
theorem dX9_has_4 : decode cX9_has 4 = .ok (.iand, 1) := by decide +kernel
theorem dX9_has_5 : decode cX9_has 5 = .ok (.iconst 1, 1) := by decide +kernel
theorem dX9_has_6 : decode cX9_has 6 = .ok (.if_icmp .ne 7, 3) := by decide +kernel
theorem dX9_has_9 : decode cX9_has 9 = .ok (.iconst 1, 1) := by decide +kernel
theorem dX9_has_10 : decode cX9_has 10 = .ok (.goto 4, 3) := by decide +kernel
theorem dX9_has_13 : decode cX9_has 13 = .ok (.iconst 0, 1) := by decide +kernel
theorem dX9_has_14 : decode cX9_has 14 = .ok (.ireturn, 1) := by decide +kernel
theorem dX9_refusalOfHours_0 : decode cX9_refusalOfHours 0 = .ok (.iload_n 1, 1) := by decide +kernel
theorem dX9_refusalOfHours_1 : decode cX9_refusalOfHours 1 = .ok (.iconst 1, 1) := by decide +kernel
theorem dX9_refusalOfHours_2 : decode cX9_refusalOfHours 2 = .ok (.if_icmp .lt 9, 3) := by decide +kernel
theorem dX9_refusalOfHours_5 : decode cX9_refusalOfHours 5 = .ok (.iload_n 1, 1) := by decide +kernel
theorem dX9_refusalOfHours_6 : decode cX9_refusalOfHours 6 = .ok (.bipush 60, 2) := by decide +kernel
theorem dX9_refusalOfHours_8 : decode cX9_refusalOfHours 8 = .ok (.if_icmp .le 6, 3) := by decide +kernel
theorem dX9_refusalOfHours_11 : decode cX9_refusalOfHours 11 = .ok (.ldc 75, 2) := by decide +kernel
theorem dX9_refusalOfHours_13 : decode cX9_refusalOfHours 13 = .ok (.ireturn, 1) := by decide +kernel
theorem dX9_refusalOfHours_14 : decode cX9_refusalOfHours 14 = .ok (.aload_n 0, 1) := by decide +kernel
theorem dX9_refusalOfHours_15 : decode cX9_refusalOfHours 15 = .ok (.getfield 19, 3) := by decide +kernel
theorem dX9_refusalOfHours_18 : decode cX9_refusalOfHours 18 = .ok (.getfield 104, 3) := by decide +kernel
theorem dX9_refusalOfHours_21 : decode cX9_refusalOfHours 21 = .ok (.ifCond .ne 6, 3) := by decide +kernel
theorem dX9_refusalOfHours_24 : decode cX9_refusalOfHours 24 = .ok (.ldc 181, 2) := by decide +kernel
theorem dX9_refusalOfHours_26 : decode cX9_refusalOfHours 26 = .ok (.ireturn, 1) := by decide +kernel
theorem dX9_refusalOfHours_27 : decode cX9_refusalOfHours 27 = .ok (.aload_n 0, 1) := by decide +kernel
theorem dX9_refusalOfHours_28 : decode cX9_refusalOfHours 28 = .ok (.getfield 29, 3) := by decide +kernel
theorem dX9_refusalOfHours_31 : decode cX9_refusalOfHours 31 = .ok (.getfield 116, 3) := by decide +kernel
theorem dX9_refusalOfHours_34 : decode cX9_refusalOfHours 34 = .ok (.sipush 9000, 3) := by decide +kernel
theorem dX9_refusalOfHours_37 : decode cX9_refusalOfHours 37 = .ok (.if_icmp .le 8, 3) := by decide +kernel
theorem dX9_refusalOfHours_40 : decode cX9_refusalOfHours 40 = .ok (.ldc 83, 2) := by decide +kernel
theorem dX9_refusalOfHours_42 : decode cX9_refusalOfHours 42 = .ok (.goto 4, 3) := by decide +kernel
theorem dX9_refusalOfHours_45 : decode cX9_refusalOfHours 45 = .ok (.iconst 0, 1) := by decide +kernel
theorem dX9_refusalOfHours_46 : decode cX9_refusalOfHours 46 = .ok (.ireturn, 1) := by decide +kernel
theorem dX9_refusalOfTry_0 : decode cX9_refusalOfTry 0 = .ok (.aload_n 0, 1) := by decide +kernel
theorem dX9_refusalOfTry_1 : decode cX9_refusalOfTry 1 = .ok (.getfield 19, 3) := by decide +kernel
theorem dX9_refusalOfTry_4 : decode cX9_refusalOfTry 4 = .ok (.iload_n 2, 1) := by decide +kernel
theorem dX9_refusalOfTry_5 : decode cX9_refusalOfTry 5 = .ok (.invokevirtual 139, 3) := by decide +kernel
theorem dX9_refusalOfTry_8 : decode cX9_refusalOfTry 8 = .ok (.ifCond .ne 6, 3) := by decide +kernel
theorem dX9_refusalOfTry_11 : decode cX9_refusalOfTry 11 = .ok (.ldc 142, 2) := by decide +kernel
theorem dX9_refusalOfTry_13 : decode cX9_refusalOfTry 13 = .ok (.ireturn, 1) := by decide +kernel
theorem dX9_refusalOfTry_14 : decode cX9_refusalOfTry 14 = .ok (.iload_n 1, 1) := by decide +kernel
theorem dX9_refusalOfTry_15 : decode cX9_refusalOfTry 15 = .ok (.ifCond .lt 10, 3) := by decide +kernel
theorem dX9_refusalOfTry_18 : decode cX9_refusalOfTry 18 = .ok (.iload_n 1, 1) := by decide +kernel
theorem dX9_refusalOfTry_19 : decode cX9_refusalOfTry 19 = .ok (.sipush 255, 3) := by decide +kernel
theorem dX9_refusalOfTry_22 : decode cX9_refusalOfTry 22 = .ok (.if_icmp .le 8, 3) := by decide +kernel
theorem dX9_refusalOfTry_25 : decode cX9_refusalOfTry 25 = .ok (.ldc 75, 2) := by decide +kernel
theorem dX9_refusalOfTry_27 : decode cX9_refusalOfTry 27 = .ok (.goto 4, 3) := by decide +kernel
theorem dX9_refusalOfTry_30 : decode cX9_refusalOfTry 30 = .ok (.iconst 0, 1) := by decide +kernel
theorem dX9_refusalOfTry_31 : decode cX9_refusalOfTry 31 = .ok (.ireturn, 1) := by decide +kernel
theorem dX9_tryOut_0 : decode cX9_tryOut 0 = .ok (.aload_n 0, 1) := by decide +kernel
theorem dX9_tryOut_1 : decode cX9_tryOut 1 = .ok (.getfield 33, 3) := by decide +kernel
theorem dX9_tryOut_4 : decode cX9_tryOut 4 = .ok (.aload_n 0, 1) := by decide +kernel
theorem dX9_tryOut_5 : decode cX9_tryOut 5 = .ok (.getfield 29, 3) := by decide +kernel
theorem dX9_tryOut_8 : decode cX9_tryOut 8 = .ok (.invokevirtual 240, 3) := by decide +kernel
theorem dX9_tryOut_11 : decode cX9_tryOut 11 = .ok (.aload_n 0, 1) := by decide +kernel
theorem dX9_tryOut_12 : decode cX9_tryOut 12 = .ok (.getfield 33, 3) := by decide +kernel
theorem dX9_tryOut_15 : decode cX9_tryOut 15 = .ok (.invokevirtual 196, 3) := by decide +kernel
theorem dX9_tryOut_18 : decode cX9_tryOut 18 = .ok (.aload_n 0, 1) := by decide +kernel
theorem dX9_tryOut_19 : decode cX9_tryOut 19 = .ok (.getfield 33, 3) := by decide +kernel
theorem dX9_tryOut_22 : decode cX9_tryOut 22 = .ok (.iconst 0, 1) := by decide +kernel
theorem dX9_tryOut_23 : decode cX9_tryOut 23 = .ok (.putfield 116, 3) := by decide +kernel
theorem dX9_tryOut_26 : decode cX9_tryOut 26 = .ok (.aload_n 0, 1) := by decide +kernel
theorem dX9_tryOut_27 : decode cX9_tryOut 27 = .ok (.getfield 33, 3) := by decide +kernel
theorem dX9_tryOut_30 : decode cX9_tryOut 30 = .ok (.iload_n 1, 1) := by decide +kernel
theorem dX9_tryOut_31 : decode cX9_tryOut 31 = .ok (.invokevirtual 186, 3) := by decide +kernel
theorem dX9_tryOut_34 : decode cX9_tryOut 34 = .ok (.pop, 1) := by decide +kernel
theorem dX9_tryOut_35 : decode cX9_tryOut 35 = .ok (.iconst 0, 1) := by decide +kernel
theorem dX9_tryOut_36 : decode cX9_tryOut 36 = .ok (.istore_n 2, 1) := by decide +kernel
theorem dX9_tryOut_37 : decode cX9_tryOut 37 = .ok (.iload_n 2, 1) := by decide +kernel
theorem dX9_tryOut_38 : decode cX9_tryOut 38 = .ok (.bipush 60, 2) := by decide +kernel
theorem dX9_tryOut_40 : decode cX9_tryOut 40 = .ok (.if_icmp .gt 20, 3) := by decide +kernel
theorem dX9_tryOut_43 : decode cX9_tryOut 43 = .ok (.aload_n 0, 1) := by decide +kernel
theorem dX9_tryOut_44 : decode cX9_tryOut 44 = .ok (.getfield 33, 3) := by decide +kernel
theorem dX9_tryOut_47 : decode cX9_tryOut 47 = .ok (.aload_n 0, 1) := by decide +kernel
theorem dX9_tryOut_48 : decode cX9_tryOut 48 = .ok (.getfield 19, 3) := by decide +kernel
theorem dX9_tryOut_51 : decode cX9_tryOut 51 = .ok (.invokevirtual 193, 3) := by decide +kernel
theorem dX9_tryOut_54 : decode cX9_tryOut 54 = .ok (.iinc 2 1, 3) := by decide +kernel
theorem dX9_tryOut_57 : decode cX9_tryOut 57 = .ok (.goto (-20), 3) := by decide +kernel
theorem dX9_tryOut_60 : decode cX9_tryOut 60 = .ok (.return_, 1) := by decide +kernel
theorem dX9_drawThird_0 : decode cX9_drawThird 0 = .ok (.aload_n 0, 1) := by decide +kernel
theorem dX9_drawThird_1 : decode cX9_drawThird 1 = .ok (.invokevirtual 271, 3) := by decide +kernel
theorem dX9_drawThird_4 : decode cX9_drawThird 4 = .ok (.aload_n 0, 1) := by decide +kernel
theorem dX9_drawThird_5 : decode cX9_drawThird 5 = .ok (.getfield 70, 3) := by decide +kernel
theorem dX9_drawThird_8 : decode cX9_drawThird 8 = .ok (.ldc_w 274, 3) := by decide +kernel
theorem dX9_drawThird_11 : decode cX9_drawThird 11 = .ok (.idiv, 1) := by decide +kernel
theorem dX9_drawThird_12 : decode cX9_drawThird 12 = .ok (.iconst 3, 1) := by decide +kernel
theorem dX9_drawThird_13 : decode cX9_drawThird 13 = .ok (.irem, 1) := by decide +kernel
theorem dX9_drawThird_14 : decode cX9_drawThird 14 = .ok (.ireturn, 1) := by decide +kernel
theorem dX9_drawSaying_0 : decode cX9_drawSaying 0 = .ok (.aload_n 0, 1) := by decide +kernel
theorem dX9_drawSaying_1 : decode cX9_drawSaying 1 = .ok (.invokevirtual 271, 3) := by decide +kernel
theorem dX9_drawSaying_4 : decode cX9_drawSaying 4 = .ok (.aload_n 0, 1) := by decide +kernel
theorem dX9_drawSaying_5 : decode cX9_drawSaying 5 = .ok (.getfield 70, 3) := by decide +kernel
theorem dX9_drawSaying_8 : decode cX9_drawSaying 8 = .ok (.ldc_w 274, 3) := by decide +kernel
theorem dX9_drawSaying_11 : decode cX9_drawSaying 11 = .ok (.idiv, 1) := by decide +kernel
theorem dX9_drawSaying_12 : decode cX9_drawSaying 12 = .ok (.bipush 8, 2) := by decide +kernel
theorem dX9_drawSaying_14 : decode cX9_drawSaying 14 = .ok (.irem, 1) := by decide +kernel
theorem dX9_drawSaying_15 : decode cX9_drawSaying 15 = .ok (.ireturn, 1) := by decide +kernel
theorem dX9_stepSeed_0 : decode cX9_stepSeed 0 = .ok (.aload_n 0, 1) := by decide +kernel
theorem dX9_stepSeed_1 : decode cX9_stepSeed 1 = .ok (.aload_n 0, 1) := by decide +kernel
theorem dX9_stepSeed_2 : decode cX9_stepSeed 2 = .ok (.getfield 70, 3) := by decide +kernel
theorem dX9_stepSeed_5 : decode cX9_stepSeed 5 = .ok (.ldc_w 275, 3) := by decide +kernel
theorem dX9_stepSeed_8 : decode cX9_stepSeed 8 = .ok (.imul, 1) := by decide +kernel
theorem dX9_stepSeed_9 : decode cX9_stepSeed 9 = .ok (.sipush 12345, 3) := by decide +kernel
theorem dX9_stepSeed_12 : decode cX9_stepSeed 12 = .ok (.iadd, 1) := by decide +kernel
theorem dX9_stepSeed_13 : decode cX9_stepSeed 13 = .ok (.ldc_w 276, 3) := by decide +kernel
theorem dX9_stepSeed_16 : decode cX9_stepSeed 16 = .ok (.iand, 1) := by decide +kernel
theorem dX9_stepSeed_17 : decode cX9_stepSeed 17 = .ok (.putfield 70, 3) := by decide +kernel
theorem dX9_stepSeed_20 : decode cX9_stepSeed 20 = .ok (.return_, 1) := by decide +kernel
theorem dX10_init_0 : decode cX10_init 0 = .ok (.aload_n 0, 1) := by decide +kernel
theorem dX10_init_1 : decode cX10_init 1 = .ok (.invokespecial 1, 3) := by decide +kernel
theorem dX10_init_4 : decode cX10_init 4 = .ok (.aload_n 0, 1) := by decide +kernel
theorem dX10_init_5 : decode cX10_init 5 = .ok (.sipush 240, 3) := by decide +kernel
theorem dX10_init_8 : decode cX10_init 8 = .ok (.newarray .int, 2) := by decide +kernel
theorem dX10_init_10 : decode cX10_init 10 = .ok (.putfield 7, 3) := by decide +kernel
theorem dX10_init_13 : decode cX10_init 13 = .ok (.aload_n 0, 1) := by decide +kernel
theorem dX10_init_14 : decode cX10_init 14 = .ok (.iconst (-1), 1) := by decide +kernel
theorem dX10_init_15 : decode cX10_init 15 = .ok (.putfield 13, 3) := by decide +kernel
theorem dX10_init_18 : decode cX10_init 18 = .ok (.aload_n 0, 1) := by decide +kernel
theorem dX10_init_19 : decode cX10_init 19 = .ok (.bipush 16, 2) := by decide +kernel
theorem dX10_init_21 : decode cX10_init 21 = .ok (.newarray .int, 2) := by decide +kernel
theorem dX10_init_23 : decode cX10_init 23 = .ok (.putfield 17, 3) := by decide +kernel
theorem dX10_init_26 : decode cX10_init 26 = .ok (.aload_n 0, 1) := by decide +kernel
theorem dX10_init_27 : decode cX10_init 27 = .ok (.bipush 30, 2) := by decide +kernel
theorem dX10_init_29 : decode cX10_init 29 = .ok (.newarray .int, 2) := by decide +kernel
theorem dX10_init_31 : decode cX10_init 31 = .ok (.putfield 20, 3) := by decide +kernel
theorem dX10_init_34 : decode cX10_init 34 = .ok (.aload_n 0, 1) := by decide +kernel
theorem dX10_init_35 : decode cX10_init 35 = .ok (.bipush 16, 2) := by decide +kernel
theorem dX10_init_37 : decode cX10_init 37 = .ok (.newarray .int, 2) := by decide +kernel
theorem dX10_init_39 : decode cX10_init 39 = .ok (.putfield 23, 3) := by decide +kernel
theorem dX10_init_42 : decode cX10_init 42 = .ok (.aload_n 0, 1) := by decide +kernel
theorem dX10_init_43 : decode cX10_init 43 = .ok (.bipush 30, 2) := by decide +kernel
theorem dX10_init_45 : decode cX10_init 45 = .ok (.newarray .int, 2) := by decide +kernel
theorem dX10_init_47 : decode cX10_init 47 = .ok (.putfield 26, 3) := by decide +kernel
theorem dX10_init_50 : decode cX10_init 50 = .ok (.aload_n 0, 1) := by decide +kernel
theorem dX10_init_51 : decode cX10_init 51 = .ok (.sipush 174, 3) := by decide +kernel
theorem dX10_init_54 : decode cX10_init 54 = .ok (.newarray .int, 2) := by decide +kernel
theorem dX10_init_56 : decode cX10_init 56 = .ok (.putfield 29, 3) := by decide +kernel
theorem dX10_init_59 : decode cX10_init 59 = .ok (.aload_n 0, 1) := by decide +kernel
theorem dX10_init_60 : decode cX10_init 60 = .ok (.sipush 174, 3) := by decide +kernel
theorem dX10_init_63 : decode cX10_init 63 = .ok (.newarray .int, 2) := by decide +kernel
theorem dX10_init_65 : decode cX10_init 65 = .ok (.putfield 32, 3) := by decide +kernel
theorem dX10_init_68 : decode cX10_init 68 = .ok (.aload_n 0, 1) := by decide +kernel
theorem dX10_init_69 : decode cX10_init 69 = .ok (.sipush 3480, 3) := by decide +kernel
theorem dX10_init_72 : decode cX10_init 72 = .ok (.newarray .int, 2) := by decide +kernel
theorem dX10_init_74 : decode cX10_init 74 = .ok (.putfield 35, 3) := by decide +kernel
theorem dX10_init_77 : decode cX10_init 77 = .ok (.aload_n 0, 1) := by decide +kernel
theorem dX10_init_78 : decode cX10_init 78 = .ok (.sipush 348, 3) := by decide +kernel
theorem dX10_init_81 : decode cX10_init 81 = .ok (.newarray .int, 2) := by decide +kernel
theorem dX10_init_83 : decode cX10_init 83 = .ok (.putfield 38, 3) := by decide +kernel
theorem dX10_init_86 : decode cX10_init 86 = .ok (.aload_n 0, 1) := by decide +kernel
theorem dX10_init_87 : decode cX10_init 87 = .ok (.iconst 2, 1) := by decide +kernel
theorem dX10_init_88 : decode cX10_init 88 = .ok (.newarray .int, 2) := by decide +kernel
theorem dX10_init_90 : decode cX10_init 90 = .ok (.putfield 41, 3) := by decide +kernel
theorem dX10_init_93 : decode cX10_init 93 = .ok (.aload_n 0, 1) := by decide +kernel
theorem dX10_init_94 : decode cX10_init 94 = .ok (.iconst 2, 1) := by decide +kernel
theorem dX10_init_95 : decode cX10_init 95 = .ok (.newarray .boolean, 2) := by decide +kernel
theorem dX10_init_97 : decode cX10_init 97 = .ok (.putfield 44, 3) := by decide +kernel
theorem dX10_init_100 : decode cX10_init 100 = .ok (.aload_n 0, 1) := by decide +kernel
theorem dX10_init_101 : decode cX10_init 101 = .ok (.bipush 18, 2) := by decide +kernel
theorem dX10_init_103 : decode cX10_init 103 = .ok (.newarray .int, 2) := by decide +kernel
theorem dX10_init_105 : decode cX10_init 105 = .ok (.putfield 48, 3) := by decide +kernel
theorem dX10_init_108 : decode cX10_init 108 = .ok (.aload_n 0, 1) := by decide +kernel
theorem dX10_init_109 : decode cX10_init 109 = .ok (.bipush 30, 2) := by decide +kernel
theorem dX10_init_111 : decode cX10_init 111 = .ok (.newarray .int, 2) := by decide +kernel
theorem dX10_init_113 : decode cX10_init 113 = .ok (.putfield 51, 3) := by decide +kernel
theorem dX10_init_116 : decode cX10_init 116 = .ok (.aload_n 0, 1) := by decide +kernel
theorem dX10_init_117 : decode cX10_init 117 = .ok (.bipush 8, 2) := by decide +kernel
theorem dX10_init_119 : decode cX10_init 119 = .ok (.newarray .int, 2) := by decide +kernel
theorem dX10_init_121 : decode cX10_init 121 = .ok (.putfield 54, 3) := by decide +kernel
theorem dX10_init_124 : decode cX10_init 124 = .ok (.aload_n 0, 1) := by decide +kernel
theorem dX10_init_125 : decode cX10_init 125 = .ok (.bipush 8, 2) := by decide +kernel
theorem dX10_init_127 : decode cX10_init 127 = .ok (.newarray .int, 2) := by decide +kernel
theorem dX10_init_129 : decode cX10_init 129 = .ok (.putfield 57, 3) := by decide +kernel
theorem dX10_init_132 : decode cX10_init 132 = .ok (.aload_n 0, 1) := by decide +kernel
theorem dX10_init_133 : decode cX10_init 133 = .ok (.bipush 8, 2) := by decide +kernel
theorem dX10_init_135 : decode cX10_init 135 = .ok (.newarray .long, 2) := by decide +kernel
theorem dX10_init_137 : decode cX10_init 137 = .ok (.putfield 60, 3) := by decide +kernel
theorem dX10_init_140 : decode cX10_init 140 = .ok (.aload_n 0, 1) := by decide +kernel
theorem dX10_init_141 : decode cX10_init 141 = .ok (.bipush 8, 2) := by decide +kernel
theorem dX10_init_143 : decode cX10_init 143 = .ok (.newarray .long, 2) := by decide +kernel
theorem dX10_init_145 : decode cX10_init 145 = .ok (.putfield 64, 3) := by decide +kernel
theorem dX10_init_148 : decode cX10_init 148 = .ok (.aload_n 0, 1) := by decide +kernel
theorem dX10_init_149 : decode cX10_init 149 = .ok (.bipush 11, 2) := by decide +kernel
theorem dX10_init_151 : decode cX10_init 151 = .ok (.newarray .int, 2) := by decide +kernel
theorem dX10_init_153 : decode cX10_init 153 = .ok (.putfield 67, 3) := by decide +kernel
theorem dX10_init_156 : decode cX10_init 156 = .ok (.aload_n 0, 1) := by decide +kernel
theorem dX10_init_157 : decode cX10_init 157 = .ok (.bipush 8, 2) := by decide +kernel
theorem dX10_init_159 : decode cX10_init 159 = .ok (.newarray .int, 2) := by decide +kernel
theorem dX10_init_161 : decode cX10_init 161 = .ok (.putfield 70, 3) := by decide +kernel
theorem dX10_init_164 : decode cX10_init 164 = .ok (.aload_n 0, 1) := by decide +kernel
theorem dX10_init_165 : decode cX10_init 165 = .ok (.getfield 29, 3) := by decide +kernel
theorem dX10_init_168 : decode cX10_init 168 = .ok (.invokestatic 73, 3) := by decide +kernel
theorem dX10_init_171 : decode cX10_init 171 = .ok (.aload_n 0, 1) := by decide +kernel
theorem dX10_init_172 : decode cX10_init 172 = .ok (.invokevirtual 77, 3) := by decide +kernel
theorem dX10_init_175 : decode cX10_init 175 = .ok (.return_, 1) := by decide +kernel
theorem dX10_open_0 : decode cX10_open 0 = .ok (.aload_n 0, 1) := by decide +kernel
theorem dX10_open_1 : decode cX10_open 1 = .ok (.getfield 29, 3) := by decide +kernel
theorem dX10_open_4 : decode cX10_open 4 = .ok (.sipush 172, 3) := by decide +kernel
theorem dX10_open_7 : decode cX10_open 7 = .ok (.iconst 0, 1) := by decide +kernel
theorem dX10_open_8 : decode cX10_open 8 = .ok (.iastore, 1) := by decide +kernel
theorem dX10_open_9 : decode cX10_open 9 = .ok (.aload_n 0, 1) := by decide +kernel
theorem dX10_open_10 : decode cX10_open 10 = .ok (.getfield 29, 3) := by decide +kernel
theorem dX10_open_13 : decode cX10_open 13 = .ok (.sipush 173, 3) := by decide +kernel
theorem dX10_open_16 : decode cX10_open 16 = .ok (.iconst 0, 1) := by decide +kernel
theorem dX10_open_17 : decode cX10_open 17 = .ok (.iastore, 1) := by decide +kernel
theorem dX10_open_18 : decode cX10_open 18 = .ok (.iconst 0, 1) := by decide +kernel
theorem dX10_open_19 : decode cX10_open 19 = .ok (.istore_n 1, 1) := by decide +kernel
theorem dX10_open_20 : decode cX10_open 20 = .ok (.iload_n 1, 1) := by decide +kernel
theorem dX10_open_21 : decode cX10_open 21 = .ok (.bipush 10, 2) := by decide +kernel
theorem dX10_open_23 : decode cX10_open 23 = .ok (.if_icmp .ge 20, 3) := by decide +kernel
theorem dX10_open_26 : decode cX10_open 26 = .ok (.aload_n 0, 1) := by decide +kernel
theorem dX10_open_27 : decode cX10_open 27 = .ok (.getfield 29, 3) := by decide +kernel
theorem dX10_open_30 : decode cX10_open 30 = .ok (.sipush 162, 3) := by decide +kernel
theorem dX10_open_33 : decode cX10_open 33 = .ok (.iload_n 1, 1) := by decide +kernel
theorem dX10_open_34 : decode cX10_open 34 = .ok (.iadd, 1) := by decide +kernel
theorem dX10_open_35 : decode cX10_open 35 = .ok (.iconst (-1), 1) := by decide +kernel
theorem dX10_open_36 : decode cX10_open 36 = .ok (.iastore, 1) := by decide +kernel
theorem dX10_open_37 : decode cX10_open 37 = .ok (.iinc 1 1, 3) := by decide +kernel
theorem dX10_open_40 : decode cX10_open 40 = .ok (.goto (-20), 3) := by decide +kernel
theorem dX10_open_43 : decode cX10_open 43 = .ok (.return_, 1) := by decide +kernel
theorem dX10_dry_0 : decode cX10_dry 0 = .ok (.iconst 0, 1) := by decide +kernel
theorem dX10_dry_1 : decode cX10_dry 1 = .ok (.istore_n 1, 1) := by decide +kernel
theorem dX10_dry_2 : decode cX10_dry 2 = .ok (.iload_n 1, 1) := by decide +kernel
theorem dX10_dry_3 : decode cX10_dry 3 = .ok (.sipush 162, 3) := by decide +kernel
theorem dX10_dry_6 : decode cX10_dry 6 = .ok (.if_icmp .ge 30, 3) := by decide +kernel
theorem dX10_dry_9 : decode cX10_dry 9 = .ok (.aload_n 0, 1) := by decide +kernel
theorem dX10_dry_10 : decode cX10_dry 10 = .ok (.iload_n 1, 1) := by decide +kernel
theorem dX10_dry_11 : decode cX10_dry 11 = .ok (.iload_n 1, 1) := by decide +kernel
theorem dX10_dry_12 : decode cX10_dry 12 = .ok (.bipush 88, 2) := by decide +kernel
theorem dX10_dry_14 : decode cX10_dry 14 = .ok (.if_icmp .lt 14, 3) := by decide +kernel
theorem dX10_dry_17 : decode cX10_dry 17 = .ok (.iload_n 1, 1) := by decide +kernel
theorem dX10_dry_18 : decode cX10_dry 18 = .ok (.sipush 152, 3) := by decide +kernel
theorem dX10_dry_21 : decode cX10_dry 21 = .ok (.if_icmp .ge 7, 3) := by decide +kernel
theorem dX10_dry_24 : decode cX10_dry 24 = .ok (.iconst (-1), 1) := by decide +kernel
theorem dX10_dry_25 : decode cX10_dry 25 = .ok (.goto 4, 3) := by decide +kernel
theorem dX10_dry_28 : decode cX10_dry 28 = .ok (.iconst 0, 1) := by decide +kernel
theorem dX10_dry_29 : decode cX10_dry 29 = .ok (.iastore, 1) := by decide +kernel
theorem dX10_dry_30 : decode cX10_dry 30 = .ok (.iinc 1 1, 3) := by decide +kernel
theorem dX10_dry_33 : decode cX10_dry 33 = .ok (.goto (-31), 3) := by decide +kernel
theorem dX10_dry_36 : decode cX10_dry 36 = .ok (.return_, 1) := by decide +kernel
theorem dX10_in_0 : decode cX10_in 0 = .ok (.iload_n 0, 1) := by decide +kernel
theorem dX10_in_1 : decode cX10_in 1 = .ok (.iload_n 1, 1) := by decide +kernel
theorem dX10_in_2 : decode cX10_in 2 = .ok (.if_icmp .lt 12, 3) := by decide +kernel
theorem dX10_in_5 : decode cX10_in 5 = .ok (.iload_n 0, 1) := by decide +kernel
theorem dX10_in_6 : decode cX10_in 6 = .ok (.iload_n 2, 1) := by decide +kernel
theorem dX10_in_7 : decode cX10_in 7 = .ok (.if_icmp .gt 7, 3) := by decide +kernel
theorem dX10_in_10 : decode cX10_in 10 = .ok (.iconst 1, 1) := by decide +kernel
theorem dX10_in_11 : decode cX10_in 11 = .ok (.goto 4, 3) := by decide +kernel
theorem dX10_in_14 : decode cX10_in 14 = .ok (.iconst 0, 1) := by decide +kernel
theorem dX10_in_15 : decode cX10_in 15 = .ok (.ireturn, 1) := by decide +kernel
theorem dX10_has_0 : decode cX10_has 0 = .ok (.iload_n 0, 1) := by decide +kernel
theorem dX10_has_1 : decode cX10_has 1 = .ok (.iload_n 1, 1) := by decide +kernel
theorem dX10_has_2 : decode cX10_has 2 = .ok (.ishr, 1) := by decide +kernel
theorem dX10_has_3 : decode cX10_has 3 = .ok (.iconst 1, 1) := by decide +kernel
theorem dX10_has_4 : decode cX10_has 4 = .ok (.iand, 1) := by decide +kernel
theorem dX10_has_5 : decode cX10_has 5 = .ok (.iconst 1, 1) := by decide +kernel
theorem dX10_has_6 : decode cX10_has 6 = .ok (.if_icmp .ne 7, 3) := by decide +kernel
theorem dX10_has_9 : decode cX10_has 9 = .ok (.iconst 1, 1) := by decide +kernel
theorem dX10_has_10 : decode cX10_has 10 = .ok (.goto 4, 3) := by decide +kernel
theorem dX10_has_13 : decode cX10_has 13 = .ok (.iconst 0, 1) := by decide +kernel
theorem dX10_has_14 : decode cX10_has 14 = .ok (.ireturn, 1) := by decide +kernel
theorem dX10_bits_0 : decode cX10_bits 0 = .ok (.iconst 0, 1) := by decide +kernel
theorem dX10_bits_1 : decode cX10_bits 1 = .ok (.istore_n 1, 1) := by decide +kernel
theorem dX10_bits_2 : decode cX10_bits 2 = .ok (.iconst 0, 1) := by decide +kernel
theorem dX10_bits_3 : decode cX10_bits 3 = .ok (.istore_n 2, 1) := by decide +kernel
theorem dX10_bits_4 : decode cX10_bits 4 = .ok (.iload_n 2, 1) := by decide +kernel
theorem dX10_bits_5 : decode cX10_bits 5 = .ok (.bipush 11, 2) := by decide +kernel
theorem dX10_bits_7 : decode cX10_bits 7 = .ok (.if_icmp .ge 17, 3) := by decide +kernel
theorem dX10_bits_10 : decode cX10_bits 10 = .ok (.iload_n 1, 1) := by decide +kernel
theorem dX10_bits_11 : decode cX10_bits 11 = .ok (.iload_n 0, 1) := by decide +kernel
theorem dX10_bits_12 : decode cX10_bits 12 = .ok (.iload_n 2, 1) := by decide +kernel
theorem dX10_bits_13 : decode cX10_bits 13 = .ok (.ishr, 1) := by decide +kernel
theorem dX10_bits_14 : decode cX10_bits 14 = .ok (.iconst 1, 1) := by decide +kernel
theorem dX10_bits_15 : decode cX10_bits 15 = .ok (.iand, 1) := by decide +kernel
theorem dX10_bits_16 : decode cX10_bits 16 = .ok (.iadd, 1) := by decide +kernel
theorem dX10_bits_17 : decode cX10_bits 17 = .ok (.istore_n 1, 1) := by decide +kernel
theorem dX10_bits_18 : decode cX10_bits 18 = .ok (.iinc 2 1, 3) := by decide +kernel
theorem dX10_bits_21 : decode cX10_bits 21 = .ok (.goto (-17), 3) := by decide +kernel
theorem dX10_bits_24 : decode cX10_bits 24 = .ok (.iload_n 1, 1) := by decide +kernel
theorem dX10_bits_25 : decode cX10_bits 25 = .ok (.ireturn, 1) := by decide +kernel
theorem dX10_isPlace_0 : decode cX10_isPlace 0 = .ok (.iload_n 1, 1) := by decide +kernel
theorem dX10_isPlace_1 : decode cX10_isPlace 1 = .ok (.iconst 0, 1) := by decide +kernel
theorem dX10_isPlace_2 : decode cX10_isPlace 2 = .ok (.aload_n 0, 1) := by decide +kernel
theorem dX10_isPlace_3 : decode cX10_isPlace 3 = .ok (.getfield 80, 3) := by decide +kernel
theorem dX10_isPlace_6 : decode cX10_isPlace 6 = .ok (.iconst 1, 1) := by decide +kernel
theorem dX10_isPlace_7 : decode cX10_isPlace 7 = .ok (.isub, 1) := by decide +kernel
theorem dX10_isPlace_8 : decode cX10_isPlace 8 = .ok (.invokestatic 83, 3) := by decide +kernel
theorem dX10_isPlace_11 : decode cX10_isPlace 11 = .ok (.ireturn, 1) := by decide +kernel
theorem dX10_isChannel_0 : decode cX10_isChannel 0 = .ok (.iload_n 1, 1) := by decide +kernel
theorem dX10_isChannel_1 : decode cX10_isChannel 1 = .ok (.iconst 0, 1) := by decide +kernel
theorem dX10_isChannel_2 : decode cX10_isChannel 2 = .ok (.aload_n 0, 1) := by decide +kernel
theorem dX10_isChannel_3 : decode cX10_isChannel 3 = .ok (.getfield 87, 3) := by decide +kernel
theorem dX10_isChannel_6 : decode cX10_isChannel 6 = .ok (.iconst 1, 1) := by decide +kernel
theorem dX10_isChannel_7 : decode cX10_isChannel 7 = .ok (.isub, 1) := by decide +kernel
theorem dX10_isChannel_8 : decode cX10_isChannel 8 = .ok (.invokestatic 83, 3) := by decide +kernel
theorem dX10_isChannel_11 : decode cX10_isChannel 11 = .ok (.ireturn, 1) := by decide +kernel
theorem dX10_isSaying_0 : decode cX10_isSaying 0 = .ok (.iload_n 0, 1) := by decide +kernel
theorem dX10_isSaying_1 : decode cX10_isSaying 1 = .ok (.iconst 0, 1) := by decide +kernel
theorem dX10_isSaying_2 : decode cX10_isSaying 2 = .ok (.bipush 7, 2) := by decide +kernel
theorem dX10_isSaying_4 : decode cX10_isSaying 4 = .ok (.invokestatic 83, 3) := by decide +kernel
theorem dX10_isSaying_7 : decode cX10_isSaying 7 = .ok (.ireturn, 1) := by decide +kernel
theorem dX10_feed_0 : decode cX10_feed 0 = .ok (.iload_n 1, 1) := by decide +kernel
theorem dX10_feed_1 : decode cX10_feed 1 = .ok (.iconst 0, 1) := by decide +kernel
theorem dX10_feed_2 : decode cX10_feed 2 = .ok (.sipush 255, 3) := by decide +kernel
theorem dX10_feed_5 : decode cX10_feed 5 = .ok (.invokestatic 83, 3) := by decide +kernel
theorem dX10_feed_8 : decode cX10_feed 8 = .ok (.ifCond .ne 6, 3) := by decide +kernel
theorem dX10_feed_11 : decode cX10_feed 11 = .ok (.ldc 90, 2) := by decide +kernel
theorem dX10_feed_13 : decode cX10_feed 13 = .ok (.ireturn, 1) := by decide +kernel
theorem dX10_feed_14 : decode cX10_feed 14 = .ok (.aload_n 0, 1) := by decide +kernel
theorem dX10_feed_15 : decode cX10_feed 15 = .ok (.getfield 91, 3) := by decide +kernel
theorem dX10_feed_18 : decode cX10_feed 18 = .ok (.sipush 240, 3) := by decide +kernel
theorem dX10_feed_21 : decode cX10_feed 21 = .ok (.if_icmp .ne 6, 3) := by decide +kernel
theorem dX10_feed_24 : decode cX10_feed 24 = .ok (.ldc 94, 2) := by decide +kernel
theorem dX10_feed_26 : decode cX10_feed 26 = .ok (.ireturn, 1) := by decide +kernel
theorem dX10_feed_27 : decode cX10_feed 27 = .ok (.aload_n 0, 1) := by decide +kernel
theorem dX10_feed_28 : decode cX10_feed 28 = .ok (.getfield 7, 3) := by decide +kernel
theorem dX10_feed_31 : decode cX10_feed 31 = .ok (.aload_n 0, 1) := by decide +kernel
theorem dX10_feed_32 : decode cX10_feed 32 = .ok (.getfield 91, 3) := by decide +kernel
theorem dX10_feed_35 : decode cX10_feed 35 = .ok (.iload_n 1, 1) := by decide +kernel
theorem dX10_feed_36 : decode cX10_feed 36 = .ok (.iastore, 1) := by decide +kernel
theorem dX10_feed_37 : decode cX10_feed 37 = .ok (.aload_n 0, 1) := by decide +kernel
theorem dX10_feed_38 : decode cX10_feed 38 = .ok (.dup, 1) := by decide +kernel
theorem dX10_feed_39 : decode cX10_feed 39 = .ok (.getfield 91, 3) := by decide +kernel
theorem dX10_feed_42 : decode cX10_feed 42 = .ok (.iconst 1, 1) := by decide +kernel
theorem dX10_feed_43 : decode cX10_feed 43 = .ok (.iadd, 1) := by decide +kernel
theorem dX10_feed_44 : decode cX10_feed 44 = .ok (.putfield 91, 3) := by decide +kernel
theorem dX10_feed_47 : decode cX10_feed 47 = .ok (.aload_n 0, 1) := by decide +kernel
theorem dX10_feed_48 : decode cX10_feed 48 = .ok (.getfield 91, 3) := by decide +kernel
theorem dX10_feed_51 : decode cX10_feed 51 = .ok (.ireturn, 1) := by decide +kernel
theorem dX10_nextToken_0 : decode cX10_nextToken 0 = .ok (.aload_n 0, 1) := by decide +kernel
theorem dX10_nextToken_1 : decode cX10_nextToken 1 = .ok (.getfield 95, 3) := by decide +kernel
theorem dX10_nextToken_4 : decode cX10_nextToken 4 = .ok (.aload_n 0, 1) := by decide +kernel
theorem dX10_nextToken_5 : decode cX10_nextToken 5 = .ok (.getfield 91, 3) := by decide +kernel
theorem dX10_nextToken_8 : decode cX10_nextToken 8 = .ok (.if_icmp .ge 30, 3) := by decide +kernel
theorem dX10_nextToken_11 : decode cX10_nextToken 11 = .ok (.aload_n 0, 1) := by decide +kernel
theorem dX10_nextToken_12 : decode cX10_nextToken 12 = .ok (.getfield 7, 3) := by decide +kernel
theorem dX10_nextToken_15 : decode cX10_nextToken 15 = .ok (.aload_n 0, 1) := by decide +kernel
theorem dX10_nextToken_16 : decode cX10_nextToken 16 = .ok (.getfield 95, 3) := by decide +kernel
theorem dX10_nextToken_19 : decode cX10_nextToken 19 = .ok (.iaload, 1) := by decide +kernel
theorem dX10_nextToken_20 : decode cX10_nextToken 20 = .ok (.bipush 32, 2) := by decide +kernel
theorem dX10_nextToken_22 : decode cX10_nextToken 22 = .ok (.if_icmp .ne 16, 3) := by decide +kernel
theorem dX10_nextToken_25 : decode cX10_nextToken 25 = .ok (.aload_n 0, 1) := by decide +kernel
theorem dX10_nextToken_26 : decode cX10_nextToken 26 = .ok (.dup, 1) := by decide +kernel
theorem dX10_nextToken_27 : decode cX10_nextToken 27 = .ok (.getfield 95, 3) := by decide +kernel
theorem dX10_nextToken_30 : decode cX10_nextToken 30 = .ok (.iconst 1, 1) := by decide +kernel
theorem dX10_nextToken_31 : decode cX10_nextToken 31 = .ok (.iadd, 1) := by decide +kernel
theorem dX10_nextToken_32 : decode cX10_nextToken 32 = .ok (.putfield 95, 3) := by decide +kernel
theorem dX10_nextToken_35 : decode cX10_nextToken 35 = .ok (.goto (-35), 3) := by decide +kernel
theorem dX10_nextToken_38 : decode cX10_nextToken 38 = .ok (.aload_n 0, 1) := by decide +kernel
theorem dX10_nextToken_39 : decode cX10_nextToken 39 = .ok (.aload_n 0, 1) := by decide +kernel
theorem dX10_nextToken_40 : decode cX10_nextToken 40 = .ok (.getfield 95, 3) := by decide +kernel
theorem dX10_nextToken_43 : decode cX10_nextToken 43 = .ok (.putfield 98, 3) := by decide +kernel
theorem dX10_nextToken_46 : decode cX10_nextToken 46 = .ok (.aload_n 0, 1) := by decide +kernel
theorem dX10_nextToken_47 : decode cX10_nextToken 47 = .ok (.iconst 0, 1) := by decide +kernel
theorem dX10_nextToken_48 : decode cX10_nextToken 48 = .ok (.putfield 101, 3) := by decide +kernel
theorem dX10_nextToken_51 : decode cX10_nextToken 51 = .ok (.aload_n 0, 1) := by decide +kernel
theorem dX10_nextToken_52 : decode cX10_nextToken 52 = .ok (.iconst 0, 1) := by decide +kernel
theorem dX10_nextToken_53 : decode cX10_nextToken 53 = .ok (.putfield 104, 3) := by decide +kernel
theorem dX10_nextToken_56 : decode cX10_nextToken 56 = .ok (.aload_n 0, 1) := by decide +kernel
theorem dX10_nextToken_57 : decode cX10_nextToken 57 = .ok (.getfield 95, 3) := by decide +kernel
theorem dX10_nextToken_60 : decode cX10_nextToken 60 = .ok (.aload_n 0, 1) := by decide +kernel
theorem dX10_nextToken_61 : decode cX10_nextToken 61 = .ok (.getfield 91, 3) := by decide +kernel
theorem dX10_nextToken_64 : decode cX10_nextToken 64 = .ok (.if_icmp .ne 12, 3) := by decide +kernel
theorem dX10_nextToken_67 : decode cX10_nextToken 67 = .ok (.aload_n 0, 1) := by decide +kernel
theorem dX10_nextToken_68 : decode cX10_nextToken 68 = .ok (.bipush (-2), 2) := by decide +kernel
theorem dX10_nextToken_70 : decode cX10_nextToken 70 = .ok (.putfield 107, 3) := by decide +kernel
theorem dX10_nextToken_73 : decode cX10_nextToken 73 = .ok (.goto 145, 3) := by decide +kernel
theorem dX10_nextToken_76 : decode cX10_nextToken 76 = .ok (.aload_n 0, 1) := by decide +kernel
theorem dX10_nextToken_77 : decode cX10_nextToken 77 = .ok (.getfield 7, 3) := by decide +kernel
theorem dX10_nextToken_80 : decode cX10_nextToken 80 = .ok (.aload_n 0, 1) := by decide +kernel
theorem dX10_nextToken_81 : decode cX10_nextToken 81 = .ok (.getfield 95, 3) := by decide +kernel
theorem dX10_nextToken_84 : decode cX10_nextToken 84 = .ok (.iaload, 1) := by decide +kernel
theorem dX10_nextToken_85 : decode cX10_nextToken 85 = .ok (.bipush 48, 2) := by decide +kernel
theorem dX10_nextToken_87 : decode cX10_nextToken 87 = .ok (.bipush 57, 2) := by decide +kernel
theorem dX10_nextToken_89 : decode cX10_nextToken 89 = .ok (.invokestatic 83, 3) := by decide +kernel
theorem dX10_nextToken_92 : decode cX10_nextToken 92 = .ok (.ifCond .eq 103, 3) := by decide +kernel
theorem dX10_nextToken_95 : decode cX10_nextToken 95 = .ok (.aload_n 0, 1) := by decide +kernel
theorem dX10_nextToken_96 : decode cX10_nextToken 96 = .ok (.getfield 95, 3) := by decide +kernel
theorem dX10_nextToken_99 : decode cX10_nextToken 99 = .ok (.aload_n 0, 1) := by decide +kernel
theorem dX10_nextToken_100 : decode cX10_nextToken 100 = .ok (.getfield 91, 3) := by decide +kernel
theorem dX10_nextToken_103 : decode cX10_nextToken 103 = .ok (.if_icmp .ge 84, 3) := by decide +kernel
theorem dX10_nextToken_106 : decode cX10_nextToken 106 = .ok (.aload_n 0, 1) := by decide +kernel
theorem dX10_nextToken_107 : decode cX10_nextToken 107 = .ok (.getfield 7, 3) := by decide +kernel
theorem dX10_nextToken_110 : decode cX10_nextToken 110 = .ok (.aload_n 0, 1) := by decide +kernel
theorem dX10_nextToken_111 : decode cX10_nextToken 111 = .ok (.getfield 95, 3) := by decide +kernel
theorem dX10_nextToken_114 : decode cX10_nextToken 114 = .ok (.iaload, 1) := by decide +kernel
theorem dX10_nextToken_115 : decode cX10_nextToken 115 = .ok (.bipush 48, 2) := by decide +kernel
theorem dX10_nextToken_117 : decode cX10_nextToken 117 = .ok (.bipush 57, 2) := by decide +kernel
theorem dX10_nextToken_119 : decode cX10_nextToken 119 = .ok (.invokestatic 83, 3) := by decide +kernel
theorem dX10_nextToken_122 : decode cX10_nextToken 122 = .ok (.ifCond .eq 65, 3) := by decide +kernel
theorem dX10_nextToken_125 : decode cX10_nextToken 125 = .ok (.aload_n 0, 1) := by decide +kernel
theorem dX10_nextToken_126 : decode cX10_nextToken 126 = .ok (.aload_n 0, 1) := by decide +kernel
theorem dX10_nextToken_127 : decode cX10_nextToken 127 = .ok (.getfield 104, 3) := by decide +kernel
theorem dX10_nextToken_130 : decode cX10_nextToken 130 = .ok (.iconst 3, 1) := by decide +kernel
theorem dX10_nextToken_131 : decode cX10_nextToken 131 = .ok (.if_icmp .ge 26, 3) := by decide +kernel
theorem dX10_nextToken_134 : decode cX10_nextToken 134 = .ok (.bipush 10, 2) := by decide +kernel
theorem dX10_nextToken_136 : decode cX10_nextToken 136 = .ok (.aload_n 0, 1) := by decide +kernel
theorem dX10_nextToken_137 : decode cX10_nextToken 137 = .ok (.getfield 101, 3) := by decide +kernel
theorem dX10_nextToken_140 : decode cX10_nextToken 140 = .ok (.imul, 1) := by decide +kernel
theorem dX10_nextToken_141 : decode cX10_nextToken 141 = .ok (.aload_n 0, 1) := by decide +kernel
theorem dX10_nextToken_142 : decode cX10_nextToken 142 = .ok (.getfield 7, 3) := by decide +kernel
theorem dX10_nextToken_145 : decode cX10_nextToken 145 = .ok (.aload_n 0, 1) := by decide +kernel
theorem dX10_nextToken_146 : decode cX10_nextToken 146 = .ok (.getfield 95, 3) := by decide +kernel
theorem dX10_nextToken_149 : decode cX10_nextToken 149 = .ok (.iaload, 1) := by decide +kernel
theorem dX10_nextToken_150 : decode cX10_nextToken 150 = .ok (.iadd, 1) := by decide +kernel
theorem dX10_nextToken_151 : decode cX10_nextToken 151 = .ok (.bipush 48, 2) := by decide +kernel
theorem dX10_nextToken_153 : decode cX10_nextToken 153 = .ok (.isub, 1) := by decide +kernel
theorem dX10_nextToken_154 : decode cX10_nextToken 154 = .ok (.goto 7, 3) := by decide +kernel
theorem dX10_nextToken_157 : decode cX10_nextToken 157 = .ok (.aload_n 0, 1) := by decide +kernel
theorem dX10_nextToken_158 : decode cX10_nextToken 158 = .ok (.getfield 101, 3) := by decide +kernel
theorem dX10_nextToken_161 : decode cX10_nextToken 161 = .ok (.putfield 101, 3) := by decide +kernel
theorem dX10_nextToken_164 : decode cX10_nextToken 164 = .ok (.aload_n 0, 1) := by decide +kernel
theorem dX10_nextToken_165 : decode cX10_nextToken 165 = .ok (.dup, 1) := by decide +kernel
theorem dX10_nextToken_166 : decode cX10_nextToken 166 = .ok (.getfield 104, 3) := by decide +kernel
theorem dX10_nextToken_169 : decode cX10_nextToken 169 = .ok (.iconst 1, 1) := by decide +kernel
theorem dX10_nextToken_170 : decode cX10_nextToken 170 = .ok (.iadd, 1) := by decide +kernel
theorem dX10_nextToken_171 : decode cX10_nextToken 171 = .ok (.putfield 104, 3) := by decide +kernel
theorem dX10_nextToken_174 : decode cX10_nextToken 174 = .ok (.aload_n 0, 1) := by decide +kernel
theorem dX10_nextToken_175 : decode cX10_nextToken 175 = .ok (.dup, 1) := by decide +kernel
theorem dX10_nextToken_176 : decode cX10_nextToken 176 = .ok (.getfield 95, 3) := by decide +kernel
theorem dX10_nextToken_179 : decode cX10_nextToken 179 = .ok (.iconst 1, 1) := by decide +kernel
theorem dX10_nextToken_180 : decode cX10_nextToken 180 = .ok (.iadd, 1) := by decide +kernel
theorem dX10_nextToken_181 : decode cX10_nextToken 181 = .ok (.putfield 95, 3) := by decide +kernel
theorem dX10_nextToken_184 : decode cX10_nextToken 184 = .ok (.goto (-89), 3) := by decide +kernel
theorem dX10_nextToken_187 : decode cX10_nextToken 187 = .ok (.aload_n 0, 1) := by decide +kernel
theorem dX10_nextToken_188 : decode cX10_nextToken 188 = .ok (.iconst (-1), 1) := by decide +kernel
theorem dX10_nextToken_189 : decode cX10_nextToken 189 = .ok (.putfield 107, 3) := by decide +kernel
theorem dX10_nextToken_192 : decode cX10_nextToken 192 = .ok (.goto 26, 3) := by decide +kernel
theorem dX10_nextToken_195 : decode cX10_nextToken 195 = .ok (.aload_n 0, 1) := by decide +kernel
theorem dX10_nextToken_196 : decode cX10_nextToken 196 = .ok (.aload_n 0, 1) := by decide +kernel
theorem dX10_nextToken_197 : decode cX10_nextToken 197 = .ok (.getfield 7, 3) := by decide +kernel
theorem dX10_nextToken_200 : decode cX10_nextToken 200 = .ok (.aload_n 0, 1) := by decide +kernel
theorem dX10_nextToken_201 : decode cX10_nextToken 201 = .ok (.getfield 95, 3) := by decide +kernel
theorem dX10_nextToken_204 : decode cX10_nextToken 204 = .ok (.iaload, 1) := by decide +kernel
theorem dX10_nextToken_205 : decode cX10_nextToken 205 = .ok (.putfield 107, 3) := by decide +kernel
theorem dX10_nextToken_208 : decode cX10_nextToken 208 = .ok (.aload_n 0, 1) := by decide +kernel
theorem dX10_nextToken_209 : decode cX10_nextToken 209 = .ok (.dup, 1) := by decide +kernel
theorem dX10_nextToken_210 : decode cX10_nextToken 210 = .ok (.getfield 95, 3) := by decide +kernel
theorem dX10_nextToken_213 : decode cX10_nextToken 213 = .ok (.iconst 1, 1) := by decide +kernel
theorem dX10_nextToken_214 : decode cX10_nextToken 214 = .ok (.iadd, 1) := by decide +kernel
theorem dX10_nextToken_215 : decode cX10_nextToken 215 = .ok (.putfield 95, 3) := by decide +kernel
theorem dX10_nextToken_218 : decode cX10_nextToken 218 = .ok (.return_, 1) := by decide +kernel
theorem dX10_fails_0 : decode cX10_fails 0 = .ok (.aload_n 0, 1) := by decide +kernel
theorem dX10_fails_1 : decode cX10_fails 1 = .ok (.aload_n 0, 1) := by decide +kernel
theorem dX10_fails_2 : decode cX10_fails 2 = .ok (.getfield 98, 3) := by decide +kernel
theorem dX10_fails_5 : decode cX10_fails 5 = .ok (.putfield 13, 3) := by decide +kernel
theorem dX10_fails_8 : decode cX10_fails 8 = .ok (.aload_n 0, 1) := by decide +kernel
theorem dX10_fails_9 : decode cX10_fails 9 = .ok (.iload_n 1, 1) := by decide +kernel
theorem dX10_fails_10 : decode cX10_fails 10 = .ok (.putfield 110, 3) := by decide +kernel
theorem dX10_fails_13 : decode cX10_fails 13 = .ok (.iconst 0, 1) := by decide +kernel
theorem dX10_fails_14 : decode cX10_fails 14 = .ok (.ireturn, 1) := by decide +kernel
theorem dX10_isNumber_0 : decode cX10_isNumber 0 = .ok (.aload_n 0, 1) := by decide +kernel
theorem dX10_isNumber_1 : decode cX10_isNumber 1 = .ok (.invokevirtual 113, 3) := by decide +kernel
theorem dX10_isNumber_4 : decode cX10_isNumber 4 = .ok (.aload_n 0, 1) := by decide +kernel
theorem dX10_isNumber_5 : decode cX10_isNumber 5 = .ok (.getfield 107, 3) := by decide +kernel
theorem dX10_isNumber_8 : decode cX10_isNumber 8 = .ok (.iconst (-1), 1) := by decide +kernel
theorem dX10_isNumber_9 : decode cX10_isNumber 9 = .ok (.if_icmp .eq 9, 3) := by decide +kernel
theorem dX10_isNumber_12 : decode cX10_isNumber 12 = .ok (.aload_n 0, 1) := by decide +kernel
theorem dX10_isNumber_13 : decode cX10_isNumber 13 = .ok (.iconst 1, 1) := by decide +kernel
theorem dX10_isNumber_14 : decode cX10_isNumber 14 = .ok (.invokevirtual 116, 3) := by decide +kernel
theorem dX10_isNumber_17 : decode cX10_isNumber 17 = .ok (.ireturn, 1) := by decide +kernel
theorem dX10_isNumber_18 : decode cX10_isNumber 18 = .ok (.aload_n 0, 1) := by decide +kernel
theorem dX10_isNumber_19 : decode cX10_isNumber 19 = .ok (.getfield 104, 3) := by decide +kernel
theorem dX10_isNumber_22 : decode cX10_isNumber 22 = .ok (.iconst 4, 1) := by decide +kernel
theorem dX10_isNumber_23 : decode cX10_isNumber 23 = .ok (.if_icmp .ge 15, 3) := by decide +kernel
theorem dX10_isNumber_26 : decode cX10_isNumber 26 = .ok (.aload_n 0, 1) := by decide +kernel
theorem dX10_isNumber_27 : decode cX10_isNumber 27 = .ok (.getfield 101, 3) := by decide +kernel
theorem dX10_isNumber_30 : decode cX10_isNumber 30 = .ok (.iload_n 1, 1) := by decide +kernel
theorem dX10_isNumber_31 : decode cX10_isNumber 31 = .ok (.iload_n 2, 1) := by decide +kernel
theorem dX10_isNumber_32 : decode cX10_isNumber 32 = .ok (.invokestatic 83, 3) := by decide +kernel
theorem dX10_isNumber_35 : decode cX10_isNumber 35 = .ok (.ifCond .ne 11, 3) := by decide +kernel
theorem dX10_isNumber_38 : decode cX10_isNumber 38 = .ok (.aload_n 0, 1) := by decide +kernel
theorem dX10_isNumber_39 : decode cX10_isNumber 39 = .ok (.iconst 2, 1) := by decide +kernel
theorem dX10_isNumber_40 : decode cX10_isNumber 40 = .ok (.invokevirtual 116, 3) := by decide +kernel
theorem dX10_isNumber_43 : decode cX10_isNumber 43 = .ok (.ifCond .eq 7, 3) := by decide +kernel
theorem dX10_isNumber_46 : decode cX10_isNumber 46 = .ok (.iconst 1, 1) := by decide +kernel
theorem dX10_isNumber_47 : decode cX10_isNumber 47 = .ok (.goto 4, 3) := by decide +kernel
theorem dX10_isNumber_50 : decode cX10_isNumber 50 = .ok (.iconst 0, 1) := by decide +kernel
theorem dX10_isNumber_51 : decode cX10_isNumber 51 = .ok (.ireturn, 1) := by decide +kernel
theorem dX10_isEnd_0 : decode cX10_isEnd 0 = .ok (.aload_n 0, 1) := by decide +kernel
theorem dX10_isEnd_1 : decode cX10_isEnd 1 = .ok (.invokevirtual 113, 3) := by decide +kernel
theorem dX10_isEnd_4 : decode cX10_isEnd 4 = .ok (.aload_n 0, 1) := by decide +kernel
theorem dX10_isEnd_5 : decode cX10_isEnd 5 = .ok (.getfield 107, 3) := by decide +kernel
theorem dX10_isEnd_8 : decode cX10_isEnd 8 = .ok (.bipush 59, 2) := by decide +kernel
theorem dX10_isEnd_10 : decode cX10_isEnd 10 = .ok (.if_icmp .eq 11, 3) := by decide +kernel
theorem dX10_isEnd_13 : decode cX10_isEnd 13 = .ok (.aload_n 0, 1) := by decide +kernel
theorem dX10_isEnd_14 : decode cX10_isEnd 14 = .ok (.iconst 1, 1) := by decide +kernel
theorem dX10_isEnd_15 : decode cX10_isEnd 15 = .ok (.invokevirtual 116, 3) := by decide +kernel
theorem dX10_isEnd_18 : decode cX10_isEnd 18 = .ok (.ifCond .eq 7, 3) := by decide +kernel
theorem dX10_isEnd_21 : decode cX10_isEnd 21 = .ok (.iconst 1, 1) := by decide +kernel
theorem dX10_isEnd_22 : decode cX10_isEnd 22 = .ok (.goto 4, 3) := by decide +kernel
theorem dX10_isEnd_25 : decode cX10_isEnd 25 = .ok (.iconst 0, 1) := by decide +kernel
theorem dX10_isEnd_26 : decode cX10_isEnd 26 = .ok (.ireturn, 1) := by decide +kernel
theorem dX10_isMostItem_0 : decode cX10_isMostItem 0 = .ok (.aload_n 0, 1) := by decide +kernel
theorem dX10_isMostItem_1 : decode cX10_isMostItem 1 = .ok (.iconst 1, 1) := by decide +kernel
theorem dX10_isMostItem_2 : decode cX10_isMostItem 2 = .ok (.bipush 99, 2) := by decide +kernel
theorem dX10_isMostItem_4 : decode cX10_isMostItem 4 = .ok (.invokevirtual 120, 3) := by decide +kernel
theorem dX10_isMostItem_7 : decode cX10_isMostItem 7 = .ok (.ifCond .ne 5, 3) := by decide +kernel
theorem dX10_isMostItem_10 : decode cX10_isMostItem 10 = .ok (.iconst 0, 1) := by decide +kernel
theorem dX10_isMostItem_11 : decode cX10_isMostItem 11 = .ok (.ireturn, 1) := by decide +kernel
theorem dX10_isMostItem_12 : decode cX10_isMostItem 12 = .ok (.aload_n 0, 1) := by decide +kernel
theorem dX10_isMostItem_13 : decode cX10_isMostItem 13 = .ok (.aload_n 0, 1) := by decide +kernel
theorem dX10_isMostItem_14 : decode cX10_isMostItem 14 = .ok (.getfield 101, 3) := by decide +kernel
theorem dX10_isMostItem_17 : decode cX10_isMostItem 17 = .ok (.putfield 124, 3) := by decide +kernel
theorem dX10_isMostItem_20 : decode cX10_isMostItem 20 = .ok (.aload_n 0, 1) := by decide +kernel
theorem dX10_isMostItem_21 : decode cX10_isMostItem 21 = .ok (.iconst 1, 1) := by decide +kernel
theorem dX10_isMostItem_22 : decode cX10_isMostItem 22 = .ok (.putfield 127, 3) := by decide +kernel
theorem dX10_isMostItem_25 : decode cX10_isMostItem 25 = .ok (.aload_n 0, 1) := by decide +kernel
theorem dX10_isMostItem_26 : decode cX10_isMostItem 26 = .ok (.invokevirtual 131, 3) := by decide +kernel
theorem dX10_isMostItem_29 : decode cX10_isMostItem 29 = .ok (.ireturn, 1) := by decide +kernel
theorem dX10_isPlaceItem_0 : decode cX10_isPlaceItem 0 = .ok (.aload_n 0, 1) := by decide +kernel
theorem dX10_isPlaceItem_1 : decode cX10_isPlaceItem 1 = .ok (.getfield 135, 3) := by decide +kernel
theorem dX10_isPlaceItem_4 : decode cX10_isPlaceItem 4 = .ok (.bipush 8, 2) := by decide +kernel
theorem dX10_isPlaceItem_6 : decode cX10_isPlaceItem 6 = .ok (.if_icmp .ne 9, 3) := by decide +kernel
