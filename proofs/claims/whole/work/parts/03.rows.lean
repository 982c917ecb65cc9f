theorem dX0_init_0 : decode cX0_init 0 = .ok (.aload_n 0, 1) := by decide +kernel
theorem dX0_init_1 : decode cX0_init 1 = .ok (.invokespecial 3, 3) := by decide +kernel
theorem dX0_init_4 : decode cX0_init 4 = .ok (.aload_n 0, 1) := by decide +kernel
theorem dX0_init_5 : decode cX0_init 5 = .ok (.iconst 0, 1) := by decide +kernel
theorem dX0_init_6 : decode cX0_init 6 = .ok (.putfield 9, 3) := by decide +kernel
theorem dX0_init_9 : decode cX0_init 9 = .ok (.aload_n 0, 1) := by decide +kernel
theorem dX0_init_10 : decode cX0_init 10 = .ok (.iconst 0, 1) := by decide +kernel
theorem dX0_init_11 : decode cX0_init 11 = .ok (.putfield 15, 3) := by decide +kernel
theorem dX0_init_14 : decode cX0_init 14 = .ok (.aload_n 0, 1) := by decide +kernel
theorem dX0_init_15 : decode cX0_init 15 = .ok (.bipush 10, 2) := by decide +kernel
theorem dX0_init_17 : decode cX0_init 17 = .ok (.newarray .int, 2) := by decide +kernel
theorem dX0_init_19 : decode cX0_init 19 = .ok (.putfield 18, 3) := by decide +kernel
theorem dX0_init_22 : decode cX0_init 22 = .ok (.aload_n 0, 1) := by decide +kernel
theorem dX0_init_23 : decode cX0_init 23 = .ok (.bipush 10, 2) := by decide +kernel
theorem dX0_init_25 : decode cX0_init 25 = .ok (.newarray .int, 2) := by decide +kernel
theorem dX0_init_27 : decode cX0_init 27 = .ok (.putfield 22, 3) := by decide +kernel
theorem dX0_init_30 : decode cX0_init 30 = .ok (.aload_n 0, 1) := by decide +kernel
theorem dX0_init_31 : decode cX0_init 31 = .ok (.bipush 8, 2) := by decide +kernel
theorem dX0_init_33 : decode cX0_init 33 = .ok (.newarray .int, 2) := by decide +kernel
theorem dX0_init_35 : decode cX0_init 35 = .ok (.putfield 25, 3) := by decide +kernel
theorem dX0_init_38 : decode cX0_init 38 = .ok (.aload_n 0, 1) := by decide +kernel
theorem dX0_init_39 : decode cX0_init 39 = .ok (.bipush 64, 2) := by decide +kernel
theorem dX0_init_41 : decode cX0_init 41 = .ok (.newarray .int, 2) := by decide +kernel
theorem dX0_init_43 : decode cX0_init 43 = .ok (.putfield 28, 3) := by decide +kernel
theorem dX0_init_46 : decode cX0_init 46 = .ok (.aload_n 0, 1) := by decide +kernel
theorem dX0_init_47 : decode cX0_init 47 = .ok (.bipush 80, 2) := by decide +kernel
theorem dX0_init_49 : decode cX0_init 49 = .ok (.newarray .int, 2) := by decide +kernel
theorem dX0_init_51 : decode cX0_init 51 = .ok (.putfield 31, 3) := by decide +kernel
theorem dX0_init_54 : decode cX0_init 54 = .ok (.aload_n 0, 1) := by decide +kernel
theorem dX0_init_55 : decode cX0_init 55 = .ok (.getfield 22, 3) := by decide +kernel
theorem dX0_init_58 : decode cX0_init 58 = .ok (.iconst (-1), 1) := by decide +kernel
theorem dX0_init_59 : decode cX0_init 59 = .ok (.invokestatic 34, 3) := by decide +kernel
theorem dX0_init_62 : decode cX0_init 62 = .ok (.aload_n 0, 1) := by decide +kernel
theorem dX0_init_63 : decode cX0_init 63 = .ok (.getfield 28, 3) := by decide +kernel
theorem dX0_init_66 : decode cX0_init 66 = .ok (.iconst (-1), 1) := by decide +kernel
theorem dX0_init_67 : decode cX0_init 67 = .ok (.invokestatic 34, 3) := by decide +kernel
theorem dX0_init_70 : decode cX0_init 70 = .ok (.return_, 1) := by decide +kernel
theorem dX0_begin_0 : decode cX0_begin 0 = .ok (.aload_n 0, 1) := by decide +kernel
theorem dX0_begin_1 : decode cX0_begin 1 = .ok (.iconst 0, 1) := by decide +kernel
theorem dX0_begin_2 : decode cX0_begin 2 = .ok (.putfield 9, 3) := by decide +kernel
theorem dX0_begin_5 : decode cX0_begin 5 = .ok (.aload_n 0, 1) := by decide +kernel
theorem dX0_begin_6 : decode cX0_begin 6 = .ok (.iconst 0, 1) := by decide +kernel
theorem dX0_begin_7 : decode cX0_begin 7 = .ok (.putfield 15, 3) := by decide +kernel
theorem dX0_begin_10 : decode cX0_begin 10 = .ok (.aload_n 0, 1) := by decide +kernel
theorem dX0_begin_11 : decode cX0_begin 11 = .ok (.getfield 22, 3) := by decide +kernel
theorem dX0_begin_14 : decode cX0_begin 14 = .ok (.iconst (-1), 1) := by decide +kernel
theorem dX0_begin_15 : decode cX0_begin 15 = .ok (.invokestatic 34, 3) := by decide +kernel
theorem dX0_begin_18 : decode cX0_begin 18 = .ok (.aload_n 0, 1) := by decide +kernel
theorem dX0_begin_19 : decode cX0_begin 19 = .ok (.invokevirtual 40, 3) := by decide +kernel
theorem dX0_begin_22 : decode cX0_begin 22 = .ok (.return_, 1) := by decide +kernel
theorem dX0_drain_0 : decode cX0_drain 0 = .ok (.aload_n 0, 1) := by decide +kernel
theorem dX0_drain_1 : decode cX0_drain 1 = .ok (.getfield 18, 3) := by decide +kernel
theorem dX0_drain_4 : decode cX0_drain 4 = .ok (.iconst 0, 1) := by decide +kernel
theorem dX0_drain_5 : decode cX0_drain 5 = .ok (.invokestatic 34, 3) := by decide +kernel
theorem dX0_drain_8 : decode cX0_drain 8 = .ok (.aload_n 0, 1) := by decide +kernel
theorem dX0_drain_9 : decode cX0_drain 9 = .ok (.getfield 25, 3) := by decide +kernel
theorem dX0_drain_12 : decode cX0_drain 12 = .ok (.iconst 0, 1) := by decide +kernel
theorem dX0_drain_13 : decode cX0_drain 13 = .ok (.invokestatic 34, 3) := by decide +kernel
theorem dX0_drain_16 : decode cX0_drain 16 = .ok (.aload_n 0, 1) := by decide +kernel
theorem dX0_drain_17 : decode cX0_drain 17 = .ok (.getfield 28, 3) := by decide +kernel
theorem dX0_drain_20 : decode cX0_drain 20 = .ok (.iconst (-1), 1) := by decide +kernel
theorem dX0_drain_21 : decode cX0_drain 21 = .ok (.invokestatic 34, 3) := by decide +kernel
theorem dX0_drain_24 : decode cX0_drain 24 = .ok (.aload_n 0, 1) := by decide +kernel
theorem dX0_drain_25 : decode cX0_drain 25 = .ok (.getfield 31, 3) := by decide +kernel
theorem dX0_drain_28 : decode cX0_drain 28 = .ok (.iconst 0, 1) := by decide +kernel
theorem dX0_drain_29 : decode cX0_drain 29 = .ok (.invokestatic 34, 3) := by decide +kernel
theorem dX0_drain_32 : decode cX0_drain 32 = .ok (.return_, 1) := by decide +kernel
theorem dX0_copyFrom_0 : decode cX0_copyFrom 0 = .ok (.aload_n 0, 1) := by decide +kernel
theorem dX0_copyFrom_1 : decode cX0_copyFrom 1 = .ok (.aload_n 1, 1) := by decide +kernel
theorem dX0_copyFrom_2 : decode cX0_copyFrom 2 = .ok (.getfield 9, 3) := by decide +kernel
theorem dX0_copyFrom_5 : decode cX0_copyFrom 5 = .ok (.putfield 9, 3) := by decide +kernel
theorem dX0_copyFrom_8 : decode cX0_copyFrom 8 = .ok (.aload_n 0, 1) := by decide +kernel
theorem dX0_copyFrom_9 : decode cX0_copyFrom 9 = .ok (.aload_n 1, 1) := by decide +kernel
theorem dX0_copyFrom_10 : decode cX0_copyFrom 10 = .ok (.getfield 15, 3) := by decide +kernel
theorem dX0_copyFrom_13 : decode cX0_copyFrom 13 = .ok (.putfield 15, 3) := by decide +kernel
theorem dX0_copyFrom_16 : decode cX0_copyFrom 16 = .ok (.aload_n 1, 1) := by decide +kernel
theorem dX0_copyFrom_17 : decode cX0_copyFrom 17 = .ok (.getfield 18, 3) := by decide +kernel
theorem dX0_copyFrom_20 : decode cX0_copyFrom 20 = .ok (.iconst 0, 1) := by decide +kernel
theorem dX0_copyFrom_21 : decode cX0_copyFrom 21 = .ok (.aload_n 0, 1) := by decide +kernel
theorem dX0_copyFrom_22 : decode cX0_copyFrom 22 = .ok (.getfield 18, 3) := by decide +kernel
theorem dX0_copyFrom_25 : decode cX0_copyFrom 25 = .ok (.iconst 0, 1) := by decide +kernel
theorem dX0_copyFrom_26 : decode cX0_copyFrom 26 = .ok (.aload_n 0, 1) := by decide +kernel
theorem dX0_copyFrom_27 : decode cX0_copyFrom 27 = .ok (.getfield 18, 3) := by decide +kernel
theorem dX0_copyFrom_30 : decode cX0_copyFrom 30 = .ok (.arraylength, 1) := by decide +kernel
theorem dX0_copyFrom_31 : decode cX0_copyFrom 31 = .ok (.invokestatic 43, 3) := by decide +kernel
theorem dX0_copyFrom_34 : decode cX0_copyFrom 34 = .ok (.aload_n 1, 1) := by decide +kernel
theorem dX0_copyFrom_35 : decode cX0_copyFrom 35 = .ok (.getfield 22, 3) := by decide +kernel
theorem dX0_copyFrom_38 : decode cX0_copyFrom 38 = .ok (.iconst 0, 1) := by decide +kernel
theorem dX0_copyFrom_39 : decode cX0_copyFrom 39 = .ok (.aload_n 0, 1) := by decide +kernel
theorem dX0_copyFrom_40 : decode cX0_copyFrom 40 = .ok (.getfield 22, 3) := by decide +kernel
theorem dX0_copyFrom_43 : decode cX0_copyFrom 43 = .ok (.iconst 0, 1) := by decide +kernel
theorem dX0_copyFrom_44 : decode cX0_copyFrom 44 = .ok (.aload_n 0, 1) := by decide +kernel
theorem dX0_copyFrom_45 : decode cX0_copyFrom 45 = .ok (.getfield 22, 3) := by decide +kernel
theorem dX0_copyFrom_48 : decode cX0_copyFrom 48 = .ok (.arraylength, 1) := by decide +kernel
theorem dX0_copyFrom_49 : decode cX0_copyFrom 49 = .ok (.invokestatic 43, 3) := by decide +kernel
theorem dX0_copyFrom_52 : decode cX0_copyFrom 52 = .ok (.aload_n 1, 1) := by decide +kernel
theorem dX0_copyFrom_53 : decode cX0_copyFrom 53 = .ok (.getfield 25, 3) := by decide +kernel
theorem dX0_copyFrom_56 : decode cX0_copyFrom 56 = .ok (.iconst 0, 1) := by decide +kernel
theorem dX0_copyFrom_57 : decode cX0_copyFrom 57 = .ok (.aload_n 0, 1) := by decide +kernel
theorem dX0_copyFrom_58 : decode cX0_copyFrom 58 = .ok (.getfield 25, 3) := by decide +kernel
theorem dX0_copyFrom_61 : decode cX0_copyFrom 61 = .ok (.iconst 0, 1) := by decide +kernel
theorem dX0_copyFrom_62 : decode cX0_copyFrom 62 = .ok (.aload_n 0, 1) := by decide +kernel
theorem dX0_copyFrom_63 : decode cX0_copyFrom 63 = .ok (.getfield 25, 3) := by decide +kernel
theorem dX0_copyFrom_66 : decode cX0_copyFrom 66 = .ok (.arraylength, 1) := by decide +kernel
theorem dX0_copyFrom_67 : decode cX0_copyFrom 67 = .ok (.invokestatic 43, 3) := by decide +kernel
theorem dX0_copyFrom_70 : decode cX0_copyFrom 70 = .ok (.aload_n 1, 1) := by decide +kernel
theorem dX0_copyFrom_71 : decode cX0_copyFrom 71 = .ok (.getfield 28, 3) := by decide +kernel
theorem dX0_copyFrom_74 : decode cX0_copyFrom 74 = .ok (.iconst 0, 1) := by decide +kernel
theorem dX0_copyFrom_75 : decode cX0_copyFrom 75 = .ok (.aload_n 0, 1) := by decide +kernel
theorem dX0_copyFrom_76 : decode cX0_copyFrom 76 = .ok (.getfield 28, 3) := by decide +kernel
theorem dX0_copyFrom_79 : decode cX0_copyFrom 79 = .ok (.iconst 0, 1) := by decide +kernel
theorem dX0_copyFrom_80 : decode cX0_copyFrom 80 = .ok (.aload_n 0, 1) := by decide +kernel
theorem dX0_copyFrom_81 : decode cX0_copyFrom 81 = .ok (.getfield 28, 3) := by decide +kernel
theorem dX0_copyFrom_84 : decode cX0_copyFrom 84 = .ok (.arraylength, 1) := by decide +kernel
theorem dX0_copyFrom_85 : decode cX0_copyFrom 85 = .ok (.invokestatic 43, 3) := by decide +kernel
theorem dX0_copyFrom_88 : decode cX0_copyFrom 88 = .ok (.aload_n 1, 1) := by decide +kernel
theorem dX0_copyFrom_89 : decode cX0_copyFrom 89 = .ok (.getfield 31, 3) := by decide +kernel
theorem dX0_copyFrom_92 : decode cX0_copyFrom 92 = .ok (.iconst 0, 1) := by decide +kernel
theorem dX0_copyFrom_93 : decode cX0_copyFrom 93 = .ok (.aload_n 0, 1) := by decide +kernel
theorem dX0_copyFrom_94 : decode cX0_copyFrom 94 = .ok (.getfield 31, 3) := by decide +kernel
theorem dX0_copyFrom_97 : decode cX0_copyFrom 97 = .ok (.iconst 0, 1) := by decide +kernel
theorem dX0_copyFrom_98 : decode cX0_copyFrom 98 = .ok (.aload_n 0, 1) := by decide +kernel
theorem dX0_copyFrom_99 : decode cX0_copyFrom 99 = .ok (.getfield 31, 3) := by decide +kernel
theorem dX0_copyFrom_102 : decode cX0_copyFrom 102 = .ok (.arraylength, 1) := by decide +kernel
theorem dX0_copyFrom_103 : decode cX0_copyFrom 103 = .ok (.invokestatic 43, 3) := by decide +kernel
theorem dX0_copyFrom_106 : decode cX0_copyFrom 106 = .ok (.return_, 1) := by decide +kernel
theorem dX0_blocked_0 : decode cX0_blocked 0 = .ok (.iconst 0, 1) := by decide +kernel
theorem dX0_blocked_1 : decode cX0_blocked 1 = .ok (.istore_n 2, 1) := by decide +kernel
theorem dX0_blocked_2 : decode cX0_blocked 2 = .ok (.iconst 0, 1) := by decide +kernel
theorem dX0_blocked_3 : decode cX0_blocked 3 = .ok (.istore_n 3, 1) := by decide +kernel
theorem dX0_blocked_4 : decode cX0_blocked 4 = .ok (.iload_n 3, 1) := by decide +kernel
theorem dX0_blocked_5 : decode cX0_blocked 5 = .ok (.aload_n 1, 1) := by decide +kernel
theorem dX0_blocked_6 : decode cX0_blocked 6 = .ok (.getfield 49, 3) := by decide +kernel
theorem dX0_blocked_9 : decode cX0_blocked 9 = .ok (.if_icmp .ge 28, 3) := by decide +kernel
theorem dX0_blocked_12 : decode cX0_blocked 12 = .ok (.aload_n 0, 1) := by decide +kernel
theorem dX0_blocked_13 : decode cX0_blocked 13 = .ok (.getfield 18, 3) := by decide +kernel
theorem dX0_blocked_16 : decode cX0_blocked 16 = .ok (.iload_n 3, 1) := by decide +kernel
theorem dX0_blocked_17 : decode cX0_blocked 17 = .ok (.iaload, 1) := by decide +kernel
theorem dX0_blocked_18 : decode cX0_blocked 18 = .ok (.aload_n 1, 1) := by decide +kernel
theorem dX0_blocked_19 : decode cX0_blocked 19 = .ok (.getfield 54, 3) := by decide +kernel
theorem dX0_blocked_22 : decode cX0_blocked 22 = .ok (.if_icmp .lt 9, 3) := by decide +kernel
theorem dX0_blocked_25 : decode cX0_blocked 25 = .ok (.iload_n 2, 1) := by decide +kernel
theorem dX0_blocked_26 : decode cX0_blocked 26 = .ok (.iconst 1, 1) := by decide +kernel
theorem dX0_blocked_27 : decode cX0_blocked 27 = .ok (.iload_n 3, 1) := by decide +kernel
theorem dX0_blocked_28 : decode cX0_blocked 28 = .ok (.ishl, 1) := by decide +kernel
theorem dX0_blocked_29 : decode cX0_blocked 29 = .ok (.ior, 1) := by decide +kernel
theorem dX0_blocked_30 : decode cX0_blocked 30 = .ok (.istore_n 2, 1) := by decide +kernel
theorem dX0_blocked_31 : decode cX0_blocked 31 = .ok (.iinc 3 1, 3) := by decide +kernel
theorem dX0_blocked_34 : decode cX0_blocked 34 = .ok (.goto (-30), 3) := by decide +kernel
theorem dX0_blocked_37 : decode cX0_blocked 37 = .ok (.iload_n 2, 1) := by decide +kernel
theorem dX0_blocked_38 : decode cX0_blocked 38 = .ok (.ireturn, 1) := by decide +kernel
theorem dX0_yetToCome_0 : decode cX0_yetToCome 0 = .ok (.iconst 0, 1) := by decide +kernel
theorem dX0_yetToCome_1 : decode cX0_yetToCome 1 = .ok (.istore_n 1, 1) := by decide +kernel
theorem dX0_yetToCome_2 : decode cX0_yetToCome 2 = .ok (.iconst 0, 1) := by decide +kernel
theorem dX0_yetToCome_3 : decode cX0_yetToCome 3 = .ok (.istore_n 2, 1) := by decide +kernel
theorem dX0_yetToCome_4 : decode cX0_yetToCome 4 = .ok (.iload_n 2, 1) := by decide +kernel
theorem dX0_yetToCome_5 : decode cX0_yetToCome 5 = .ok (.aload_n 0, 1) := by decide +kernel
theorem dX0_yetToCome_6 : decode cX0_yetToCome 6 = .ok (.getfield 31, 3) := by decide +kernel
theorem dX0_yetToCome_9 : decode cX0_yetToCome 9 = .ok (.arraylength, 1) := by decide +kernel
theorem dX0_yetToCome_10 : decode cX0_yetToCome 10 = .ok (.if_icmp .ge 21, 3) := by decide +kernel
theorem dX0_yetToCome_13 : decode cX0_yetToCome 13 = .ok (.iload_n 1, 1) := by decide +kernel
theorem dX0_yetToCome_14 : decode cX0_yetToCome 14 = .ok (.aload_n 0, 1) := by decide +kernel
theorem dX0_yetToCome_15 : decode cX0_yetToCome 15 = .ok (.getfield 31, 3) := by decide +kernel
theorem dX0_yetToCome_18 : decode cX0_yetToCome 18 = .ok (.iload_n 2, 1) := by decide +kernel
theorem dX0_yetToCome_19 : decode cX0_yetToCome 19 = .ok (.iaload, 1) := by decide +kernel
theorem dX0_yetToCome_20 : decode cX0_yetToCome 20 = .ok (.invokestatic 57, 3) := by decide +kernel
theorem dX0_yetToCome_23 : decode cX0_yetToCome 23 = .ok (.iadd, 1) := by decide +kernel
theorem dX0_yetToCome_24 : decode cX0_yetToCome 24 = .ok (.istore_n 1, 1) := by decide +kernel
theorem dX0_yetToCome_25 : decode cX0_yetToCome 25 = .ok (.iinc 2 1, 3) := by decide +kernel
theorem dX0_yetToCome_28 : decode cX0_yetToCome 28 = .ok (.goto (-24), 3) := by decide +kernel
theorem dX0_yetToCome_31 : decode cX0_yetToCome 31 = .ok (.iload_n 1, 1) := by decide +kernel
theorem dX0_yetToCome_32 : decode cX0_yetToCome 32 = .ok (.ireturn, 1) := by decide +kernel
theorem dX0_soonestAt_0 : decode cX0_soonestAt 0 = .ok (.iconst (-1), 1) := by decide +kernel
theorem dX0_soonestAt_1 : decode cX0_soonestAt 1 = .ok (.istore_n 2, 1) := by decide +kernel
theorem dX0_soonestAt_2 : decode cX0_soonestAt 2 = .ok (.iconst 0, 1) := by decide +kernel
theorem dX0_soonestAt_3 : decode cX0_soonestAt 3 = .ok (.istore_n 3, 1) := by decide +kernel
theorem dX0_soonestAt_4 : decode cX0_soonestAt 4 = .ok (.iload_n 3, 1) := by decide +kernel
theorem dX0_soonestAt_5 : decode cX0_soonestAt 5 = .ok (.bipush 8, 2) := by decide +kernel
theorem dX0_soonestAt_7 : decode cX0_soonestAt 7 = .ok (.if_icmp .ge 42, 3) := by decide +kernel
theorem dX0_soonestAt_10 : decode cX0_soonestAt 10 = .ok (.aload_n 0, 1) := by decide +kernel
theorem dX0_soonestAt_11 : decode cX0_soonestAt 11 = .ok (.getfield 28, 3) := by decide +kernel
theorem dX0_soonestAt_14 : decode cX0_soonestAt 14 = .ok (.iload_n 1, 1) := by decide +kernel
theorem dX0_soonestAt_15 : decode cX0_soonestAt 15 = .ok (.bipush 8, 2) := by decide +kernel
theorem dX0_soonestAt_17 : decode cX0_soonestAt 17 = .ok (.imul, 1) := by decide +kernel
theorem dX0_soonestAt_18 : decode cX0_soonestAt 18 = .ok (.iload_n 3, 1) := by decide +kernel
theorem dX0_soonestAt_19 : decode cX0_soonestAt 19 = .ok (.iadd, 1) := by decide +kernel
theorem dX0_soonestAt_20 : decode cX0_soonestAt 20 = .ok (.iaload, 1) := by decide +kernel
theorem dX0_soonestAt_21 : decode cX0_soonestAt 21 = .ok (.istore 4, 2) := by decide +kernel
theorem dX0_soonestAt_23 : decode cX0_soonestAt 23 = .ok (.iload 4, 2) := by decide +kernel
theorem dX0_soonestAt_25 : decode cX0_soonestAt 25 = .ok (.iconst (-1), 1) := by decide +kernel
theorem dX0_soonestAt_26 : decode cX0_soonestAt 26 = .ok (.if_icmp .eq 17, 3) := by decide +kernel
theorem dX0_soonestAt_29 : decode cX0_soonestAt 29 = .ok (.iload_n 2, 1) := by decide +kernel
theorem dX0_soonestAt_30 : decode cX0_soonestAt 30 = .ok (.iconst (-1), 1) := by decide +kernel
theorem dX0_soonestAt_31 : decode cX0_soonestAt 31 = .ok (.if_icmp .eq 9, 3) := by decide +kernel
theorem dX0_soonestAt_34 : decode cX0_soonestAt 34 = .ok (.iload 4, 2) := by decide +kernel
theorem dX0_soonestAt_36 : decode cX0_soonestAt 36 = .ok (.iload_n 2, 1) := by decide +kernel
theorem dX0_soonestAt_37 : decode cX0_soonestAt 37 = .ok (.if_icmp .ge 6, 3) := by decide +kernel
theorem dX0_soonestAt_40 : decode cX0_soonestAt 40 = .ok (.iload 4, 2) := by decide +kernel
theorem dX0_soonestAt_42 : decode cX0_soonestAt 42 = .ok (.istore_n 2, 1) := by decide +kernel
theorem dX0_soonestAt_43 : decode cX0_soonestAt 43 = .ok (.iinc 3 1, 3) := by decide +kernel
theorem dX0_soonestAt_46 : decode cX0_soonestAt 46 = .ok (.goto (-42), 3) := by decide +kernel
theorem dX0_soonestAt_49 : decode cX0_soonestAt 49 = .ok (.iload_n 2, 1) := by decide +kernel
theorem dX0_soonestAt_50 : decode cX0_soonestAt 50 = .ok (.ireturn, 1) := by decide +kernel
theorem dX0_comeToSpring_0 : decode cX0_comeToSpring 0 = .ok (.iconst 0, 1) := by decide +kernel
theorem dX0_comeToSpring_1 : decode cX0_comeToSpring 1 = .ok (.aload_n 0, 1) := by decide +kernel
theorem dX0_comeToSpring_2 : decode cX0_comeToSpring 2 = .ok (.getfield 9, 3) := by decide +kernel
theorem dX0_comeToSpring_5 : decode cX0_comeToSpring 5 = .ok (.bipush 10, 2) := by decide +kernel
theorem dX0_comeToSpring_7 : decode cX0_comeToSpring 7 = .ok (.irem, 1) := by decide +kernel
theorem dX0_comeToSpring_8 : decode cX0_comeToSpring 8 = .ok (.iadd, 1) := by decide +kernel
theorem dX0_comeToSpring_9 : decode cX0_comeToSpring 9 = .ok (.istore_n 2, 1) := by decide +kernel
theorem dX0_comeToSpring_10 : decode cX0_comeToSpring 10 = .ok (.aload_n 0, 1) := by decide +kernel
theorem dX0_comeToSpring_11 : decode cX0_comeToSpring 11 = .ok (.getfield 31, 3) := by decide +kernel
theorem dX0_comeToSpring_14 : decode cX0_comeToSpring 14 = .ok (.iload_n 2, 1) := by decide +kernel
theorem dX0_comeToSpring_15 : decode cX0_comeToSpring 15 = .ok (.dup2, 1) := by decide +kernel
theorem dX0_comeToSpring_16 : decode cX0_comeToSpring 16 = .ok (.iaload, 1) := by decide +kernel
theorem dX0_comeToSpring_17 : decode cX0_comeToSpring 17 = .ok (.iload_n 1, 1) := by decide +kernel
theorem dX0_comeToSpring_18 : decode cX0_comeToSpring 18 = .ok (.ior, 1) := by decide +kernel
theorem dX0_comeToSpring_19 : decode cX0_comeToSpring 19 = .ok (.iastore, 1) := by decide +kernel
theorem dX0_comeToSpring_20 : decode cX0_comeToSpring 20 = .ok (.aload_n 0, 1) := by decide +kernel
theorem dX0_comeToSpring_21 : decode cX0_comeToSpring 21 = .ok (.getfield 31, 3) := by decide +kernel
theorem dX0_comeToSpring_24 : decode cX0_comeToSpring 24 = .ok (.iload_n 2, 1) := by decide +kernel
theorem dX0_comeToSpring_25 : decode cX0_comeToSpring 25 = .ok (.iaload, 1) := by decide +kernel
theorem dX0_comeToSpring_26 : decode cX0_comeToSpring 26 = .ok (.ireturn, 1) := by decide +kernel
theorem dX0_passHour_0 : decode cX0_passHour 0 = .ok (.iconst 0, 1) := by decide +kernel
theorem dX0_passHour_1 : decode cX0_passHour 1 = .ok (.istore_n 2, 1) := by decide +kernel
theorem dX0_passHour_2 : decode cX0_passHour 2 = .ok (.iload_n 2, 1) := by decide +kernel
theorem dX0_passHour_3 : decode cX0_passHour 3 = .ok (.aload_n 1, 1) := by decide +kernel
theorem dX0_passHour_4 : decode cX0_passHour 4 = .ok (.getfield 63, 3) := by decide +kernel
theorem dX0_passHour_7 : decode cX0_passHour 7 = .ok (.if_icmp .ge 57, 3) := by decide +kernel
theorem dX0_passHour_10 : decode cX0_passHour 10 = .ok (.iload_n 2, 1) := by decide +kernel
theorem dX0_passHour_11 : decode cX0_passHour 11 = .ok (.bipush 10, 2) := by decide +kernel
theorem dX0_passHour_13 : decode cX0_passHour 13 = .ok (.imul, 1) := by decide +kernel
theorem dX0_passHour_14 : decode cX0_passHour 14 = .ok (.aload_n 0, 1) := by decide +kernel
theorem dX0_passHour_15 : decode cX0_passHour 15 = .ok (.getfield 9, 3) := by decide +kernel
theorem dX0_passHour_18 : decode cX0_passHour 18 = .ok (.bipush 10, 2) := by decide +kernel
theorem dX0_passHour_20 : decode cX0_passHour 20 = .ok (.irem, 1) := by decide +kernel
theorem dX0_passHour_21 : decode cX0_passHour 21 = .ok (.iadd, 1) := by decide +kernel
theorem dX0_passHour_22 : decode cX0_passHour 22 = .ok (.istore_n 3, 1) := by decide +kernel
theorem dX0_passHour_23 : decode cX0_passHour 23 = .ok (.aload_n 0, 1) := by decide +kernel
theorem dX0_passHour_24 : decode cX0_passHour 24 = .ok (.getfield 31, 3) := by decide +kernel
theorem dX0_passHour_27 : decode cX0_passHour 27 = .ok (.iload_n 3, 1) := by decide +kernel
theorem dX0_passHour_28 : decode cX0_passHour 28 = .ok (.iaload, 1) := by decide +kernel
theorem dX0_passHour_29 : decode cX0_passHour 29 = .ok (.istore 4, 2) := by decide +kernel
theorem dX0_passHour_31 : decode cX0_passHour 31 = .ok (.aload_n 0, 1) := by decide +kernel
theorem dX0_passHour_32 : decode cX0_passHour 32 = .ok (.getfield 31, 3) := by decide +kernel
theorem dX0_passHour_35 : decode cX0_passHour 35 = .ok (.iload_n 3, 1) := by decide +kernel
theorem dX0_passHour_36 : decode cX0_passHour 36 = .ok (.iconst 0, 1) := by decide +kernel
theorem dX0_passHour_37 : decode cX0_passHour 37 = .ok (.iastore, 1) := by decide +kernel
theorem dX0_passHour_38 : decode cX0_passHour 38 = .ok (.aload_n 0, 1) := by decide +kernel
theorem dX0_passHour_39 : decode cX0_passHour 39 = .ok (.iload_n 2, 1) := by decide +kernel
theorem dX0_passHour_40 : decode cX0_passHour 40 = .ok (.iload 4, 2) := by decide +kernel
theorem dX0_passHour_42 : decode cX0_passHour 42 = .ok (.invokevirtual 66, 3) := by decide +kernel
theorem dX0_passHour_45 : decode cX0_passHour 45 = .ok (.aload_n 0, 1) := by decide +kernel
theorem dX0_passHour_46 : decode cX0_passHour 46 = .ok (.aload_n 1, 1) := by decide +kernel
theorem dX0_passHour_47 : decode cX0_passHour 47 = .ok (.iload_n 2, 1) := by decide +kernel
theorem dX0_passHour_48 : decode cX0_passHour 48 = .ok (.aload_n 1, 1) := by decide +kernel
theorem dX0_passHour_49 : decode cX0_passHour 49 = .ok (.iload_n 2, 1) := by decide +kernel
theorem dX0_passHour_50 : decode cX0_passHour 50 = .ok (.iload 4, 2) := by decide +kernel
theorem dX0_passHour_52 : decode cX0_passHour 52 = .ok (.invokevirtual 70, 3) := by decide +kernel
theorem dX0_passHour_55 : decode cX0_passHour 55 = .ok (.invokevirtual 74, 3) := by decide +kernel
theorem dX0_passHour_58 : decode cX0_passHour 58 = .ok (.iinc 2 1, 3) := by decide +kernel
theorem dX0_passHour_61 : decode cX0_passHour 61 = .ok (.goto (-59), 3) := by decide +kernel
theorem dX0_passHour_64 : decode cX0_passHour 64 = .ok (.aload_n 0, 1) := by decide +kernel
theorem dX0_passHour_65 : decode cX0_passHour 65 = .ok (.dup, 1) := by decide +kernel
theorem dX0_passHour_66 : decode cX0_passHour 66 = .ok (.getfield 9, 3) := by decide +kernel
theorem dX0_passHour_69 : decode cX0_passHour 69 = .ok (.iconst 1, 1) := by decide +kernel
theorem dX0_passHour_70 : decode cX0_passHour 70 = .ok (.iadd, 1) := by decide +kernel
theorem dX0_passHour_71 : decode cX0_passHour 71 = .ok (.putfield 9, 3) := by decide +kernel
theorem dX0_passHour_74 : decode cX0_passHour 74 = .ok (.return_, 1) := by decide +kernel
theorem dX0_sendOn_0 : decode cX0_sendOn 0 = .ok (.iload_n 3, 1) := by decide +kernel
theorem dX0_sendOn_1 : decode cX0_sendOn 1 = .ok (.ifCond .ne 4, 3) := by decide +kernel
theorem dX0_sendOn_4 : decode cX0_sendOn 4 = .ok (.return_, 1) := by decide +kernel
theorem dX0_sendOn_5 : decode cX0_sendOn 5 = .ok (.iconst 0, 1) := by decide +kernel
theorem dX0_sendOn_6 : decode cX0_sendOn 6 = .ok (.istore 4, 2) := by decide +kernel
theorem dX0_sendOn_8 : decode cX0_sendOn 8 = .ok (.iload 4, 2) := by decide +kernel
theorem dX0_sendOn_10 : decode cX0_sendOn 10 = .ok (.aload_n 1, 1) := by decide +kernel
theorem dX0_sendOn_11 : decode cX0_sendOn 11 = .ok (.getfield 49, 3) := by decide +kernel
theorem dX0_sendOn_14 : decode cX0_sendOn 14 = .ok (.if_icmp .ge 107, 3) := by decide +kernel
theorem dX0_sendOn_17 : decode cX0_sendOn 17 = .ok (.aload_n 1, 1) := by decide +kernel
theorem dX0_sendOn_18 : decode cX0_sendOn 18 = .ok (.getfield 78, 3) := by decide +kernel
theorem dX0_sendOn_21 : decode cX0_sendOn 21 = .ok (.iload 4, 2) := by decide +kernel
theorem dX0_sendOn_23 : decode cX0_sendOn 23 = .ok (.iaload, 1) := by decide +kernel
theorem dX0_sendOn_24 : decode cX0_sendOn 24 = .ok (.iload_n 2, 1) := by decide +kernel
theorem dX0_sendOn_25 : decode cX0_sendOn 25 = .ok (.if_icmp .ne 90, 3) := by decide +kernel
theorem dX0_sendOn_28 : decode cX0_sendOn 28 = .ok (.aload_n 0, 1) := by decide +kernel
theorem dX0_sendOn_29 : decode cX0_sendOn 29 = .ok (.getfield 15, 3) := by decide +kernel
theorem dX0_sendOn_32 : decode cX0_sendOn 32 = .ok (.iload 4, 2) := by decide +kernel
theorem dX0_sendOn_34 : decode cX0_sendOn 34 = .ok (.invokestatic 81, 3) := by decide +kernel
theorem dX0_sendOn_37 : decode cX0_sendOn 37 = .ok (.ifCond .ne 78, 3) := by decide +kernel
theorem dX0_sendOn_40 : decode cX0_sendOn 40 = .ok (.aload_n 0, 1) := by decide +kernel
theorem dX0_sendOn_41 : decode cX0_sendOn 41 = .ok (.getfield 18, 3) := by decide +kernel
theorem dX0_sendOn_44 : decode cX0_sendOn 44 = .ok (.iload 4, 2) := by decide +kernel
theorem dX0_sendOn_46 : decode cX0_sendOn 46 = .ok (.iaload, 1) := by decide +kernel
theorem dX0_sendOn_47 : decode cX0_sendOn 47 = .ok (.aload_n 1, 1) := by decide +kernel
theorem dX0_sendOn_48 : decode cX0_sendOn 48 = .ok (.getfield 54, 3) := by decide +kernel
theorem dX0_sendOn_51 : decode cX0_sendOn 51 = .ok (.if_icmp .ge 64, 3) := by decide +kernel
theorem dX0_sendOn_54 : decode cX0_sendOn 54 = .ok (.aload_n 0, 1) := by decide +kernel
theorem dX0_sendOn_55 : decode cX0_sendOn 55 = .ok (.getfield 18, 3) := by decide +kernel
theorem dX0_sendOn_58 : decode cX0_sendOn 58 = .ok (.iload 4, 2) := by decide +kernel
theorem dX0_sendOn_60 : decode cX0_sendOn 60 = .ok (.dup2, 1) := by decide +kernel
theorem dX0_sendOn_61 : decode cX0_sendOn 61 = .ok (.iaload, 1) := by decide +kernel
theorem dX0_sendOn_62 : decode cX0_sendOn 62 = .ok (.iload_n 3, 1) := by decide +kernel
theorem dX0_sendOn_63 : decode cX0_sendOn 63 = .ok (.invokestatic 57, 3) := by decide +kernel
theorem dX0_sendOn_66 : decode cX0_sendOn 66 = .ok (.iadd, 1) := by decide +kernel
theorem dX0_sendOn_67 : decode cX0_sendOn 67 = .ok (.iastore, 1) := by decide +kernel
theorem dX0_sendOn_68 : decode cX0_sendOn 68 = .ok (.aload_n 0, 1) := by decide +kernel
theorem dX0_sendOn_69 : decode cX0_sendOn 69 = .ok (.getfield 31, 3) := by decide +kernel
theorem dX0_sendOn_72 : decode cX0_sendOn 72 = .ok (.aload_n 1, 1) := by decide +kernel
theorem dX0_sendOn_73 : decode cX0_sendOn 73 = .ok (.getfield 85, 3) := by decide +kernel
theorem dX0_sendOn_76 : decode cX0_sendOn 76 = .ok (.iload 4, 2) := by decide +kernel
theorem dX0_sendOn_78 : decode cX0_sendOn 78 = .ok (.iaload, 1) := by decide +kernel
theorem dX0_sendOn_79 : decode cX0_sendOn 79 = .ok (.bipush 10, 2) := by decide +kernel
theorem dX0_sendOn_81 : decode cX0_sendOn 81 = .ok (.imul, 1) := by decide +kernel
theorem dX0_sendOn_82 : decode cX0_sendOn 82 = .ok (.aload_n 0, 1) := by decide +kernel
theorem dX0_sendOn_83 : decode cX0_sendOn 83 = .ok (.getfield 9, 3) := by decide +kernel
theorem dX0_sendOn_86 : decode cX0_sendOn 86 = .ok (.aload_n 1, 1) := by decide +kernel
theorem dX0_sendOn_87 : decode cX0_sendOn 87 = .ok (.getfield 88, 3) := by decide +kernel
theorem dX0_sendOn_90 : decode cX0_sendOn 90 = .ok (.iload 4, 2) := by decide +kernel
theorem dX0_sendOn_92 : decode cX0_sendOn 92 = .ok (.iaload, 1) := by decide +kernel
theorem dX0_sendOn_93 : decode cX0_sendOn 93 = .ok (.iadd, 1) := by decide +kernel
theorem dX0_sendOn_94 : decode cX0_sendOn 94 = .ok (.bipush 10, 2) := by decide +kernel
theorem dX0_sendOn_96 : decode cX0_sendOn 96 = .ok (.irem, 1) := by decide +kernel
theorem dX0_sendOn_97 : decode cX0_sendOn 97 = .ok (.iadd, 1) := by decide +kernel
theorem dX0_sendOn_98 : decode cX0_sendOn 98 = .ok (.dup2, 1) := by decide +kernel
theorem dX0_sendOn_99 : decode cX0_sendOn 99 = .ok (.iaload, 1) := by decide +kernel
theorem dX0_sendOn_100 : decode cX0_sendOn 100 = .ok (.iload_n 3, 1) := by decide +kernel
theorem dX0_sendOn_101 : decode cX0_sendOn 101 = .ok (.ior, 1) := by decide +kernel
theorem dX0_sendOn_102 : decode cX0_sendOn 102 = .ok (.iastore, 1) := by decide +kernel
theorem dX0_sendOn_103 : decode cX0_sendOn 103 = .ok (.aload_n 0, 1) := by decide +kernel
theorem dX0_sendOn_104 : decode cX0_sendOn 104 = .ok (.aload_n 0, 1) := by decide +kernel
theorem dX0_sendOn_105 : decode cX0_sendOn 105 = .ok (.getfield 22, 3) := by decide +kernel
theorem dX0_sendOn_108 : decode cX0_sendOn 108 = .ok (.iload 4, 2) := by decide +kernel
theorem dX0_sendOn_110 : decode cX0_sendOn 110 = .ok (.iaload, 1) := by decide +kernel
theorem dX0_sendOn_111 : decode cX0_sendOn 111 = .ok (.iload_n 3, 1) := by decide +kernel
theorem dX0_sendOn_112 : decode cX0_sendOn 112 = .ok (.invokevirtual 66, 3) := by decide +kernel
theorem dX0_sendOn_115 : decode cX0_sendOn 115 = .ok (.iinc 4 1, 3) := by decide +kernel
theorem dX0_sendOn_118 : decode cX0_sendOn 118 = .ok (.goto (-110), 3) := by decide +kernel
theorem dX0_sendOn_121 : decode cX0_sendOn 121 = .ok (.return_, 1) := by decide +kernel
theorem dX0_hearAt_0 : decode cX0_hearAt 0 = .ok (.iload_n 1, 1) := by decide +kernel
theorem dX0_hearAt_1 : decode cX0_hearAt 1 = .ok (.ifCond .lt 9, 3) := by decide +kernel
theorem dX0_hearAt_4 : decode cX0_hearAt 4 = .ok (.iload_n 1, 1) := by decide +kernel
theorem dX0_hearAt_5 : decode cX0_hearAt 5 = .ok (.bipush 8, 2) := by decide +kernel
theorem dX0_hearAt_7 : decode cX0_hearAt 7 = .ok (.if_icmp .lt 4, 3) := by decide +kernel
theorem dX0_hearAt_10 : decode cX0_hearAt 10 = .ok (.return_, 1) := by decide +kernel
theorem dX0_hearAt_11 : decode cX0_hearAt 11 = .ok (.iload_n 2, 1) := by decide +kernel
theorem dX0_hearAt_12 : decode cX0_hearAt 12 = .ok (.aload_n 0, 1) := by decide +kernel
theorem dX0_hearAt_13 : decode cX0_hearAt 13 = .ok (.getfield 25, 3) := by decide +kernel
theorem dX0_hearAt_16 : decode cX0_hearAt 16 = .ok (.iload_n 1, 1) := by decide +kernel
theorem dX0_hearAt_17 : decode cX0_hearAt 17 = .ok (.iaload, 1) := by decide +kernel
theorem dX0_hearAt_18 : decode cX0_hearAt 18 = .ok (.iconst (-1), 1) := by decide +kernel
theorem dX0_hearAt_19 : decode cX0_hearAt 19 = .ok (.ixor, 1) := by decide +kernel
theorem dX0_hearAt_20 : decode cX0_hearAt 20 = .ok (.iand, 1) := by decide +kernel
theorem dX0_hearAt_21 : decode cX0_hearAt 21 = .ok (.istore_n 3, 1) := by decide +kernel
theorem dX0_hearAt_22 : decode cX0_hearAt 22 = .ok (.aload_n 0, 1) := by decide +kernel
theorem dX0_hearAt_23 : decode cX0_hearAt 23 = .ok (.getfield 25, 3) := by decide +kernel
theorem dX0_hearAt_26 : decode cX0_hearAt 26 = .ok (.iload_n 1, 1) := by decide +kernel
theorem dX0_hearAt_27 : decode cX0_hearAt 27 = .ok (.dup2, 1) := by decide +kernel
theorem dX0_hearAt_28 : decode cX0_hearAt 28 = .ok (.iaload, 1) := by decide +kernel
theorem dX0_hearAt_29 : decode cX0_hearAt 29 = .ok (.iload_n 2, 1) := by decide +kernel
theorem dX0_hearAt_30 : decode cX0_hearAt 30 = .ok (.ior, 1) := by decide +kernel
theorem dX0_hearAt_31 : decode cX0_hearAt 31 = .ok (.iastore, 1) := by decide +kernel
theorem dX0_hearAt_32 : decode cX0_hearAt 32 = .ok (.iconst 0, 1) := by decide +kernel
theorem dX0_hearAt_33 : decode cX0_hearAt 33 = .ok (.istore 4, 2) := by decide +kernel
theorem dX0_hearAt_35 : decode cX0_hearAt 35 = .ok (.iload 4, 2) := by decide +kernel
theorem dX0_hearAt_37 : decode cX0_hearAt 37 = .ok (.bipush 8, 2) := by decide +kernel
theorem dX0_hearAt_39 : decode cX0_hearAt 39 = .ok (.if_icmp .ge 34, 3) := by decide +kernel
theorem dX0_hearAt_42 : decode cX0_hearAt 42 = .ok (.iload_n 3, 1) := by decide +kernel
theorem dX0_hearAt_43 : decode cX0_hearAt 43 = .ok (.iload 4, 2) := by decide +kernel
theorem dX0_hearAt_45 : decode cX0_hearAt 45 = .ok (.invokestatic 81, 3) := by decide +kernel
theorem dX0_hearAt_48 : decode cX0_hearAt 48 = .ok (.ifCond .eq 19, 3) := by decide +kernel
theorem dX0_hearAt_51 : decode cX0_hearAt 51 = .ok (.aload_n 0, 1) := by decide +kernel
theorem dX0_hearAt_52 : decode cX0_hearAt 52 = .ok (.getfield 28, 3) := by decide +kernel
theorem dX0_hearAt_55 : decode cX0_hearAt 55 = .ok (.iload_n 1, 1) := by decide +kernel
theorem dX0_hearAt_56 : decode cX0_hearAt 56 = .ok (.bipush 8, 2) := by decide +kernel
theorem dX0_hearAt_58 : decode cX0_hearAt 58 = .ok (.imul, 1) := by decide +kernel
theorem dX0_hearAt_59 : decode cX0_hearAt 59 = .ok (.iload 4, 2) := by decide +kernel
theorem dX0_hearAt_61 : decode cX0_hearAt 61 = .ok (.iadd, 1) := by decide +kernel
theorem dX0_hearAt_62 : decode cX0_hearAt 62 = .ok (.aload_n 0, 1) := by decide +kernel
theorem dX0_hearAt_63 : decode cX0_hearAt 63 = .ok (.getfield 9, 3) := by decide +kernel
theorem dX0_hearAt_66 : decode cX0_hearAt 66 = .ok (.iastore, 1) := by decide +kernel
theorem dX0_hearAt_67 : decode cX0_hearAt 67 = .ok (.iinc 4 1, 3) := by decide +kernel
theorem dX0_hearAt_70 : decode cX0_hearAt 70 = .ok (.goto (-35), 3) := by decide +kernel
theorem dX0_hearAt_73 : decode cX0_hearAt 73 = .ok (.return_, 1) := by decide +kernel
theorem dX1_init_0 : decode cX1_init 0 = .ok (.aload_n 0, 1) := by decide +kernel
theorem dX1_init_1 : decode cX1_init 1 = .ok (.invokespecial 1, 3) := by decide +kernel
theorem dX1_init_4 : decode cX1_init 4 = .ok (.aload_n 0, 1) := by decide +kernel
theorem dX1_init_5 : decode cX1_init 5 = .ok (.iconst 0, 1) := by decide +kernel
theorem dX1_init_6 : decode cX1_init 6 = .ok (.putfield 7, 3) := by decide +kernel
theorem dX1_init_9 : decode cX1_init 9 = .ok (.aload_n 0, 1) := by decide +kernel
theorem dX1_init_10 : decode cX1_init 10 = .ok (.iconst 0, 1) := by decide +kernel
theorem dX1_init_11 : decode cX1_init 11 = .ok (.putfield 13, 3) := by decide +kernel
theorem dX1_init_14 : decode cX1_init 14 = .ok (.aload_n 0, 1) := by decide +kernel
theorem dX1_init_15 : decode cX1_init 15 = .ok (.new 17, 3) := by decide +kernel
theorem dX1_init_18 : decode cX1_init 18 = .ok (.dup, 1) := by decide +kernel
theorem dX1_init_19 : decode cX1_init 19 = .ok (.invokespecial 19, 3) := by decide +kernel
theorem dX1_init_22 : decode cX1_init 22 = .ok (.putfield 20, 3) := by decide +kernel
theorem dX1_init_25 : decode cX1_init 25 = .ok (.return_, 1) := by decide +kernel
theorem dX2_init_0 : decode cX2_init 0 = .ok (.aload_n 0, 1) := by decide +kernel
theorem dX2_init_1 : decode cX2_init 1 = .ok (.invokespecial 3, 3) := by decide +kernel
theorem dX2_init_4 : decode cX2_init 4 = .ok (.aload_n 0, 1) := by decide +kernel
theorem dX2_init_5 : decode cX2_init 5 = .ok (.iconst 0, 1) := by decide +kernel
theorem dX2_init_6 : decode cX2_init 6 = .ok (.putfield 9, 3) := by decide +kernel
theorem dX2_init_9 : decode cX2_init 9 = .ok (.aload_n 0, 1) := by decide +kernel
theorem dX2_init_10 : decode cX2_init 10 = .ok (.iconst 0, 1) := by decide +kernel
theorem dX2_init_11 : decode cX2_init 11 = .ok (.putfield 15, 3) := by decide +kernel
theorem dX2_init_14 : decode cX2_init 14 = .ok (.aload_n 0, 1) := by decide +kernel
theorem dX2_init_15 : decode cX2_init 15 = .ok (.bipush 6, 2) := by decide +kernel
theorem dX2_init_17 : decode cX2_init 17 = .ok (.newarray .int, 2) := by decide +kernel
theorem dX2_init_19 : decode cX2_init 19 = .ok (.putfield 18, 3) := by decide +kernel
theorem dX2_init_22 : decode cX2_init 22 = .ok (.aload_n 0, 1) := by decide +kernel
theorem dX2_init_23 : decode cX2_init 23 = .ok (.bipush 6, 2) := by decide +kernel
theorem dX2_init_25 : decode cX2_init 25 = .ok (.newarray .int, 2) := by decide +kernel
theorem dX2_init_27 : decode cX2_init 27 = .ok (.putfield 22, 3) := by decide +kernel
theorem dX2_init_30 : decode cX2_init 30 = .ok (.aload_n 0, 1) := by decide +kernel
theorem dX2_init_31 : decode cX2_init 31 = .ok (.bipush 6, 2) := by decide +kernel
theorem dX2_init_33 : decode cX2_init 33 = .ok (.newarray .int, 2) := by decide +kernel
theorem dX2_init_35 : decode cX2_init 35 = .ok (.putfield 25, 3) := by decide +kernel
theorem dX2_init_38 : decode cX2_init 38 = .ok (.aload_n 0, 1) := by decide +kernel
theorem dX2_init_39 : decode cX2_init 39 = .ok (.bipush 15, 2) := by decide +kernel
theorem dX2_init_41 : decode cX2_init 41 = .ok (.newarray .int, 2) := by decide +kernel
theorem dX2_init_43 : decode cX2_init 43 = .ok (.putfield 28, 3) := by decide +kernel
theorem dX2_init_46 : decode cX2_init 46 = .ok (.aload_n 0, 1) := by decide +kernel
theorem dX2_init_47 : decode cX2_init 47 = .ok (.bipush 15, 2) := by decide +kernel
theorem dX2_init_49 : decode cX2_init 49 = .ok (.newarray .int, 2) := by decide +kernel
theorem dX2_init_51 : decode cX2_init 51 = .ok (.putfield 31, 3) := by decide +kernel
theorem dX2_init_54 : decode cX2_init 54 = .ok (.return_, 1) := by decide +kernel
theorem dX2_tearOut_0 : decode cX2_tearOut 0 = .ok (.aload_n 0, 1) := by decide +kernel
theorem dX2_tearOut_1 : decode cX2_tearOut 1 = .ok (.iconst 0, 1) := by decide +kernel
theorem dX2_tearOut_2 : decode cX2_tearOut 2 = .ok (.putfield 9, 3) := by decide +kernel
theorem dX2_tearOut_5 : decode cX2_tearOut 5 = .ok (.aload_n 0, 1) := by decide +kernel
theorem dX2_tearOut_6 : decode cX2_tearOut 6 = .ok (.iconst 0, 1) := by decide +kernel
theorem dX2_tearOut_7 : decode cX2_tearOut 7 = .ok (.putfield 15, 3) := by decide +kernel
theorem dX2_tearOut_10 : decode cX2_tearOut 10 = .ok (.return_, 1) := by decide +kernel
theorem dX2_addDrip_0 : decode cX2_addDrip 0 = .ok (.aload_n 0, 1) := by decide +kernel
theorem dX2_addDrip_1 : decode cX2_addDrip 1 = .ok (.getfield 9, 3) := by decide +kernel
theorem dX2_addDrip_4 : decode cX2_addDrip 4 = .ok (.bipush 6, 2) := by decide +kernel
theorem dX2_addDrip_6 : decode cX2_addDrip 6 = .ok (.if_icmp .lt 5, 3) := by decide +kernel
theorem dX2_addDrip_9 : decode cX2_addDrip 9 = .ok (.iconst 0, 1) := by decide +kernel
theorem dX2_addDrip_10 : decode cX2_addDrip 10 = .ok (.ireturn, 1) := by decide +kernel
theorem dX2_addDrip_11 : decode cX2_addDrip 11 = .ok (.aload_n 0, 1) := by decide +kernel
theorem dX2_addDrip_12 : decode cX2_addDrip 12 = .ok (.getfield 18, 3) := by decide +kernel
theorem dX2_addDrip_15 : decode cX2_addDrip 15 = .ok (.aload_n 0, 1) := by decide +kernel
theorem dX2_addDrip_16 : decode cX2_addDrip 16 = .ok (.getfield 9, 3) := by decide +kernel
theorem dX2_addDrip_19 : decode cX2_addDrip 19 = .ok (.iload_n 1, 1) := by decide +kernel
theorem dX2_addDrip_20 : decode cX2_addDrip 20 = .ok (.iastore, 1) := by decide +kernel
theorem dX2_addDrip_21 : decode cX2_addDrip 21 = .ok (.aload_n 0, 1) := by decide +kernel
theorem dX2_addDrip_22 : decode cX2_addDrip 22 = .ok (.getfield 22, 3) := by decide +kernel
theorem dX2_addDrip_25 : decode cX2_addDrip 25 = .ok (.aload_n 0, 1) := by decide +kernel
theorem dX2_addDrip_26 : decode cX2_addDrip 26 = .ok (.getfield 9, 3) := by decide +kernel
theorem dX2_addDrip_29 : decode cX2_addDrip 29 = .ok (.iload_n 2, 1) := by decide +kernel
theorem dX2_addDrip_30 : decode cX2_addDrip 30 = .ok (.iastore, 1) := by decide +kernel
theorem dX2_addDrip_31 : decode cX2_addDrip 31 = .ok (.aload_n 0, 1) := by decide +kernel
theorem dX2_addDrip_32 : decode cX2_addDrip 32 = .ok (.getfield 25, 3) := by decide +kernel
theorem dX2_addDrip_35 : decode cX2_addDrip 35 = .ok (.aload_n 0, 1) := by decide +kernel
theorem dX2_addDrip_36 : decode cX2_addDrip 36 = .ok (.getfield 9, 3) := by decide +kernel
theorem dX2_addDrip_39 : decode cX2_addDrip 39 = .ok (.iload_n 3, 1) := by decide +kernel
theorem dX2_addDrip_40 : decode cX2_addDrip 40 = .ok (.iastore, 1) := by decide +kernel
theorem dX2_addDrip_41 : decode cX2_addDrip 41 = .ok (.aload_n 0, 1) := by decide +kernel
theorem dX2_addDrip_42 : decode cX2_addDrip 42 = .ok (.dup, 1) := by decide +kernel
theorem dX2_addDrip_43 : decode cX2_addDrip 43 = .ok (.getfield 9, 3) := by decide +kernel
theorem dX2_addDrip_46 : decode cX2_addDrip 46 = .ok (.iconst 1, 1) := by decide +kernel
theorem dX2_addDrip_47 : decode cX2_addDrip 47 = .ok (.iadd, 1) := by decide +kernel
theorem dX2_addDrip_48 : decode cX2_addDrip 48 = .ok (.putfield 9, 3) := by decide +kernel
theorem dX2_addDrip_51 : decode cX2_addDrip 51 = .ok (.iconst 1, 1) := by decide +kernel
theorem dX2_addDrip_52 : decode cX2_addDrip 52 = .ok (.ireturn, 1) := by decide +kernel
theorem dX2_addEntry_0 : decode cX2_addEntry 0 = .ok (.aload_n 0, 1) := by decide +kernel
theorem dX2_addEntry_1 : decode cX2_addEntry 1 = .ok (.getfield 15, 3) := by decide +kernel
theorem dX2_addEntry_4 : decode cX2_addEntry 4 = .ok (.bipush 15, 2) := by decide +kernel
theorem dX2_addEntry_6 : decode cX2_addEntry 6 = .ok (.if_icmp .lt 5, 3) := by decide +kernel
theorem dX2_addEntry_9 : decode cX2_addEntry 9 = .ok (.iconst 0, 1) := by decide +kernel
theorem dX2_addEntry_10 : decode cX2_addEntry 10 = .ok (.ireturn, 1) := by decide +kernel
theorem dX2_addEntry_11 : decode cX2_addEntry 11 = .ok (.aload_n 0, 1) := by decide +kernel
theorem dX2_addEntry_12 : decode cX2_addEntry 12 = .ok (.getfield 28, 3) := by decide +kernel
theorem dX2_addEntry_15 : decode cX2_addEntry 15 = .ok (.aload_n 0, 1) := by decide +kernel
theorem dX2_addEntry_16 : decode cX2_addEntry 16 = .ok (.getfield 15, 3) := by decide +kernel
theorem dX2_addEntry_19 : decode cX2_addEntry 19 = .ok (.iload_n 1, 1) := by decide +kernel
theorem dX2_addEntry_20 : decode cX2_addEntry 20 = .ok (.iastore, 1) := by decide +kernel
theorem dX2_addEntry_21 : decode cX2_addEntry 21 = .ok (.aload_n 0, 1) := by decide +kernel
theorem dX2_addEntry_22 : decode cX2_addEntry 22 = .ok (.getfield 31, 3) := by decide +kernel
theorem dX2_addEntry_25 : decode cX2_addEntry 25 = .ok (.aload_n 0, 1) := by decide +kernel
theorem dX2_addEntry_26 : decode cX2_addEntry 26 = .ok (.getfield 15, 3) := by decide +kernel
theorem dX2_addEntry_29 : decode cX2_addEntry 29 = .ok (.iload_n 2, 1) := by decide +kernel
theorem dX2_addEntry_30 : decode cX2_addEntry 30 = .ok (.iastore, 1) := by decide +kernel
theorem dX2_addEntry_31 : decode cX2_addEntry 31 = .ok (.aload_n 0, 1) := by decide +kernel
theorem dX2_addEntry_32 : decode cX2_addEntry 32 = .ok (.dup, 1) := by decide +kernel
theorem dX2_addEntry_33 : decode cX2_addEntry 33 = .ok (.getfield 15, 3) := by decide +kernel
theorem dX2_addEntry_36 : decode cX2_addEntry 36 = .ok (.iconst 1, 1) := by decide +kernel
theorem dX2_addEntry_37 : decode cX2_addEntry 37 = .ok (.iadd, 1) := by decide +kernel
theorem dX2_addEntry_38 : decode cX2_addEntry 38 = .ok (.putfield 15, 3) := by decide +kernel
theorem dX2_addEntry_41 : decode cX2_addEntry 41 = .ok (.iconst 1, 1) := by decide +kernel
theorem dX2_addEntry_42 : decode cX2_addEntry 42 = .ok (.ireturn, 1) := by decide +kernel
theorem dX2_firstWrong_0 : decode cX2_firstWrong 0 = .ok (.iconst 0, 1) := by decide +kernel
theorem dX2_firstWrong_1 : decode cX2_firstWrong 1 = .ok (.istore_n 2, 1) := by decide +kernel
theorem dX2_firstWrong_2 : decode cX2_firstWrong 2 = .ok (.iload_n 2, 1) := by decide +kernel
theorem dX2_firstWrong_3 : decode cX2_firstWrong 3 = .ok (.aload_n 0, 1) := by decide +kernel
theorem dX2_firstWrong_4 : decode cX2_firstWrong 4 = .ok (.getfield 15, 3) := by decide +kernel
theorem dX2_firstWrong_7 : decode cX2_firstWrong 7 = .ok (.if_icmp .ge 31, 3) := by decide +kernel
theorem dX2_firstWrong_10 : decode cX2_firstWrong 10 = .ok (.aload_n 1, 1) := by decide +kernel
theorem dX2_firstWrong_11 : decode cX2_firstWrong 11 = .ok (.getfield 34, 3) := by decide +kernel
theorem dX2_firstWrong_14 : decode cX2_firstWrong 14 = .ok (.aload_n 0, 1) := by decide +kernel
theorem dX2_firstWrong_15 : decode cX2_firstWrong 15 = .ok (.getfield 28, 3) := by decide +kernel
theorem dX2_firstWrong_18 : decode cX2_firstWrong 18 = .ok (.iload_n 2, 1) := by decide +kernel
theorem dX2_firstWrong_19 : decode cX2_firstWrong 19 = .ok (.iaload, 1) := by decide +kernel
theorem dX2_firstWrong_20 : decode cX2_firstWrong 20 = .ok (.iaload, 1) := by decide +kernel
theorem dX2_firstWrong_21 : decode cX2_firstWrong 21 = .ok (.aload_n 0, 1) := by decide +kernel
theorem dX2_firstWrong_22 : decode cX2_firstWrong 22 = .ok (.getfield 31, 3) := by decide +kernel
theorem dX2_firstWrong_25 : decode cX2_firstWrong 25 = .ok (.iload_n 2, 1) := by decide +kernel
theorem dX2_firstWrong_26 : decode cX2_firstWrong 26 = .ok (.iaload, 1) := by decide +kernel
theorem dX2_firstWrong_27 : decode cX2_firstWrong 27 = .ok (.if_icmp .eq 5, 3) := by decide +kernel
theorem dX2_firstWrong_30 : decode cX2_firstWrong 30 = .ok (.iload_n 2, 1) := by decide +kernel
theorem dX2_firstWrong_31 : decode cX2_firstWrong 31 = .ok (.ireturn, 1) := by decide +kernel
theorem dX2_firstWrong_32 : decode cX2_firstWrong 32 = .ok (.iinc 2 1, 3) := by decide +kernel
theorem dX2_firstWrong_35 : decode cX2_firstWrong 35 = .ok (.goto (-33), 3) := by decide +kernel
theorem dX2_firstWrong_38 : decode cX2_firstWrong 38 = .ok (.iconst (-1), 1) := by decide +kernel
theorem dX2_firstWrong_39 : decode cX2_firstWrong 39 = .ok (.ireturn, 1) := by decide +kernel
theorem dX3_init_0 : decode cX3_init 0 = .ok (.aload_n 0, 1) := by decide +kernel
theorem dX3_init_1 : decode cX3_init 1 = .ok (.invokespecial 3, 3) := by decide +kernel
theorem dX3_init_4 : decode cX3_init 4 = .ok (.aload_n 0, 1) := by decide +kernel
theorem dX3_init_5 : decode cX3_init 5 = .ok (.iconst 0, 1) := by decide +kernel
theorem dX3_init_6 : decode cX3_init 6 = .ok (.putfield 9, 3) := by decide +kernel
theorem dX3_init_9 : decode cX3_init 9 = .ok (.aload_n 0, 1) := by decide +kernel
theorem dX3_init_10 : decode cX3_init 10 = .ok (.iconst 0, 1) := by decide +kernel
theorem dX3_init_11 : decode cX3_init 11 = .ok (.putfield 15, 3) := by decide +kernel
theorem dX3_init_14 : decode cX3_init 14 = .ok (.aload_n 0, 1) := by decide +kernel
theorem dX3_init_15 : decode cX3_init 15 = .ok (.bipush 20, 2) := by decide +kernel
theorem dX3_init_17 : decode cX3_init 17 = .ok (.anewarray 18, 3) := by decide +kernel
theorem dX3_init_20 : decode cX3_init 20 = .ok (.putfield 20, 3) := by decide +kernel
theorem dX3_init_23 : decode cX3_init 23 = .ok (.iconst 0, 1) := by decide +kernel
theorem dX3_init_24 : decode cX3_init 24 = .ok (.istore_n 1, 1) := by decide +kernel
theorem dX3_init_25 : decode cX3_init 25 = .ok (.iload_n 1, 1) := by decide +kernel
theorem dX3_init_26 : decode cX3_init 26 = .ok (.aload_n 0, 1) := by decide +kernel
theorem dX3_init_27 : decode cX3_init 27 = .ok (.getfield 20, 3) := by decide +kernel
theorem dX3_init_30 : decode cX3_init 30 = .ok (.arraylength, 1) := by decide +kernel
theorem dX3_init_31 : decode cX3_init 31 = .ok (.if_icmp .ge 22, 3) := by decide +kernel
theorem dX3_init_34 : decode cX3_init 34 = .ok (.aload_n 0, 1) := by decide +kernel
theorem dX3_init_35 : decode cX3_init 35 = .ok (.getfield 20, 3) := by decide +kernel
theorem dX3_init_38 : decode cX3_init 38 = .ok (.iload_n 1, 1) := by decide +kernel
theorem dX3_init_39 : decode cX3_init 39 = .ok (.new 18, 3) := by decide +kernel
theorem dX3_init_42 : decode cX3_init 42 = .ok (.dup, 1) := by decide +kernel
theorem dX3_init_43 : decode cX3_init 43 = .ok (.invokespecial 24, 3) := by decide +kernel
theorem dX3_init_46 : decode cX3_init 46 = .ok (.aastore, 1) := by decide +kernel
theorem dX3_init_47 : decode cX3_init 47 = .ok (.iinc 1 1, 3) := by decide +kernel
theorem dX3_init_50 : decode cX3_init 50 = .ok (.goto (-25), 3) := by decide +kernel
theorem dX3_init_53 : decode cX3_init 53 = .ok (.return_, 1) := by decide +kernel
theorem dX3_forget_0 : decode cX3_forget 0 = .ok (.aload_n 0, 1) := by decide +kernel
theorem dX3_forget_1 : decode cX3_forget 1 = .ok (.iconst 0, 1) := by decide +kernel
theorem dX3_forget_2 : decode cX3_forget 2 = .ok (.putfield 9, 3) := by decide +kernel
theorem dX3_forget_5 : decode cX3_forget 5 = .ok (.return_, 1) := by decide +kernel
theorem dX3_push_0 : decode cX3_push 0 = .ok (.aload_n 0, 1) := by decide +kernel
theorem dX3_push_1 : decode cX3_push 1 = .ok (.getfield 20, 3) := by decide +kernel
theorem dX3_push_4 : decode cX3_push 4 = .ok (.aload_n 0, 1) := by decide +kernel
theorem dX3_push_5 : decode cX3_push 5 = .ok (.getfield 15, 3) := by decide +kernel
theorem dX3_push_8 : decode cX3_push 8 = .ok (.aaload, 1) := by decide +kernel
theorem dX3_push_9 : decode cX3_push 9 = .ok (.aload_n 1, 1) := by decide +kernel
theorem dX3_push_10 : decode cX3_push 10 = .ok (.invokevirtual 25, 3) := by decide +kernel
theorem dX3_push_13 : decode cX3_push 13 = .ok (.aload_n 0, 1) := by decide +kernel
theorem dX3_push_14 : decode cX3_push 14 = .ok (.aload_n 0, 1) := by decide +kernel
theorem dX3_push_15 : decode cX3_push 15 = .ok (.getfield 15, 3) := by decide +kernel
theorem dX3_push_18 : decode cX3_push 18 = .ok (.iconst 1, 1) := by decide +kernel
theorem dX3_push_19 : decode cX3_push 19 = .ok (.iadd, 1) := by decide +kernel
theorem dX3_push_20 : decode cX3_push 20 = .ok (.bipush 20, 2) := by decide +kernel
theorem dX3_push_22 : decode cX3_push 22 = .ok (.irem, 1) := by decide +kernel
theorem dX3_push_23 : decode cX3_push 23 = .ok (.putfield 15, 3) := by decide +kernel
theorem dX3_push_26 : decode cX3_push 26 = .ok (.aload_n 0, 1) := by decide +kernel
theorem dX3_push_27 : decode cX3_push 27 = .ok (.aload_n 0, 1) := by decide +kernel
theorem dX3_push_28 : decode cX3_push 28 = .ok (.getfield 9, 3) := by decide +kernel
theorem dX3_push_31 : decode cX3_push 31 = .ok (.iconst 1, 1) := by decide +kernel
theorem dX3_push_32 : decode cX3_push 32 = .ok (.iadd, 1) := by decide +kernel
theorem dX3_push_33 : decode cX3_push 33 = .ok (.bipush 20, 2) := by decide +kernel
theorem dX3_push_35 : decode cX3_push 35 = .ok (.invokestatic 29, 3) := by decide +kernel
theorem dX3_push_38 : decode cX3_push 38 = .ok (.putfield 9, 3) := by decide +kernel
theorem dX3_push_41 : decode cX3_push 41 = .ok (.return_, 1) := by decide +kernel
theorem dX3_pop_0 : decode cX3_pop 0 = .ok (.aload_n 0, 1) := by decide +kernel
theorem dX3_pop_1 : decode cX3_pop 1 = .ok (.getfield 9, 3) := by decide +kernel
theorem dX3_pop_4 : decode cX3_pop 4 = .ok (.ifCond .ne 5, 3) := by decide +kernel
theorem dX3_pop_7 : decode cX3_pop 7 = .ok (.iconst 0, 1) := by decide +kernel
theorem dX3_pop_8 : decode cX3_pop 8 = .ok (.ireturn, 1) := by decide +kernel
theorem dX3_pop_9 : decode cX3_pop 9 = .ok (.aload_n 0, 1) := by decide +kernel
theorem dX3_pop_10 : decode cX3_pop 10 = .ok (.aload_n 0, 1) := by decide +kernel
theorem dX3_pop_11 : decode cX3_pop 11 = .ok (.getfield 15, 3) := by decide +kernel
theorem dX3_pop_14 : decode cX3_pop 14 = .ok (.bipush 20, 2) := by decide +kernel
theorem dX3_pop_16 : decode cX3_pop 16 = .ok (.iadd, 1) := by decide +kernel
theorem dX3_pop_17 : decode cX3_pop 17 = .ok (.iconst 1, 1) := by decide +kernel
theorem dX3_pop_18 : decode cX3_pop 18 = .ok (.isub, 1) := by decide +kernel
theorem dX3_pop_19 : decode cX3_pop 19 = .ok (.bipush 20, 2) := by decide +kernel
theorem dX3_pop_21 : decode cX3_pop 21 = .ok (.irem, 1) := by decide +kernel
theorem dX3_pop_22 : decode cX3_pop 22 = .ok (.putfield 15, 3) := by decide +kernel
theorem dX3_pop_25 : decode cX3_pop 25 = .ok (.aload_n 0, 1) := by decide +kernel
theorem dX3_pop_26 : decode cX3_pop 26 = .ok (.dup, 1) := by decide +kernel
theorem dX3_pop_27 : decode cX3_pop 27 = .ok (.getfield 9, 3) := by decide +kernel
theorem dX3_pop_30 : decode cX3_pop 30 = .ok (.iconst 1, 1) := by decide +kernel
theorem dX3_pop_31 : decode cX3_pop 31 = .ok (.isub, 1) := by decide +kernel
theorem dX3_pop_32 : decode cX3_pop 32 = .ok (.putfield 9, 3) := by decide +kernel
theorem dX3_pop_35 : decode cX3_pop 35 = .ok (.aload_n 1, 1) := by decide +kernel
theorem dX3_pop_36 : decode cX3_pop 36 = .ok (.aload_n 0, 1) := by decide +kernel
theorem dX3_pop_37 : decode cX3_pop 37 = .ok (.getfield 20, 3) := by decide +kernel
theorem dX3_pop_40 : decode cX3_pop 40 = .ok (.aload_n 0, 1) := by decide +kernel
theorem dX3_pop_41 : decode cX3_pop 41 = .ok (.getfield 15, 3) := by decide +kernel
theorem dX3_pop_44 : decode cX3_pop 44 = .ok (.aaload, 1) := by decide +kernel
theorem dX3_pop_45 : decode cX3_pop 45 = .ok (.invokevirtual 25, 3) := by decide +kernel
theorem dX3_pop_48 : decode cX3_pop 48 = .ok (.iconst 1, 1) := by decide +kernel
theorem dX3_pop_49 : decode cX3_pop 49 = .ok (.ireturn, 1) := by decide +kernel
theorem dX4_init_0 : decode cX4_init 0 = .ok (.aload_n 0, 1) := by decide +kernel
theorem dX4_init_1 : decode cX4_init 1 = .ok (.invokespecial 3, 3) := by decide +kernel
theorem dX4_init_4 : decode cX4_init 4 = .ok (.aload_n 0, 1) := by decide +kernel
theorem dX4_init_5 : decode cX4_init 5 = .ok (.iconst 0, 1) := by decide +kernel
theorem dX4_init_6 : decode cX4_init 6 = .ok (.putfield 9, 3) := by decide +kernel
theorem dX4_init_9 : decode cX4_init 9 = .ok (.aload_n 0, 1) := by decide +kernel
theorem dX4_init_10 : decode cX4_init 10 = .ok (.iconst 0, 1) := by decide +kernel
theorem dX4_init_11 : decode cX4_init 11 = .ok (.putfield 15, 3) := by decide +kernel
theorem dX4_init_14 : decode cX4_init 14 = .ok (.aload_n 0, 1) := by decide +kernel
theorem dX4_init_15 : decode cX4_init 15 = .ok (.iconst 0, 1) := by decide +kernel
theorem dX4_init_16 : decode cX4_init 16 = .ok (.putfield 18, 3) := by decide +kernel
theorem dX4_init_19 : decode cX4_init 19 = .ok (.aload_n 0, 1) := by decide +kernel
theorem dX4_init_20 : decode cX4_init 20 = .ok (.bipush 8, 2) := by decide +kernel
theorem dX4_init_22 : decode cX4_init 22 = .ok (.newarray .int, 2) := by decide +kernel
theorem dX4_init_24 : decode cX4_init 24 = .ok (.putfield 21, 3) := by decide +kernel
theorem dX4_init_27 : decode cX4_init 27 = .ok (.aload_n 0, 1) := by decide +kernel
theorem dX4_init_28 : decode cX4_init 28 = .ok (.bipush 8, 2) := by decide +kernel
theorem dX4_init_30 : decode cX4_init 30 = .ok (.newarray .int, 2) := by decide +kernel
theorem dX4_init_32 : decode cX4_init 32 = .ok (.putfield 25, 3) := by decide +kernel
theorem dX4_init_35 : decode cX4_init 35 = .ok (.aload_n 0, 1) := by decide +kernel
theorem dX4_init_36 : decode cX4_init 36 = .ok (.bipush 10, 2) := by decide +kernel
theorem dX4_init_38 : decode cX4_init 38 = .ok (.newarray .int, 2) := by decide +kernel
theorem dX4_init_40 : decode cX4_init 40 = .ok (.putfield 28, 3) := by decide +kernel
theorem dX4_init_43 : decode cX4_init 43 = .ok (.aload_n 0, 1) := by decide +kernel
theorem dX4_init_44 : decode cX4_init 44 = .ok (.bipush 10, 2) := by decide +kernel
theorem dX4_init_46 : decode cX4_init 46 = .ok (.newarray .int, 2) := by decide +kernel
theorem dX4_init_48 : decode cX4_init 48 = .ok (.putfield 31, 3) := by decide +kernel
theorem dX4_init_51 : decode cX4_init 51 = .ok (.aload_n 0, 1) := by decide +kernel
theorem dX4_init_52 : decode cX4_init 52 = .ok (.bipush 10, 2) := by decide +kernel
theorem dX4_init_54 : decode cX4_init 54 = .ok (.newarray .int, 2) := by decide +kernel
theorem dX4_init_56 : decode cX4_init 56 = .ok (.putfield 34, 3) := by decide +kernel
theorem dX4_init_59 : decode cX4_init 59 = .ok (.aload_n 0, 1) := by decide +kernel
theorem dX4_init_60 : decode cX4_init 60 = .ok (.bipush 10, 2) := by decide +kernel
theorem dX4_init_62 : decode cX4_init 62 = .ok (.newarray .int, 2) := by decide +kernel
theorem dX4_init_64 : decode cX4_init 64 = .ok (.putfield 37, 3) := by decide +kernel
theorem dX4_init_67 : decode cX4_init 67 = .ok (.return_, 1) := by decide +kernel
theorem dX4_wipe_0 : decode cX4_wipe 0 = .ok (.aload_n 0, 1) := by decide +kernel
theorem dX4_wipe_1 : decode cX4_wipe 1 = .ok (.iconst 0, 1) := by decide +kernel
theorem dX4_wipe_2 : decode cX4_wipe 2 = .ok (.putfield 9, 3) := by decide +kernel
theorem dX4_wipe_5 : decode cX4_wipe 5 = .ok (.aload_n 0, 1) := by decide +kernel
theorem dX4_wipe_6 : decode cX4_wipe 6 = .ok (.iconst 0, 1) := by decide +kernel
theorem dX4_wipe_7 : decode cX4_wipe 7 = .ok (.putfield 15, 3) := by decide +kernel
theorem dX4_wipe_10 : decode cX4_wipe 10 = .ok (.aload_n 0, 1) := by decide +kernel
theorem dX4_wipe_11 : decode cX4_wipe 11 = .ok (.iconst 0, 1) := by decide +kernel
theorem dX4_wipe_12 : decode cX4_wipe 12 = .ok (.putfield 18, 3) := by decide +kernel
theorem dX4_wipe_15 : decode cX4_wipe 15 = .ok (.return_, 1) := by decide +kernel
theorem dX4_hasPlace_0 : decode cX4_hasPlace 0 = .ok (.iload_n 1, 1) := by decide +kernel
theorem dX4_hasPlace_1 : decode cX4_hasPlace 1 = .ok (.ifCond .lt 15, 3) := by decide +kernel
theorem dX4_hasPlace_4 : decode cX4_hasPlace 4 = .ok (.iload_n 1, 1) := by decide +kernel
theorem dX4_hasPlace_5 : decode cX4_hasPlace 5 = .ok (.aload_n 0, 1) := by decide +kernel
theorem dX4_hasPlace_6 : decode cX4_hasPlace 6 = .ok (.getfield 15, 3) := by decide +kernel
theorem dX4_hasPlace_9 : decode cX4_hasPlace 9 = .ok (.if_icmp .ge 7, 3) := by decide +kernel
theorem dX4_hasPlace_12 : decode cX4_hasPlace 12 = .ok (.iconst 1, 1) := by decide +kernel
theorem dX4_hasPlace_13 : decode cX4_hasPlace 13 = .ok (.goto 4, 3) := by decide +kernel
theorem dX4_hasPlace_16 : decode cX4_hasPlace 16 = .ok (.iconst 0, 1) := by decide +kernel
theorem dX4_hasPlace_17 : decode cX4_hasPlace 17 = .ok (.ireturn, 1) := by decide +kernel
theorem dX4_hasChannel_0 : decode cX4_hasChannel 0 = .ok (.iload_n 1, 1) := by decide +kernel
theorem dX4_hasChannel_1 : decode cX4_hasChannel 1 = .ok (.ifCond .lt 15, 3) := by decide +kernel
theorem dX4_hasChannel_4 : decode cX4_hasChannel 4 = .ok (.iload_n 1, 1) := by decide +kernel
theorem dX4_hasChannel_5 : decode cX4_hasChannel 5 = .ok (.aload_n 0, 1) := by decide +kernel
theorem dX4_hasChannel_6 : decode cX4_hasChannel 6 = .ok (.getfield 18, 3) := by decide +kernel
theorem dX4_hasChannel_9 : decode cX4_hasChannel 9 = .ok (.if_icmp .ge 7, 3) := by decide +kernel
theorem dX4_hasChannel_12 : decode cX4_hasChannel 12 = .ok (.iconst 1, 1) := by decide +kernel
theorem dX4_hasChannel_13 : decode cX4_hasChannel 13 = .ok (.goto 4, 3) := by decide +kernel
theorem dX4_hasChannel_16 : decode cX4_hasChannel 16 = .ok (.iconst 0, 1) := by decide +kernel
theorem dX4_hasChannel_17 : decode cX4_hasChannel 17 = .ok (.ireturn, 1) := by decide +kernel
theorem dX4_joins_0 : decode cX4_joins 0 = .ok (.iconst 0, 1) := by decide +kernel
theorem dX4_joins_1 : decode cX4_joins 1 = .ok (.istore_n 3, 1) := by decide +kernel
theorem dX4_joins_2 : decode cX4_joins 2 = .ok (.iload_n 3, 1) := by decide +kernel
theorem dX4_joins_3 : decode cX4_joins 3 = .ok (.aload_n 0, 1) := by decide +kernel
theorem dX4_joins_4 : decode cX4_joins 4 = .ok (.getfield 18, 3) := by decide +kernel
theorem dX4_joins_7 : decode cX4_joins 7 = .ok (.if_icmp .ge 31, 3) := by decide +kernel
theorem dX4_joins_10 : decode cX4_joins 10 = .ok (.aload_n 0, 1) := by decide +kernel
theorem dX4_joins_11 : decode cX4_joins 11 = .ok (.getfield 28, 3) := by decide +kernel
theorem dX4_joins_14 : decode cX4_joins 14 = .ok (.iload_n 3, 1) := by decide +kernel
theorem dX4_joins_15 : decode cX4_joins 15 = .ok (.iaload, 1) := by decide +kernel
theorem dX4_joins_16 : decode cX4_joins 16 = .ok (.iload_n 1, 1) := by decide +kernel
theorem dX4_joins_17 : decode cX4_joins 17 = .ok (.if_icmp .ne 15, 3) := by decide +kernel
theorem dX4_joins_20 : decode cX4_joins 20 = .ok (.aload_n 0, 1) := by decide +kernel
theorem dX4_joins_21 : decode cX4_joins 21 = .ok (.getfield 31, 3) := by decide +kernel
theorem dX4_joins_24 : decode cX4_joins 24 = .ok (.iload_n 3, 1) := by decide +kernel
theorem dX4_joins_25 : decode cX4_joins 25 = .ok (.iaload, 1) := by decide +kernel
theorem dX4_joins_26 : decode cX4_joins 26 = .ok (.iload_n 2, 1) := by decide +kernel
theorem dX4_joins_27 : decode cX4_joins 27 = .ok (.if_icmp .ne 5, 3) := by decide +kernel
theorem dX4_joins_30 : decode cX4_joins 30 = .ok (.iconst 1, 1) := by decide +kernel
theorem dX4_joins_31 : decode cX4_joins 31 = .ok (.ireturn, 1) := by decide +kernel
theorem dX4_joins_32 : decode cX4_joins 32 = .ok (.iinc 3 1, 3) := by decide +kernel
theorem dX4_joins_35 : decode cX4_joins 35 = .ok (.goto (-33), 3) := by decide +kernel
theorem dX4_joins_38 : decode cX4_joins 38 = .ok (.iconst 0, 1) := by decide +kernel
theorem dX4_joins_39 : decode cX4_joins 39 = .ok (.ireturn, 1) := by decide +kernel
theorem dX4_mayJoin_0 : decode cX4_mayJoin 0 = .ok (.aload_n 0, 1) := by decide +kernel
theorem dX4_mayJoin_1 : decode cX4_mayJoin 1 = .ok (.iload_n 1, 1) := by decide +kernel
theorem dX4_mayJoin_2 : decode cX4_mayJoin 2 = .ok (.invokevirtual 40, 3) := by decide +kernel
theorem dX4_mayJoin_5 : decode cX4_mayJoin 5 = .ok (.ifCond .eq 44, 3) := by decide +kernel
theorem dX4_mayJoin_8 : decode cX4_mayJoin 8 = .ok (.aload_n 0, 1) := by decide +kernel
theorem dX4_mayJoin_9 : decode cX4_mayJoin 9 = .ok (.iload_n 2, 1) := by decide +kernel
theorem dX4_mayJoin_10 : decode cX4_mayJoin 10 = .ok (.invokevirtual 40, 3) := by decide +kernel
theorem dX4_mayJoin_13 : decode cX4_mayJoin 13 = .ok (.ifCond .eq 36, 3) := by decide +kernel
theorem dX4_mayJoin_16 : decode cX4_mayJoin 16 = .ok (.iload_n 1, 1) := by decide +kernel
theorem dX4_mayJoin_17 : decode cX4_mayJoin 17 = .ok (.iload_n 2, 1) := by decide +kernel
theorem dX4_mayJoin_18 : decode cX4_mayJoin 18 = .ok (.if_icmp .eq 31, 3) := by decide +kernel
theorem dX4_mayJoin_21 : decode cX4_mayJoin 21 = .ok (.aload_n 0, 1) := by decide +kernel
theorem dX4_mayJoin_22 : decode cX4_mayJoin 22 = .ok (.getfield 25, 3) := by decide +kernel
theorem dX4_mayJoin_25 : decode cX4_mayJoin 25 = .ok (.iload_n 2, 1) := by decide +kernel
theorem dX4_mayJoin_26 : decode cX4_mayJoin 26 = .ok (.iaload, 1) := by decide +kernel
theorem dX4_mayJoin_27 : decode cX4_mayJoin 27 = .ok (.aload_n 0, 1) := by decide +kernel
theorem dX4_mayJoin_28 : decode cX4_mayJoin 28 = .ok (.getfield 25, 3) := by decide +kernel
theorem dX4_mayJoin_31 : decode cX4_mayJoin 31 = .ok (.iload_n 1, 1) := by decide +kernel
theorem dX4_mayJoin_32 : decode cX4_mayJoin 32 = .ok (.iaload, 1) := by decide +kernel
theorem dX4_mayJoin_33 : decode cX4_mayJoin 33 = .ok (.if_icmp .ge 16, 3) := by decide +kernel
theorem dX4_mayJoin_36 : decode cX4_mayJoin 36 = .ok (.aload_n 0, 1) := by decide +kernel
theorem dX4_mayJoin_37 : decode cX4_mayJoin 37 = .ok (.iload_n 1, 1) := by decide +kernel
theorem dX4_mayJoin_38 : decode cX4_mayJoin 38 = .ok (.iload_n 2, 1) := by decide +kernel
theorem dX4_mayJoin_39 : decode cX4_mayJoin 39 = .ok (.invokevirtual 44, 3) := by decide +kernel
theorem dX4_mayJoin_42 : decode cX4_mayJoin 42 = .ok (.ifCond .ne 7, 3) := by decide +kernel
theorem dX4_mayJoin_45 : decode cX4_mayJoin 45 = .ok (.iconst 1, 1) := by decide +kernel
theorem dX4_mayJoin_46 : decode cX4_mayJoin 46 = .ok (.goto 4, 3) := by decide +kernel
theorem dX4_mayJoin_49 : decode cX4_mayJoin 49 = .ok (.iconst 0, 1) := by decide +kernel
theorem dX4_mayJoin_50 : decode cX4_mayJoin 50 = .ok (.ireturn, 1) := by decide +kernel
theorem dX4_addPlace_0 : decode cX4_addPlace 0 = .ok (.aload_n 0, 1) := by decide +kernel
theorem dX4_addPlace_1 : decode cX4_addPlace 1 = .ok (.getfield 15, 3) := by decide +kernel
theorem dX4_addPlace_4 : decode cX4_addPlace 4 = .ok (.bipush 8, 2) := by decide +kernel
theorem dX4_addPlace_6 : decode cX4_addPlace 6 = .ok (.if_icmp .lt 4, 3) := by decide +kernel
theorem dX4_addPlace_9 : decode cX4_addPlace 9 = .ok (.return_, 1) := by decide +kernel
theorem dX4_addPlace_10 : decode cX4_addPlace 10 = .ok (.aload_n 0, 1) := by decide +kernel
theorem dX4_addPlace_11 : decode cX4_addPlace 11 = .ok (.getfield 21, 3) := by decide +kernel
theorem dX4_addPlace_14 : decode cX4_addPlace 14 = .ok (.aload_n 0, 1) := by decide +kernel
theorem dX4_addPlace_15 : decode cX4_addPlace 15 = .ok (.getfield 15, 3) := by decide +kernel
theorem dX4_addPlace_18 : decode cX4_addPlace 18 = .ok (.iload_n 1, 1) := by decide +kernel
theorem dX4_addPlace_19 : decode cX4_addPlace 19 = .ok (.iastore, 1) := by decide +kernel
theorem dX4_addPlace_20 : decode cX4_addPlace 20 = .ok (.aload_n 0, 1) := by decide +kernel
theorem dX4_addPlace_21 : decode cX4_addPlace 21 = .ok (.getfield 25, 3) := by decide +kernel
theorem dX4_addPlace_24 : decode cX4_addPlace 24 = .ok (.aload_n 0, 1) := by decide +kernel
theorem dX4_addPlace_25 : decode cX4_addPlace 25 = .ok (.getfield 15, 3) := by decide +kernel
theorem dX4_addPlace_28 : decode cX4_addPlace 28 = .ok (.iload_n 2, 1) := by decide +kernel
theorem dX4_addPlace_29 : decode cX4_addPlace 29 = .ok (.iastore, 1) := by decide +kernel
theorem dX4_addPlace_30 : decode cX4_addPlace 30 = .ok (.aload_n 0, 1) := by decide +kernel
theorem dX4_addPlace_31 : decode cX4_addPlace 31 = .ok (.dup, 1) := by decide +kernel
theorem dX4_addPlace_32 : decode cX4_addPlace 32 = .ok (.getfield 15, 3) := by decide +kernel
theorem dX4_addPlace_35 : decode cX4_addPlace 35 = .ok (.iconst 1, 1) := by decide +kernel
theorem dX4_addPlace_36 : decode cX4_addPlace 36 = .ok (.iadd, 1) := by decide +kernel
theorem dX4_addPlace_37 : decode cX4_addPlace 37 = .ok (.putfield 15, 3) := by decide +kernel
theorem dX4_addPlace_40 : decode cX4_addPlace 40 = .ok (.return_, 1) := by decide +kernel
theorem dX4_addChannel_0 : decode cX4_addChannel 0 = .ok (.aload_n 0, 1) := by decide +kernel
theorem dX4_addChannel_1 : decode cX4_addChannel 1 = .ok (.getfield 18, 3) := by decide +kernel
theorem dX4_addChannel_4 : decode cX4_addChannel 4 = .ok (.bipush 10, 2) := by decide +kernel
theorem dX4_addChannel_6 : decode cX4_addChannel 6 = .ok (.if_icmp .ge 12, 3) := by decide +kernel
theorem dX4_addChannel_9 : decode cX4_addChannel 9 = .ok (.aload_n 0, 1) := by decide +kernel
theorem dX4_addChannel_10 : decode cX4_addChannel 10 = .ok (.iload_n 1, 1) := by decide +kernel
theorem dX4_addChannel_11 : decode cX4_addChannel 11 = .ok (.iload_n 2, 1) := by decide +kernel
theorem dX4_addChannel_12 : decode cX4_addChannel 12 = .ok (.invokevirtual 48, 3) := by decide +kernel
theorem dX4_addChannel_15 : decode cX4_addChannel 15 = .ok (.ifCond .ne 4, 3) := by decide +kernel
theorem dX4_addChannel_18 : decode cX4_addChannel 18 = .ok (.return_, 1) := by decide +kernel
theorem dX4_addChannel_19 : decode cX4_addChannel 19 = .ok (.aload_n 0, 1) := by decide +kernel
theorem dX4_addChannel_20 : decode cX4_addChannel 20 = .ok (.getfield 18, 3) := by decide +kernel
theorem dX4_addChannel_23 : decode cX4_addChannel 23 = .ok (.istore 4, 2) := by decide +kernel
theorem dX4_addChannel_25 : decode cX4_addChannel 25 = .ok (.iload 4, 2) := by decide +kernel
theorem dX4_addChannel_27 : decode cX4_addChannel 27 = .ok (.ifCond .le 53, 3) := by decide +kernel
theorem dX4_addChannel_30 : decode cX4_addChannel 30 = .ok (.aload_n 0, 1) := by decide +kernel
theorem dX4_addChannel_31 : decode cX4_addChannel 31 = .ok (.getfield 25, 3) := by decide +kernel
theorem dX4_addChannel_34 : decode cX4_addChannel 34 = .ok (.aload_n 0, 1) := by decide +kernel
theorem dX4_addChannel_35 : decode cX4_addChannel 35 = .ok (.getfield 28, 3) := by decide +kernel
theorem dX4_addChannel_38 : decode cX4_addChannel 38 = .ok (.aload_n 0, 1) := by decide +kernel
theorem dX4_addChannel_39 : decode cX4_addChannel 39 = .ok (.getfield 37, 3) := by decide +kernel
theorem dX4_addChannel_42 : decode cX4_addChannel 42 = .ok (.iload 4, 2) := by decide +kernel
theorem dX4_addChannel_44 : decode cX4_addChannel 44 = .ok (.iconst 1, 1) := by decide +kernel
theorem dX4_addChannel_45 : decode cX4_addChannel 45 = .ok (.isub, 1) := by decide +kernel
theorem dX4_addChannel_46 : decode cX4_addChannel 46 = .ok (.iaload, 1) := by decide +kernel
theorem dX4_addChannel_47 : decode cX4_addChannel 47 = .ok (.iaload, 1) := by decide +kernel
theorem dX4_addChannel_48 : decode cX4_addChannel 48 = .ok (.iaload, 1) := by decide +kernel
theorem dX4_addChannel_49 : decode cX4_addChannel 49 = .ok (.aload_n 0, 1) := by decide +kernel
theorem dX4_addChannel_50 : decode cX4_addChannel 50 = .ok (.getfield 25, 3) := by decide +kernel
theorem dX4_addChannel_53 : decode cX4_addChannel 53 = .ok (.iload_n 1, 1) := by decide +kernel
theorem dX4_addChannel_54 : decode cX4_addChannel 54 = .ok (.iaload, 1) := by decide +kernel
theorem dX4_addChannel_55 : decode cX4_addChannel 55 = .ok (.if_icmp .ge 25, 3) := by decide +kernel
theorem dX4_addChannel_58 : decode cX4_addChannel 58 = .ok (.aload_n 0, 1) := by decide +kernel
theorem dX4_addChannel_59 : decode cX4_addChannel 59 = .ok (.getfield 37, 3) := by decide +kernel
theorem dX4_addChannel_62 : decode cX4_addChannel 62 = .ok (.iload 4, 2) := by decide +kernel
theorem dX4_addChannel_64 : decode cX4_addChannel 64 = .ok (.aload_n 0, 1) := by decide +kernel
theorem dX4_addChannel_65 : decode cX4_addChannel 65 = .ok (.getfield 37, 3) := by decide +kernel
theorem dX4_addChannel_68 : decode cX4_addChannel 68 = .ok (.iload 4, 2) := by decide +kernel
theorem dX4_addChannel_70 : decode cX4_addChannel 70 = .ok (.iconst 1, 1) := by decide +kernel
theorem dX4_addChannel_71 : decode cX4_addChannel 71 = .ok (.isub, 1) := by decide +kernel
theorem dX4_addChannel_72 : decode cX4_addChannel 72 = .ok (.iaload, 1) := by decide +kernel
theorem dX4_addChannel_73 : decode cX4_addChannel 73 = .ok (.iastore, 1) := by decide +kernel
theorem dX4_addChannel_74 : decode cX4_addChannel 74 = .ok (.iinc 4 (-1), 3) := by decide +kernel
theorem dX4_addChannel_77 : decode cX4_addChannel 77 = .ok (.goto (-52), 3) := by decide +kernel
theorem dX4_addChannel_80 : decode cX4_addChannel 80 = .ok (.aload_n 0, 1) := by decide +kernel
theorem dX4_addChannel_81 : decode cX4_addChannel 81 = .ok (.getfield 37, 3) := by decide +kernel
theorem dX4_addChannel_84 : decode cX4_addChannel 84 = .ok (.iload 4, 2) := by decide +kernel
theorem dX4_addChannel_86 : decode cX4_addChannel 86 = .ok (.aload_n 0, 1) := by decide +kernel
theorem dX4_addChannel_87 : decode cX4_addChannel 87 = .ok (.getfield 18, 3) := by decide +kernel
theorem dX4_addChannel_90 : decode cX4_addChannel 90 = .ok (.iastore, 1) := by decide +kernel
theorem dX4_addChannel_91 : decode cX4_addChannel 91 = .ok (.aload_n 0, 1) := by decide +kernel
theorem dX4_addChannel_92 : decode cX4_addChannel 92 = .ok (.getfield 28, 3) := by decide +kernel
theorem dX4_addChannel_95 : decode cX4_addChannel 95 = .ok (.aload_n 0, 1) := by decide +kernel
theorem dX4_addChannel_96 : decode cX4_addChannel 96 = .ok (.getfield 18, 3) := by decide +kernel
theorem dX4_addChannel_99 : decode cX4_addChannel 99 = .ok (.iload_n 1, 1) := by decide +kernel
theorem dX4_addChannel_100 : decode cX4_addChannel 100 = .ok (.iastore, 1) := by decide +kernel
theorem dX4_addChannel_101 : decode cX4_addChannel 101 = .ok (.aload_n 0, 1) := by decide +kernel
theorem dX4_addChannel_102 : decode cX4_addChannel 102 = .ok (.getfield 31, 3) := by decide +kernel
theorem dX4_addChannel_105 : decode cX4_addChannel 105 = .ok (.aload_n 0, 1) := by decide +kernel
theorem dX4_addChannel_106 : decode cX4_addChannel 106 = .ok (.getfield 18, 3) := by decide +kernel
theorem dX4_addChannel_109 : decode cX4_addChannel 109 = .ok (.iload_n 2, 1) := by decide +kernel
theorem dX4_addChannel_110 : decode cX4_addChannel 110 = .ok (.iastore, 1) := by decide +kernel
theorem dX4_addChannel_111 : decode cX4_addChannel 111 = .ok (.aload_n 0, 1) := by decide +kernel
theorem dX4_addChannel_112 : decode cX4_addChannel 112 = .ok (.getfield 34, 3) := by decide +kernel
theorem dX4_addChannel_115 : decode cX4_addChannel 115 = .ok (.aload_n 0, 1) := by decide +kernel
theorem dX4_addChannel_116 : decode cX4_addChannel 116 = .ok (.getfield 18, 3) := by decide +kernel
theorem dX4_addChannel_119 : decode cX4_addChannel 119 = .ok (.iload_n 3, 1) := by decide +kernel
theorem dX4_addChannel_120 : decode cX4_addChannel 120 = .ok (.iastore, 1) := by decide +kernel
theorem dX4_addChannel_121 : decode cX4_addChannel 121 = .ok (.aload_n 0, 1) := by decide +kernel
theorem dX4_addChannel_122 : decode cX4_addChannel 122 = .ok (.dup, 1) := by decide +kernel
theorem dX4_addChannel_123 : decode cX4_addChannel 123 = .ok (.getfield 18, 3) := by decide +kernel
theorem dX4_addChannel_126 : decode cX4_addChannel 126 = .ok (.iconst 1, 1) := by decide +kernel
theorem dX4_addChannel_127 : decode cX4_addChannel 127 = .ok (.iadd, 1) := by decide +kernel
theorem dX4_addChannel_128 : decode cX4_addChannel 128 = .ok (.putfield 18, 3) := by decide +kernel
theorem dX4_addChannel_131 : decode cX4_addChannel 131 = .ok (.return_, 1) := by decide +kernel
theorem dX4_goingOn_0 : decode cX4_goingOn 0 = .ok (.aload_n 0, 1) := by decide +kernel
theorem dX4_goingOn_1 : decode cX4_goingOn 1 = .ok (.iload_n 1, 1) := by decide +kernel
theorem dX4_goingOn_2 : decode cX4_goingOn 2 = .ok (.invokevirtual 40, 3) := by decide +kernel
theorem dX4_goingOn_5 : decode cX4_goingOn 5 = .ok (.ifCond .eq 13, 3) := by decide +kernel
theorem dX4_goingOn_8 : decode cX4_goingOn 8 = .ok (.aload_n 0, 1) := by decide +kernel
theorem dX4_goingOn_9 : decode cX4_goingOn 9 = .ok (.getfield 21, 3) := by decide +kernel
theorem dX4_goingOn_12 : decode cX4_goingOn 12 = .ok (.iload_n 1, 1) := by decide +kernel
theorem dX4_goingOn_13 : decode cX4_goingOn 13 = .ok (.iaload, 1) := by decide +kernel
theorem dX4_goingOn_14 : decode cX4_goingOn 14 = .ok (.iconst 3, 1) := by decide +kernel
theorem dX4_goingOn_15 : decode cX4_goingOn 15 = .ok (.if_icmp .ne 5, 3) := by decide +kernel
theorem dX4_goingOn_18 : decode cX4_goingOn 18 = .ok (.iconst 0, 1) := by decide +kernel
theorem dX4_goingOn_19 : decode cX4_goingOn 19 = .ok (.ireturn, 1) := by decide +kernel
theorem dX4_goingOn_20 : decode cX4_goingOn 20 = .ok (.aload_n 0, 1) := by decide +kernel
theorem dX4_goingOn_21 : decode cX4_goingOn 21 = .ok (.getfield 21, 3) := by decide +kernel
theorem dX4_goingOn_24 : decode cX4_goingOn 24 = .ok (.iload_n 1, 1) := by decide +kernel
theorem dX4_goingOn_25 : decode cX4_goingOn 25 = .ok (.iaload, 1) := by decide +kernel
theorem dX4_goingOn_26 : decode cX4_goingOn 26 = .ok (.iconst 1, 1) := by decide +kernel
theorem dX4_goingOn_27 : decode cX4_goingOn 27 = .ok (.if_icmp .ne 10, 3) := by decide +kernel
theorem dX4_goingOn_30 : decode cX4_goingOn 30 = .ok (.iload_n 2, 1) := by decide +kernel
theorem dX4_goingOn_31 : decode cX4_goingOn 31 = .ok (.bipush 85, 2) := by decide +kernel
theorem dX4_goingOn_33 : decode cX4_goingOn 33 = .ok (.iand, 1) := by decide +kernel
theorem dX4_goingOn_34 : decode cX4_goingOn 34 = .ok (.goto 4, 3) := by decide +kernel
theorem dX4_goingOn_37 : decode cX4_goingOn 37 = .ok (.iload_n 2, 1) := by decide +kernel
theorem dX4_goingOn_38 : decode cX4_goingOn 38 = .ok (.ireturn, 1) := by decide +kernel
theorem dX5_init_0 : decode cX5_init 0 = .ok (.aload_n 0, 1) := by decide +kernel
theorem dX5_init_1 : decode cX5_init 1 = .ok (.invokespecial 3, 3) := by decide +kernel
theorem dX5_init_4 : decode cX5_init 4 = .ok (.aload_n 0, 1) := by decide +kernel
theorem dX5_init_5 : decode cX5_init 5 = .ok (.sipush 240, 3) := by decide +kernel
theorem dX5_init_8 : decode cX5_init 8 = .ok (.newarray .int, 2) := by decide +kernel
theorem dX5_init_10 : decode cX5_init 10 = .ok (.putfield 9, 3) := by decide +kernel
theorem dX5_init_13 : decode cX5_init 13 = .ok (.aload_n 0, 1) := by decide +kernel
theorem dX5_init_14 : decode cX5_init 14 = .ok (.iconst 0, 1) := by decide +kernel
theorem dX5_init_15 : decode cX5_init 15 = .ok (.putfield 15, 3) := by decide +kernel
theorem dX5_init_18 : decode cX5_init 18 = .ok (.aload_n 0, 1) := by decide +kernel
theorem dX5_init_19 : decode cX5_init 19 = .ok (.iconst 0, 1) := by decide +kernel
theorem dX5_init_20 : decode cX5_init 20 = .ok (.putfield 19, 3) := by decide +kernel
theorem dX5_init_23 : decode cX5_init 23 = .ok (.aload_n 0, 1) := by decide +kernel
theorem dX5_init_24 : decode cX5_init 24 = .ok (.iconst (-1), 1) := by decide +kernel
theorem dX5_init_25 : decode cX5_init 25 = .ok (.putfield 22, 3) := by decide +kernel
theorem dX5_init_28 : decode cX5_init 28 = .ok (.aload_n 0, 1) := by decide +kernel
theorem dX5_init_29 : decode cX5_init 29 = .ok (.iconst 0, 1) := by decide +kernel
theorem dX5_init_30 : decode cX5_init 30 = .ok (.putfield 25, 3) := by decide +kernel
theorem dX5_init_33 : decode cX5_init 33 = .ok (.aload_n 0, 1) := by decide +kernel
theorem dX5_init_34 : decode cX5_init 34 = .ok (.iconst 0, 1) := by decide +kernel
theorem dX5_init_35 : decode cX5_init 35 = .ok (.putfield 28, 3) := by decide +kernel
theorem dX5_init_38 : decode cX5_init 38 = .ok (.return_, 1) := by decide +kernel
theorem dX5_add_0 : decode cX5_add 0 = .ok (.aload_n 0, 1) := by decide +kernel
theorem dX5_add_1 : decode cX5_add 1 = .ok (.getfield 15, 3) := by decide +kernel
theorem dX5_add_4 : decode cX5_add 4 = .ok (.sipush 240, 3) := by decide +kernel
theorem dX5_add_7 : decode cX5_add 7 = .ok (.if_icmp .lt 5, 3) := by decide +kernel
theorem dX5_add_10 : decode cX5_add 10 = .ok (.iconst 0, 1) := by decide +kernel
theorem dX5_add_11 : decode cX5_add 11 = .ok (.ireturn, 1) := by decide +kernel
theorem dX5_add_12 : decode cX5_add 12 = .ok (.aload_n 0, 1) := by decide +kernel
theorem dX5_add_13 : decode cX5_add 13 = .ok (.getfield 9, 3) := by decide +kernel
theorem dX5_add_16 : decode cX5_add 16 = .ok (.aload_n 0, 1) := by decide +kernel
theorem dX5_add_17 : decode cX5_add 17 = .ok (.getfield 15, 3) := by decide +kernel
theorem dX5_add_20 : decode cX5_add 20 = .ok (.iload_n 1, 1) := by decide +kernel
theorem dX5_add_21 : decode cX5_add 21 = .ok (.iastore, 1) := by decide +kernel
theorem dX5_add_22 : decode cX5_add 22 = .ok (.aload_n 0, 1) := by decide +kernel
theorem dX5_add_23 : decode cX5_add 23 = .ok (.dup, 1) := by decide +kernel
theorem dX5_add_24 : decode cX5_add 24 = .ok (.getfield 15, 3) := by decide +kernel
theorem dX5_add_27 : decode cX5_add 27 = .ok (.iconst 1, 1) := by decide +kernel
theorem dX5_add_28 : decode cX5_add 28 = .ok (.iadd, 1) := by decide +kernel
theorem dX5_add_29 : decode cX5_add 29 = .ok (.putfield 15, 3) := by decide +kernel
theorem dX5_add_32 : decode cX5_add 32 = .ok (.iconst 1, 1) := by decide +kernel
theorem dX5_add_33 : decode cX5_add 33 = .ok (.ireturn, 1) := by decide +kernel
theorem dX5_read_0 : decode cX5_read 0 = .ok (.aload_n 1, 1) := by decide +kernel
theorem dX5_read_1 : decode cX5_read 1 = .ok (.invokevirtual 31, 3) := by decide +kernel
theorem dX5_read_4 : decode cX5_read 4 = .ok (.aload_n 0, 1) := by decide +kernel
theorem dX5_read_5 : decode cX5_read 5 = .ok (.iconst 0, 1) := by decide +kernel
theorem dX5_read_6 : decode cX5_read 6 = .ok (.putfield 25, 3) := by decide +kernel
theorem dX5_read_9 : decode cX5_read 9 = .ok (.aload_n 0, 1) := by decide +kernel
theorem dX5_read_10 : decode cX5_read 10 = .ok (.iconst 0, 1) := by decide +kernel
theorem dX5_read_11 : decode cX5_read 11 = .ok (.putfield 19, 3) := by decide +kernel
theorem dX5_read_14 : decode cX5_read 14 = .ok (.aload_n 0, 1) := by decide +kernel
theorem dX5_read_15 : decode cX5_read 15 = .ok (.iconst (-1), 1) := by decide +kernel
theorem dX5_read_16 : decode cX5_read 16 = .ok (.putfield 22, 3) := by decide +kernel
theorem dX5_read_19 : decode cX5_read 19 = .ok (.aload_n 0, 1) := by decide +kernel
theorem dX5_read_20 : decode cX5_read 20 = .ok (.invokevirtual 36, 3) := by decide +kernel
theorem dX5_read_23 : decode cX5_read 23 = .ok (.iconst 0, 1) := by decide +kernel
theorem dX5_read_24 : decode cX5_read 24 = .ok (.istore_n 2, 1) := by decide +kernel
theorem dX5_read_25 : decode cX5_read 25 = .ok (.iload_n 2, 1) := by decide +kernel
theorem dX5_read_26 : decode cX5_read 26 = .ok (.sipush 240, 3) := by decide +kernel
theorem dX5_read_29 : decode cX5_read 29 = .ok (.if_icmp .ge 36, 3) := by decide +kernel
theorem dX5_read_32 : decode cX5_read 32 = .ok (.aload_n 0, 1) := by decide +kernel
theorem dX5_read_33 : decode cX5_read 33 = .ok (.getfield 25, 3) := by decide +kernel
theorem dX5_read_36 : decode cX5_read 36 = .ok (.aload_n 0, 1) := by decide +kernel
theorem dX5_read_37 : decode cX5_read 37 = .ok (.getfield 15, 3) := by decide +kernel
theorem dX5_read_40 : decode cX5_read 40 = .ok (.if_icmp .ge 25, 3) := by decide +kernel
theorem dX5_read_43 : decode cX5_read 43 = .ok (.aload_n 0, 1) := by decide +kernel
theorem dX5_read_44 : decode cX5_read 44 = .ok (.getfield 19, 3) := by decide +kernel
theorem dX5_read_47 : decode cX5_read 47 = .ok (.ifCond .ne 18, 3) := by decide +kernel
theorem dX5_read_50 : decode cX5_read 50 = .ok (.aload_n 0, 1) := by decide +kernel
theorem dX5_read_51 : decode cX5_read 51 = .ok (.aload_n 1, 1) := by decide +kernel
theorem dX5_read_52 : decode cX5_read 52 = .ok (.invokevirtual 39, 3) := by decide +kernel
theorem dX5_read_55 : decode cX5_read 55 = .ok (.aload_n 0, 1) := by decide +kernel
theorem dX5_read_56 : decode cX5_read 56 = .ok (.invokevirtual 36, 3) := by decide +kernel
theorem dX5_read_59 : decode cX5_read 59 = .ok (.iinc 2 1, 3) := by decide +kernel
theorem dX5_read_62 : decode cX5_read 62 = .ok (.goto (-37), 3) := by decide +kernel
theorem dX5_read_65 : decode cX5_read 65 = .ok (.aload_n 0, 1) := by decide +kernel
theorem dX5_read_66 : decode cX5_read 66 = .ok (.iconst 0, 1) := by decide +kernel
theorem dX5_read_67 : decode cX5_read 67 = .ok (.putfield 15, 3) := by decide +kernel
theorem dX5_read_70 : decode cX5_read 70 = .ok (.return_, 1) := by decide +kernel
theorem dX5_readClause_0 : decode cX5_readClause 0 = .ok (.aload_n 0, 1) := by decide +kernel
theorem dX5_readClause_1 : decode cX5_readClause 1 = .ok (.invokevirtual 43, 3) := by decide +kernel
theorem dX5_readClause_4 : decode cX5_readClause 4 = .ok (.istore_n 2, 1) := by decide +kernel
theorem dX5_readClause_5 : decode cX5_readClause 5 = .ok (.iload_n 2, 1) := by decide +kernel
theorem dX5_readClause_6 : decode cX5_readClause 6 = .ok (.bipush 115, 2) := by decide +kernel
theorem dX5_readClause_8 : decode cX5_readClause 8 = .ok (.if_icmp .eq 15, 3) := by decide +kernel
theorem dX5_readClause_11 : decode cX5_readClause 11 = .ok (.iload_n 2, 1) := by decide +kernel
theorem dX5_readClause_12 : decode cX5_readClause 12 = .ok (.bipush 112, 2) := by decide +kernel
theorem dX5_readClause_14 : decode cX5_readClause 14 = .ok (.if_icmp .eq 9, 3) := by decide +kernel
theorem dX5_readClause_17 : decode cX5_readClause 17 = .ok (.iload_n 2, 1) := by decide +kernel
theorem dX5_readClause_18 : decode cX5_readClause 18 = .ok (.bipush 99, 2) := by decide +kernel
theorem dX5_readClause_20 : decode cX5_readClause 20 = .ok (.if_icmp .ne 7, 3) := by decide +kernel
theorem dX5_readClause_23 : decode cX5_readClause 23 = .ok (.iconst 1, 1) := by decide +kernel
theorem dX5_readClause_24 : decode cX5_readClause 24 = .ok (.goto 4, 3) := by decide +kernel
theorem dX5_readClause_27 : decode cX5_readClause 27 = .ok (.iconst 0, 1) := by decide +kernel
theorem dX5_readClause_28 : decode cX5_readClause 28 = .ok (.istore_n 3, 1) := by decide +kernel
theorem dX5_readClause_29 : decode cX5_readClause 29 = .ok (.iload_n 3, 1) := by decide +kernel
theorem dX5_readClause_30 : decode cX5_readClause 30 = .ok (.ifCond .eq 16, 3) := by decide +kernel
theorem dX5_readClause_33 : decode cX5_readClause 33 = .ok (.aload_n 1, 1) := by decide +kernel
theorem dX5_readClause_34 : decode cX5_readClause 34 = .ok (.getfield 47, 3) := by decide +kernel
theorem dX5_readClause_37 : decode cX5_readClause 37 = .ok (.ifCond .ne 19, 3) := by decide +kernel
theorem dX5_readClause_40 : decode cX5_readClause 40 = .ok (.iload_n 2, 1) := by decide +kernel
theorem dX5_readClause_41 : decode cX5_readClause 41 = .ok (.bipush 115, 2) := by decide +kernel
theorem dX5_readClause_43 : decode cX5_readClause 43 = .ok (.if_icmp .eq 13, 3) := by decide +kernel
theorem dX5_readClause_46 : decode cX5_readClause 46 = .ok (.aload_n 0, 1) := by decide +kernel
theorem dX5_readClause_47 : decode cX5_readClause 47 = .ok (.iconst 1, 1) := by decide +kernel
theorem dX5_readClause_48 : decode cX5_readClause 48 = .ok (.aload_n 0, 1) := by decide +kernel
theorem dX5_readClause_49 : decode cX5_readClause 49 = .ok (.getfield 25, 3) := by decide +kernel
theorem dX5_readClause_52 : decode cX5_readClause 52 = .ok (.invokevirtual 50, 3) := by decide +kernel
theorem dX5_readClause_55 : decode cX5_readClause 55 = .ok (.return_, 1) := by decide +kernel
theorem dX5_readClause_56 : decode cX5_readClause 56 = .ok (.aload_n 0, 1) := by decide +kernel
theorem dX5_readClause_57 : decode cX5_readClause 57 = .ok (.iload_n 2, 1) := by decide +kernel
theorem dX5_readClause_58 : decode cX5_readClause 58 = .ok (.aload_n 1, 1) := by decide +kernel
theorem dX5_readClause_59 : decode cX5_readClause 59 = .ok (.invokevirtual 54, 3) := by decide +kernel
theorem dX5_readClause_62 : decode cX5_readClause 62 = .ok (.ifCond .ne 13, 3) := by decide +kernel
theorem dX5_readClause_65 : decode cX5_readClause 65 = .ok (.aload_n 0, 1) := by decide +kernel
theorem dX5_readClause_66 : decode cX5_readClause 66 = .ok (.iconst 3, 1) := by decide +kernel
theorem dX5_readClause_67 : decode cX5_readClause 67 = .ok (.aload_n 0, 1) := by decide +kernel
theorem dX5_readClause_68 : decode cX5_readClause 68 = .ok (.getfield 25, 3) := by decide +kernel
theorem dX5_readClause_71 : decode cX5_readClause 71 = .ok (.invokevirtual 50, 3) := by decide +kernel
theorem dX5_readClause_74 : decode cX5_readClause 74 = .ok (.return_, 1) := by decide +kernel
theorem dX5_readClause_75 : decode cX5_readClause 75 = .ok (.aload_n 0, 1) := by decide +kernel
theorem dX5_readClause_76 : decode cX5_readClause 76 = .ok (.dup, 1) := by decide +kernel
theorem dX5_readClause_77 : decode cX5_readClause 77 = .ok (.getfield 25, 3) := by decide +kernel
theorem dX5_readClause_80 : decode cX5_readClause 80 = .ok (.iconst 1, 1) := by decide +kernel
theorem dX5_readClause_81 : decode cX5_readClause 81 = .ok (.iadd, 1) := by decide +kernel
theorem dX5_readClause_82 : decode cX5_readClause 82 = .ok (.putfield 25, 3) := by decide +kernel
theorem dX5_readClause_85 : decode cX5_readClause 85 = .ok (.iload_n 2, 1) := by decide +kernel
theorem dX5_readClause_86 : decode cX5_readClause 86 = .ok (.bipush 115, 2) := by decide +kernel
theorem dX5_readClause_88 : decode cX5_readClause 88 = .ok (.if_icmp .ne 11, 3) := by decide +kernel
theorem dX5_readClause_91 : decode cX5_readClause 91 = .ok (.aload_n 0, 1) := by decide +kernel
theorem dX5_readClause_92 : decode cX5_readClause 92 = .ok (.aload_n 1, 1) := by decide +kernel
theorem dX5_readClause_93 : decode cX5_readClause 93 = .ok (.invokevirtual 58, 3) := by decide +kernel
theorem dX5_readClause_96 : decode cX5_readClause 96 = .ok (.goto 22, 3) := by decide +kernel
theorem dX5_readClause_99 : decode cX5_readClause 99 = .ok (.iload_n 2, 1) := by decide +kernel
theorem dX5_readClause_100 : decode cX5_readClause 100 = .ok (.bipush 112, 2) := by decide +kernel
theorem dX5_readClause_102 : decode cX5_readClause 102 = .ok (.if_icmp .ne 11, 3) := by decide +kernel
theorem dX5_readClause_105 : decode cX5_readClause 105 = .ok (.aload_n 0, 1) := by decide +kernel
theorem dX5_readClause_106 : decode cX5_readClause 106 = .ok (.aload_n 1, 1) := by decide +kernel
theorem dX5_readClause_107 : decode cX5_readClause 107 = .ok (.invokevirtual 61, 3) := by decide +kernel
theorem dX5_readClause_110 : decode cX5_readClause 110 = .ok (.goto 8, 3) := by decide +kernel
theorem dX5_readClause_113 : decode cX5_readClause 113 = .ok (.aload_n 0, 1) := by decide +kernel
theorem dX5_readClause_114 : decode cX5_readClause 114 = .ok (.aload_n 1, 1) := by decide +kernel
theorem dX5_readClause_115 : decode cX5_readClause 115 = .ok (.invokevirtual 64, 3) := by decide +kernel
theorem dX5_readClause_118 : decode cX5_readClause 118 = .ok (.return_, 1) := by decide +kernel
theorem dX5_hasRoomFor_0 : decode cX5_hasRoomFor 0 = .ok (.iload_n 1, 1) := by decide +kernel
theorem dX5_hasRoomFor_1 : decode cX5_hasRoomFor 1 = .ok (.bipush 115, 2) := by decide +kernel
theorem dX5_hasRoomFor_3 : decode cX5_hasRoomFor 3 = .ok (.if_icmp .ne 16, 3) := by decide +kernel
theorem dX5_hasRoomFor_6 : decode cX5_hasRoomFor 6 = .ok (.aload_n 2, 1) := by decide +kernel
theorem dX5_hasRoomFor_7 : decode cX5_hasRoomFor 7 = .ok (.getfield 47, 3) := by decide +kernel
theorem dX5_hasRoomFor_10 : decode cX5_hasRoomFor 10 = .ok (.ifCond .ne 7, 3) := by decide +kernel
theorem dX5_hasRoomFor_13 : decode cX5_hasRoomFor 13 = .ok (.iconst 1, 1) := by decide +kernel
theorem dX5_hasRoomFor_14 : decode cX5_hasRoomFor 14 = .ok (.goto 4, 3) := by decide +kernel
theorem dX5_hasRoomFor_17 : decode cX5_hasRoomFor 17 = .ok (.iconst 0, 1) := by decide +kernel
theorem dX5_hasRoomFor_18 : decode cX5_hasRoomFor 18 = .ok (.ireturn, 1) := by decide +kernel
theorem dX5_hasRoomFor_19 : decode cX5_hasRoomFor 19 = .ok (.iload_n 1, 1) := by decide +kernel
theorem dX5_hasRoomFor_20 : decode cX5_hasRoomFor 20 = .ok (.bipush 112, 2) := by decide +kernel
theorem dX5_hasRoomFor_22 : decode cX5_hasRoomFor 22 = .ok (.if_icmp .ne 20, 3) := by decide +kernel
theorem dX5_hasRoomFor_25 : decode cX5_hasRoomFor 25 = .ok (.aload_n 2, 1) := by decide +kernel
theorem dX5_hasRoomFor_26 : decode cX5_hasRoomFor 26 = .ok (.getfield 67, 3) := by decide +kernel
theorem dX5_hasRoomFor_29 : decode cX5_hasRoomFor 29 = .ok (.bipush 8, 2) := by decide +kernel
theorem dX5_hasRoomFor_31 : decode cX5_hasRoomFor 31 = .ok (.if_icmp .ge 7, 3) := by decide +kernel
theorem dX5_hasRoomFor_34 : decode cX5_hasRoomFor 34 = .ok (.iconst 1, 1) := by decide +kernel
theorem dX5_hasRoomFor_35 : decode cX5_hasRoomFor 35 = .ok (.goto 21, 3) := by decide +kernel
theorem dX5_hasRoomFor_38 : decode cX5_hasRoomFor 38 = .ok (.iconst 0, 1) := by decide +kernel
theorem dX5_hasRoomFor_39 : decode cX5_hasRoomFor 39 = .ok (.goto 17, 3) := by decide +kernel
theorem dX5_hasRoomFor_42 : decode cX5_hasRoomFor 42 = .ok (.aload_n 2, 1) := by decide +kernel
theorem dX5_hasRoomFor_43 : decode cX5_hasRoomFor 43 = .ok (.getfield 70, 3) := by decide +kernel
theorem dX5_hasRoomFor_46 : decode cX5_hasRoomFor 46 = .ok (.bipush 10, 2) := by decide +kernel
theorem dX5_hasRoomFor_48 : decode cX5_hasRoomFor 48 = .ok (.if_icmp .ge 7, 3) := by decide +kernel
theorem dX5_hasRoomFor_51 : decode cX5_hasRoomFor 51 = .ok (.iconst 1, 1) := by decide +kernel
theorem dX5_hasRoomFor_52 : decode cX5_hasRoomFor 52 = .ok (.goto 4, 3) := by decide +kernel
theorem dX5_hasRoomFor_55 : decode cX5_hasRoomFor 55 = .ok (.iconst 0, 1) := by decide +kernel
theorem dX5_hasRoomFor_56 : decode cX5_hasRoomFor 56 = .ok (.ireturn, 1) := by decide +kernel
theorem dX5_readRoom_0 : decode cX5_readRoom 0 = .ok (.aload_n 0, 1) := by decide +kernel
theorem dX5_readRoom_1 : decode cX5_readRoom 1 = .ok (.iconst 1, 1) := by decide +kernel
theorem dX5_readRoom_2 : decode cX5_readRoom 2 = .ok (.bipush 99, 2) := by decide +kernel
theorem dX5_readRoom_4 : decode cX5_readRoom 4 = .ok (.invokevirtual 73, 3) := by decide +kernel
theorem dX5_readRoom_7 : decode cX5_readRoom 7 = .ok (.istore_n 2, 1) := by decide +kernel
theorem dX5_readRoom_8 : decode cX5_readRoom 8 = .ok (.aload_n 0, 1) := by decide +kernel
theorem dX5_readRoom_9 : decode cX5_readRoom 9 = .ok (.invokevirtual 77, 3) := by decide +kernel
theorem dX5_readRoom_12 : decode cX5_readRoom 12 = .ok (.ifCond .eq 8, 3) := by decide +kernel
theorem dX5_readRoom_15 : decode cX5_readRoom 15 = .ok (.aload_n 1, 1) := by decide +kernel
theorem dX5_readRoom_16 : decode cX5_readRoom 16 = .ok (.iload_n 2, 1) := by decide +kernel
theorem dX5_readRoom_17 : decode cX5_readRoom 17 = .ok (.putfield 47, 3) := by decide +kernel
theorem dX5_readRoom_20 : decode cX5_readRoom 20 = .ok (.return_, 1) := by decide +kernel
theorem dX5_readPlace_0 : decode cX5_readPlace 0 = .ok (.aload_n 0, 1) := by decide +kernel
theorem dX5_readPlace_1 : decode cX5_readPlace 1 = .ok (.iconst 0, 1) := by decide +kernel
theorem dX5_readPlace_2 : decode cX5_readPlace 2 = .ok (.iconst 3, 1) := by decide +kernel
theorem dX5_readPlace_3 : decode cX5_readPlace 3 = .ok (.invokevirtual 73, 3) := by decide +kernel
theorem dX5_readPlace_6 : decode cX5_readPlace 6 = .ok (.istore_n 2, 1) := by decide +kernel
theorem dX5_readPlace_7 : decode cX5_readPlace 7 = .ok (.aload_n 0, 1) := by decide +kernel
theorem dX5_readPlace_8 : decode cX5_readPlace 8 = .ok (.iconst 0, 1) := by decide +kernel
theorem dX5_readPlace_9 : decode cX5_readPlace 9 = .ok (.bipush 99, 2) := by decide +kernel
theorem dX5_readPlace_11 : decode cX5_readPlace 11 = .ok (.invokevirtual 73, 3) := by decide +kernel
theorem dX5_readPlace_14 : decode cX5_readPlace 14 = .ok (.istore_n 3, 1) := by decide +kernel
theorem dX5_readPlace_15 : decode cX5_readPlace 15 = .ok (.aload_n 0, 1) := by decide +kernel
theorem dX5_readPlace_16 : decode cX5_readPlace 16 = .ok (.invokevirtual 77, 3) := by decide +kernel
theorem dX5_readPlace_19 : decode cX5_readPlace 19 = .ok (.ifCond .eq 9, 3) := by decide +kernel
theorem dX5_readPlace_22 : decode cX5_readPlace 22 = .ok (.aload_n 1, 1) := by decide +kernel
theorem dX5_readPlace_23 : decode cX5_readPlace 23 = .ok (.iload_n 2, 1) := by decide +kernel
theorem dX5_readPlace_24 : decode cX5_readPlace 24 = .ok (.iload_n 3, 1) := by decide +kernel
theorem dX5_readPlace_25 : decode cX5_readPlace 25 = .ok (.invokevirtual 81, 3) := by decide +kernel
theorem dX5_readPlace_28 : decode cX5_readPlace 28 = .ok (.return_, 1) := by decide +kernel
theorem dX5_readChannel_0 : decode cX5_readChannel 0 = .ok (.aload_n 0, 1) := by decide +kernel
theorem dX5_readChannel_1 : decode cX5_readChannel 1 = .ok (.iconst 0, 1) := by decide +kernel
theorem dX5_readChannel_2 : decode cX5_readChannel 2 = .ok (.aload_n 1, 1) := by decide +kernel
theorem dX5_readChannel_3 : decode cX5_readChannel 3 = .ok (.getfield 67, 3) := by decide +kernel
theorem dX5_readChannel_6 : decode cX5_readChannel 6 = .ok (.iconst 1, 1) := by decide +kernel
theorem dX5_readChannel_7 : decode cX5_readChannel 7 = .ok (.isub, 1) := by decide +kernel
theorem dX5_readChannel_8 : decode cX5_readChannel 8 = .ok (.invokevirtual 73, 3) := by decide +kernel
theorem dX5_readChannel_11 : decode cX5_readChannel 11 = .ok (.istore_n 2, 1) := by decide +kernel
theorem dX5_readChannel_12 : decode cX5_readChannel 12 = .ok (.aload_n 0, 1) := by decide +kernel
theorem dX5_readChannel_13 : decode cX5_readChannel 13 = .ok (.iconst 0, 1) := by decide +kernel
theorem dX5_readChannel_14 : decode cX5_readChannel 14 = .ok (.aload_n 1, 1) := by decide +kernel
theorem dX5_readChannel_15 : decode cX5_readChannel 15 = .ok (.getfield 67, 3) := by decide +kernel
theorem dX5_readChannel_18 : decode cX5_readChannel 18 = .ok (.iconst 1, 1) := by decide +kernel
theorem dX5_readChannel_19 : decode cX5_readChannel 19 = .ok (.isub, 1) := by decide +kernel
theorem dX5_readChannel_20 : decode cX5_readChannel 20 = .ok (.invokevirtual 73, 3) := by decide +kernel
theorem dX5_readChannel_23 : decode cX5_readChannel 23 = .ok (.istore_n 3, 1) := by decide +kernel
theorem dX5_readChannel_24 : decode cX5_readChannel 24 = .ok (.aload_n 0, 1) := by decide +kernel
theorem dX5_readChannel_25 : decode cX5_readChannel 25 = .ok (.getfield 19, 3) := by decide +kernel
theorem dX5_readChannel_28 : decode cX5_readChannel 28 = .ok (.ifCond .ne 21, 3) := by decide +kernel
theorem dX5_readChannel_31 : decode cX5_readChannel 31 = .ok (.aload_n 1, 1) := by decide +kernel
theorem dX5_readChannel_32 : decode cX5_readChannel 32 = .ok (.iload_n 2, 1) := by decide +kernel
theorem dX5_readChannel_33 : decode cX5_readChannel 33 = .ok (.iload_n 3, 1) := by decide +kernel
theorem dX5_readChannel_34 : decode cX5_readChannel 34 = .ok (.invokevirtual 84, 3) := by decide +kernel
theorem dX5_readChannel_37 : decode cX5_readChannel 37 = .ok (.ifCond .ne 12, 3) := by decide +kernel
theorem dX5_readChannel_40 : decode cX5_readChannel 40 = .ok (.aload_n 0, 1) := by decide +kernel
theorem dX5_readChannel_41 : decode cX5_readChannel 41 = .ok (.iconst 4, 1) := by decide +kernel
theorem dX5_readChannel_42 : decode cX5_readChannel 42 = .ok (.aload_n 0, 1) := by decide +kernel
theorem dX5_readChannel_43 : decode cX5_readChannel 43 = .ok (.getfield 28, 3) := by decide +kernel
theorem dX5_readChannel_46 : decode cX5_readChannel 46 = .ok (.invokevirtual 50, 3) := by decide +kernel
theorem dX5_readChannel_49 : decode cX5_readChannel 49 = .ok (.aload_n 0, 1) := by decide +kernel
theorem dX5_readChannel_50 : decode cX5_readChannel 50 = .ok (.iconst 1, 1) := by decide +kernel
theorem dX5_readChannel_51 : decode cX5_readChannel 51 = .ok (.bipush 9, 2) := by decide +kernel
theorem dX5_readChannel_53 : decode cX5_readChannel 53 = .ok (.invokevirtual 73, 3) := by decide +kernel
theorem dX5_readChannel_56 : decode cX5_readChannel 56 = .ok (.istore 4, 2) := by decide +kernel
theorem dX5_readChannel_58 : decode cX5_readChannel 58 = .ok (.aload_n 0, 1) := by decide +kernel
theorem dX5_readChannel_59 : decode cX5_readChannel 59 = .ok (.invokevirtual 77, 3) := by decide +kernel
theorem dX5_readChannel_62 : decode cX5_readChannel 62 = .ok (.ifCond .eq 11, 3) := by decide +kernel
theorem dX5_readChannel_65 : decode cX5_readChannel 65 = .ok (.aload_n 1, 1) := by decide +kernel
theorem dX5_readChannel_66 : decode cX5_readChannel 66 = .ok (.iload_n 2, 1) := by decide +kernel
theorem dX5_readChannel_67 : decode cX5_readChannel 67 = .ok (.iload_n 3, 1) := by decide +kernel
theorem dX5_readChannel_68 : decode cX5_readChannel 68 = .ok (.iload 4, 2) := by decide +kernel
theorem dX5_readChannel_70 : decode cX5_readChannel 70 = .ok (.invokevirtual 88, 3) := by decide +kernel
theorem dX5_readChannel_73 : decode cX5_readChannel 73 = .ok (.return_, 1) := by decide +kernel
theorem dX5_number_0 : decode cX5_number 0 = .ok (.aload_n 0, 1) := by decide +kernel
theorem dX5_number_1 : decode cX5_number 1 = .ok (.getfield 19, 3) := by decide +kernel
theorem dX5_number_4 : decode cX5_number 4 = .ok (.ifCond .eq 5, 3) := by decide +kernel
theorem dX5_number_7 : decode cX5_number 7 = .ok (.iconst 0, 1) := by decide +kernel
theorem dX5_number_8 : decode cX5_number 8 = .ok (.ireturn, 1) := by decide +kernel
theorem dX5_number_9 : decode cX5_number 9 = .ok (.aload_n 0, 1) := by decide +kernel
theorem dX5_number_10 : decode cX5_number 10 = .ok (.invokevirtual 36, 3) := by decide +kernel
theorem dX5_number_13 : decode cX5_number 13 = .ok (.aload_n 0, 1) := by decide +kernel
theorem dX5_number_14 : decode cX5_number 14 = .ok (.aload_n 0, 1) := by decide +kernel
theorem dX5_number_15 : decode cX5_number 15 = .ok (.getfield 25, 3) := by decide +kernel
theorem dX5_number_18 : decode cX5_number 18 = .ok (.putfield 28, 3) := by decide +kernel
theorem dX5_number_21 : decode cX5_number 21 = .ok (.iconst 0, 1) := by decide +kernel
theorem dX5_number_22 : decode cX5_number 22 = .ok (.istore_n 3, 1) := by decide +kernel
theorem dX5_number_23 : decode cX5_number 23 = .ok (.aload_n 0, 1) := by decide +kernel
theorem dX5_number_24 : decode cX5_number 24 = .ok (.getfield 25, 3) := by decide +kernel
theorem dX5_number_27 : decode cX5_number 27 = .ok (.aload_n 0, 1) := by decide +kernel
theorem dX5_number_28 : decode cX5_number 28 = .ok (.getfield 15, 3) := by decide +kernel
theorem dX5_number_31 : decode cX5_number 31 = .ok (.if_icmp .ge 52, 3) := by decide +kernel
theorem dX5_number_34 : decode cX5_number 34 = .ok (.aload_n 0, 1) := by decide +kernel
theorem dX5_number_35 : decode cX5_number 35 = .ok (.invokevirtual 43, 3) := by decide +kernel
theorem dX5_number_38 : decode cX5_number 38 = .ok (.invokestatic 92, 3) := by decide +kernel
theorem dX5_number_41 : decode cX5_number 41 = .ok (.ifCond .eq 42, 3) := by decide +kernel
theorem dX5_number_44 : decode cX5_number 44 = .ok (.aload_n 0, 1) := by decide +kernel
theorem dX5_number_45 : decode cX5_number 45 = .ok (.getfield 25, 3) := by decide +kernel
theorem dX5_number_48 : decode cX5_number 48 = .ok (.aload_n 0, 1) := by decide +kernel
theorem dX5_number_49 : decode cX5_number 49 = .ok (.getfield 28, 3) := by decide +kernel
theorem dX5_number_52 : decode cX5_number 52 = .ok (.isub, 1) := by decide +kernel
theorem dX5_number_53 : decode cX5_number 53 = .ok (.iconst 3, 1) := by decide +kernel
theorem dX5_number_54 : decode cX5_number 54 = .ok (.if_icmp .ge 16, 3) := by decide +kernel
theorem dX5_number_57 : decode cX5_number 57 = .ok (.iload_n 3, 1) := by decide +kernel
theorem dX5_number_58 : decode cX5_number 58 = .ok (.bipush 10, 2) := by decide +kernel
theorem dX5_number_60 : decode cX5_number 60 = .ok (.imul, 1) := by decide +kernel
theorem dX5_number_61 : decode cX5_number 61 = .ok (.aload_n 0, 1) := by decide +kernel
theorem dX5_number_62 : decode cX5_number 62 = .ok (.invokevirtual 43, 3) := by decide +kernel
theorem dX5_number_65 : decode cX5_number 65 = .ok (.iadd, 1) := by decide +kernel
theorem dX5_number_66 : decode cX5_number 66 = .ok (.bipush 48, 2) := by decide +kernel
theorem dX5_number_68 : decode cX5_number 68 = .ok (.isub, 1) := by decide +kernel
theorem dX5_number_69 : decode cX5_number 69 = .ok (.istore_n 3, 1) := by decide +kernel
theorem dX5_number_70 : decode cX5_number 70 = .ok (.aload_n 0, 1) := by decide +kernel
theorem dX5_number_71 : decode cX5_number 71 = .ok (.dup, 1) := by decide +kernel
theorem dX5_number_72 : decode cX5_number 72 = .ok (.getfield 25, 3) := by decide +kernel
theorem dX5_number_75 : decode cX5_number 75 = .ok (.iconst 1, 1) := by decide +kernel
theorem dX5_number_76 : decode cX5_number 76 = .ok (.iadd, 1) := by decide +kernel
theorem dX5_number_77 : decode cX5_number 77 = .ok (.putfield 25, 3) := by decide +kernel
theorem dX5_number_80 : decode cX5_number 80 = .ok (.goto (-57), 3) := by decide +kernel
theorem dX5_number_83 : decode cX5_number 83 = .ok (.aload_n 0, 1) := by decide +kernel
theorem dX5_number_84 : decode cX5_number 84 = .ok (.getfield 25, 3) := by decide +kernel
theorem dX5_number_87 : decode cX5_number 87 = .ok (.aload_n 0, 1) := by decide +kernel
theorem dX5_number_88 : decode cX5_number 88 = .ok (.getfield 28, 3) := by decide +kernel
theorem dX5_number_91 : decode cX5_number 91 = .ok (.isub, 1) := by decide +kernel
theorem dX5_number_92 : decode cX5_number 92 = .ok (.istore 4, 2) := by decide +kernel
theorem dX5_number_94 : decode cX5_number 94 = .ok (.iload 4, 2) := by decide +kernel
theorem dX5_number_96 : decode cX5_number 96 = .ok (.ifCond .ne 15, 3) := by decide +kernel
theorem dX5_number_99 : decode cX5_number 99 = .ok (.aload_n 0, 1) := by decide +kernel
theorem dX5_number_100 : decode cX5_number 100 = .ok (.iconst 1, 1) := by decide +kernel
theorem dX5_number_101 : decode cX5_number 101 = .ok (.aload_n 0, 1) := by decide +kernel
theorem dX5_number_102 : decode cX5_number 102 = .ok (.getfield 25, 3) := by decide +kernel
theorem dX5_number_105 : decode cX5_number 105 = .ok (.invokevirtual 50, 3) := by decide +kernel
theorem dX5_number_108 : decode cX5_number 108 = .ok (.goto 28, 3) := by decide +kernel
theorem dX5_number_111 : decode cX5_number 111 = .ok (.iload 4, 2) := by decide +kernel
theorem dX5_number_113 : decode cX5_number 113 = .ok (.iconst 3, 1) := by decide +kernel
theorem dX5_number_114 : decode cX5_number 114 = .ok (.if_icmp .gt 13, 3) := by decide +kernel
theorem dX5_number_117 : decode cX5_number 117 = .ok (.iload_n 3, 1) := by decide +kernel
theorem dX5_number_118 : decode cX5_number 118 = .ok (.iload_n 1, 1) := by decide +kernel
theorem dX5_number_119 : decode cX5_number 119 = .ok (.if_icmp .lt 8, 3) := by decide +kernel
theorem dX5_number_122 : decode cX5_number 122 = .ok (.iload_n 3, 1) := by decide +kernel
theorem dX5_number_123 : decode cX5_number 123 = .ok (.iload_n 2, 1) := by decide +kernel
theorem dX5_number_124 : decode cX5_number 124 = .ok (.if_icmp .le 12, 3) := by decide +kernel
theorem dX5_number_127 : decode cX5_number 127 = .ok (.aload_n 0, 1) := by decide +kernel
theorem dX5_number_128 : decode cX5_number 128 = .ok (.iconst 2, 1) := by decide +kernel
theorem dX5_number_129 : decode cX5_number 129 = .ok (.aload_n 0, 1) := by decide +kernel
theorem dX5_number_130 : decode cX5_number 130 = .ok (.getfield 28, 3) := by decide +kernel
theorem dX5_number_133 : decode cX5_number 133 = .ok (.invokevirtual 50, 3) := by decide +kernel
theorem dX5_number_136 : decode cX5_number 136 = .ok (.iload_n 3, 1) := by decide +kernel
theorem dX5_number_137 : decode cX5_number 137 = .ok (.ireturn, 1) := by decide +kernel
theorem dX5_closes_0 : decode cX5_closes 0 = .ok (.aload_n 0, 1) := by decide +kernel
theorem dX5_closes_1 : decode cX5_closes 1 = .ok (.getfield 19, 3) := by decide +kernel
theorem dX5_closes_4 : decode cX5_closes 4 = .ok (.ifCond .eq 5, 3) := by decide +kernel
theorem dX5_closes_7 : decode cX5_closes 7 = .ok (.iconst 0, 1) := by decide +kernel
theorem dX5_closes_8 : decode cX5_closes 8 = .ok (.ireturn, 1) := by decide +kernel
theorem dX5_closes_9 : decode cX5_closes 9 = .ok (.aload_n 0, 1) := by decide +kernel
theorem dX5_closes_10 : decode cX5_closes 10 = .ok (.invokevirtual 36, 3) := by decide +kernel
theorem dX5_closes_13 : decode cX5_closes 13 = .ok (.aload_n 0, 1) := by decide +kernel
theorem dX5_closes_14 : decode cX5_closes 14 = .ok (.invokevirtual 43, 3) := by decide +kernel
theorem dX5_closes_17 : decode cX5_closes 17 = .ok (.bipush 59, 2) := by decide +kernel
theorem dX5_closes_19 : decode cX5_closes 19 = .ok (.if_icmp .eq 14, 3) := by decide +kernel
theorem dX5_closes_22 : decode cX5_closes 22 = .ok (.aload_n 0, 1) := by decide +kernel
theorem dX5_closes_23 : decode cX5_closes 23 = .ok (.iconst 1, 1) := by decide +kernel
theorem dX5_closes_24 : decode cX5_closes 24 = .ok (.aload_n 0, 1) := by decide +kernel
theorem dX5_closes_25 : decode cX5_closes 25 = .ok (.getfield 25, 3) := by decide +kernel
theorem dX5_closes_28 : decode cX5_closes 28 = .ok (.invokevirtual 50, 3) := by decide +kernel
theorem dX5_closes_31 : decode cX5_closes 31 = .ok (.iconst 0, 1) := by decide +kernel
theorem dX5_closes_32 : decode cX5_closes 32 = .ok (.ireturn, 1) := by decide +kernel
theorem dX5_closes_33 : decode cX5_closes 33 = .ok (.aload_n 0, 1) := by decide +kernel
theorem dX5_closes_34 : decode cX5_closes 34 = .ok (.dup, 1) := by decide +kernel
theorem dX5_closes_35 : decode cX5_closes 35 = .ok (.getfield 25, 3) := by decide +kernel
theorem dX5_closes_38 : decode cX5_closes 38 = .ok (.iconst 1, 1) := by decide +kernel
theorem dX5_closes_39 : decode cX5_closes 39 = .ok (.iadd, 1) := by decide +kernel
theorem dX5_closes_40 : decode cX5_closes 40 = .ok (.putfield 25, 3) := by decide +kernel
theorem dX5_closes_43 : decode cX5_closes 43 = .ok (.iconst 1, 1) := by decide +kernel
theorem dX5_closes_44 : decode cX5_closes 44 = .ok (.ireturn, 1) := by decide +kernel
theorem dX5_skipBlanks_0 : decode cX5_skipBlanks 0 = .ok (.aload_n 0, 1) := by decide +kernel
theorem dX5_skipBlanks_1 : decode cX5_skipBlanks 1 = .ok (.getfield 25, 3) := by decide +kernel
theorem dX5_skipBlanks_4 : decode cX5_skipBlanks 4 = .ok (.aload_n 0, 1) := by decide +kernel
theorem dX5_skipBlanks_5 : decode cX5_skipBlanks 5 = .ok (.getfield 15, 3) := by decide +kernel
theorem dX5_skipBlanks_8 : decode cX5_skipBlanks 8 = .ok (.if_icmp .ge 25, 3) := by decide +kernel
theorem dX5_skipBlanks_11 : decode cX5_skipBlanks 11 = .ok (.aload_n 0, 1) := by decide +kernel
theorem dX5_skipBlanks_12 : decode cX5_skipBlanks 12 = .ok (.invokevirtual 43, 3) := by decide +kernel
theorem dX5_skipBlanks_15 : decode cX5_skipBlanks 15 = .ok (.bipush 32, 2) := by decide +kernel
theorem dX5_skipBlanks_17 : decode cX5_skipBlanks 17 = .ok (.if_icmp .ne 16, 3) := by decide +kernel
theorem dX5_skipBlanks_20 : decode cX5_skipBlanks 20 = .ok (.aload_n 0, 1) := by decide +kernel
theorem dX5_skipBlanks_21 : decode cX5_skipBlanks 21 = .ok (.dup, 1) := by decide +kernel
theorem dX5_skipBlanks_22 : decode cX5_skipBlanks 22 = .ok (.getfield 25, 3) := by decide +kernel
theorem dX5_skipBlanks_25 : decode cX5_skipBlanks 25 = .ok (.iconst 1, 1) := by decide +kernel
theorem dX5_skipBlanks_26 : decode cX5_skipBlanks 26 = .ok (.iadd, 1) := by decide +kernel
theorem dX5_skipBlanks_27 : decode cX5_skipBlanks 27 = .ok (.putfield 25, 3) := by decide +kernel
theorem dX5_skipBlanks_30 : decode cX5_skipBlanks 30 = .ok (.goto (-30), 3) := by decide +kernel
theorem dX5_skipBlanks_33 : decode cX5_skipBlanks 33 = .ok (.return_, 1) := by decide +kernel
theorem dX5_current_0 : decode cX5_current 0 = .ok (.aload_n 0, 1) := by decide +kernel
theorem dX5_current_1 : decode cX5_current 1 = .ok (.getfield 25, 3) := by decide +kernel
theorem dX5_current_4 : decode cX5_current 4 = .ok (.ifCond .lt 36, 3) := by decide +kernel
theorem dX5_current_7 : decode cX5_current 7 = .ok (.aload_n 0, 1) := by decide +kernel
theorem dX5_current_8 : decode cX5_current 8 = .ok (.getfield 25, 3) := by decide +kernel
theorem dX5_current_11 : decode cX5_current 11 = .ok (.aload_n 0, 1) := by decide +kernel
theorem dX5_current_12 : decode cX5_current 12 = .ok (.getfield 15, 3) := by decide +kernel
theorem dX5_current_15 : decode cX5_current 15 = .ok (.if_icmp .ge 25, 3) := by decide +kernel
theorem dX5_current_18 : decode cX5_current 18 = .ok (.aload_n 0, 1) := by decide +kernel
theorem dX5_current_19 : decode cX5_current 19 = .ok (.getfield 25, 3) := by decide +kernel
theorem dX5_current_22 : decode cX5_current 22 = .ok (.sipush 240, 3) := by decide +kernel
theorem dX5_current_25 : decode cX5_current 25 = .ok (.if_icmp .ge 15, 3) := by decide +kernel
theorem dX5_current_28 : decode cX5_current 28 = .ok (.aload_n 0, 1) := by decide +kernel
theorem dX5_current_29 : decode cX5_current 29 = .ok (.getfield 9, 3) := by decide +kernel
theorem dX5_current_32 : decode cX5_current 32 = .ok (.aload_n 0, 1) := by decide +kernel
theorem dX5_current_33 : decode cX5_current 33 = .ok (.getfield 25, 3) := by decide +kernel
theorem dX5_current_36 : decode cX5_current 36 = .ok (.iaload, 1) := by decide +kernel
theorem dX5_current_37 : decode cX5_current 37 = .ok (.goto 4, 3) := by decide +kernel
theorem dX5_current_40 : decode cX5_current 40 = .ok (.iconst (-1), 1) := by decide +kernel
theorem dX5_current_41 : decode cX5_current 41 = .ok (.ireturn, 1) := by decide +kernel
theorem dX5_isFigure_0 : decode cX5_isFigure 0 = .ok (.iload_n 0, 1) := by decide +kernel
theorem dX5_isFigure_1 : decode cX5_isFigure 1 = .ok (.bipush 48, 2) := by decide +kernel
theorem dX5_isFigure_3 : decode cX5_isFigure 3 = .ok (.if_icmp .lt 13, 3) := by decide +kernel
theorem dX5_isFigure_6 : decode cX5_isFigure 6 = .ok (.iload_n 0, 1) := by decide +kernel
theorem dX5_isFigure_7 : decode cX5_isFigure 7 = .ok (.bipush 57, 2) := by decide +kernel
theorem dX5_isFigure_9 : decode cX5_isFigure 9 = .ok (.if_icmp .gt 7, 3) := by decide +kernel
theorem dX5_isFigure_12 : decode cX5_isFigure 12 = .ok (.iconst 1, 1) := by decide +kernel
theorem dX5_isFigure_13 : decode cX5_isFigure 13 = .ok (.goto 4, 3) := by decide +kernel
theorem dX5_isFigure_16 : decode cX5_isFigure 16 = .ok (.iconst 0, 1) := by decide +kernel
theorem dX5_isFigure_17 : decode cX5_isFigure 17 = .ok (.ireturn, 1) := by decide +kernel
theorem dX5_blame_0 : decode cX5_blame 0 = .ok (.aload_n 0, 1) := by decide +kernel
theorem dX5_blame_1 : decode cX5_blame 1 = .ok (.iload_n 1, 1) := by decide +kernel
theorem dX5_blame_2 : decode cX5_blame 2 = .ok (.putfield 19, 3) := by decide +kernel
theorem dX5_blame_5 : decode cX5_blame 5 = .ok (.aload_n 0, 1) := by decide +kernel
theorem dX5_blame_6 : decode cX5_blame 6 = .ok (.iload_n 2, 1) := by decide +kernel
theorem dX5_blame_7 : decode cX5_blame 7 = .ok (.putfield 22, 3) := by decide +kernel
theorem dX5_blame_10 : decode cX5_blame 10 = .ok (.return_, 1) := by decide +kernel
theorem dX6_init_0 : decode cX6_init 0 = .ok (.aload_n 0, 1) := by decide +kernel
theorem dX6_init_1 : decode cX6_init 1 = .ok (.invokespecial 3, 3) := by decide +kernel
theorem dX6_init_4 : decode cX6_init 4 = .ok (.aload_n 0, 1) := by decide +kernel
theorem dX6_init_5 : decode cX6_init 5 = .ok (.bipush 8, 2) := by decide +kernel
theorem dX6_init_7 : decode cX6_init 7 = .ok (.newarray .int, 2) := by decide +kernel
theorem dX6_init_9 : decode cX6_init 9 = .ok (.putfield 9, 3) := by decide +kernel
theorem dX6_init_12 : decode cX6_init 12 = .ok (.aload_n 0, 1) := by decide +kernel
theorem dX6_init_13 : decode cX6_init 13 = .ok (.bipush 8, 2) := by decide +kernel
theorem dX6_init_15 : decode cX6_init 15 = .ok (.newarray .int, 2) := by decide +kernel
theorem dX6_init_17 : decode cX6_init 17 = .ok (.putfield 15, 3) := by decide +kernel
theorem dX6_init_20 : decode cX6_init 20 = .ok (.return_, 1) := by decide +kernel
theorem dX6_follow_0 : decode cX6_follow 0 = .ok (.aload_n 0, 1) := by decide +kernel
theorem dX6_follow_1 : decode cX6_follow 1 = .ok (.getfield 9, 3) := by decide +kernel
theorem dX6_follow_4 : decode cX6_follow 4 = .ok (.iconst (-1), 1) := by decide +kernel
theorem dX6_follow_5 : decode cX6_follow 5 = .ok (.invokestatic 18, 3) := by decide +kernel
theorem dX6_follow_8 : decode cX6_follow 8 = .ok (.aload_n 0, 1) := by decide +kernel
theorem dX6_follow_9 : decode cX6_follow 9 = .ok (.getfield 15, 3) := by decide +kernel
theorem dX6_follow_12 : decode cX6_follow 12 = .ok (.iconst 0, 1) := by decide +kernel
theorem dX6_follow_13 : decode cX6_follow 13 = .ok (.invokestatic 18, 3) := by decide +kernel
theorem dX6_follow_16 : decode cX6_follow 16 = .ok (.aload_n 0, 1) := by decide +kernel
theorem dX6_follow_17 : decode cX6_follow 17 = .ok (.getfield 9, 3) := by decide +kernel
theorem dX6_follow_20 : decode cX6_follow 20 = .ok (.iconst 0, 1) := by decide +kernel
theorem dX6_follow_21 : decode cX6_follow 21 = .ok (.iconst 0, 1) := by decide +kernel
theorem dX6_follow_22 : decode cX6_follow 22 = .ok (.iastore, 1) := by decide +kernel
theorem dX6_follow_23 : decode cX6_follow 23 = .ok (.aload_n 0, 1) := by decide +kernel
theorem dX6_follow_24 : decode cX6_follow 24 = .ok (.getfield 15, 3) := by decide +kernel
theorem dX6_follow_27 : decode cX6_follow 27 = .ok (.iconst 0, 1) := by decide +kernel
theorem dX6_follow_28 : decode cX6_follow 28 = .ok (.iconst 1, 1) := by decide +kernel
theorem dX6_follow_29 : decode cX6_follow 29 = .ok (.iastore, 1) := by decide +kernel
theorem dX6_follow_30 : decode cX6_follow 30 = .ok (.iconst 0, 1) := by decide +kernel
theorem dX6_follow_31 : decode cX6_follow 31 = .ok (.istore_n 3, 1) := by decide +kernel
theorem dX6_follow_32 : decode cX6_follow 32 = .ok (.iload_n 3, 1) := by decide +kernel
theorem dX6_follow_33 : decode cX6_follow 33 = .ok (.aload_n 1, 1) := by decide +kernel
theorem dX6_follow_34 : decode cX6_follow 34 = .ok (.getfield 24, 3) := by decide +kernel
theorem dX6_follow_37 : decode cX6_follow 37 = .ok (.if_icmp .ge 103, 3) := by decide +kernel
theorem dX6_follow_40 : decode cX6_follow 40 = .ok (.aload_n 1, 1) := by decide +kernel
theorem dX6_follow_41 : decode cX6_follow 41 = .ok (.getfield 30, 3) := by decide +kernel
theorem dX6_follow_44 : decode cX6_follow 44 = .ok (.iload_n 3, 1) := by decide +kernel
theorem dX6_follow_45 : decode cX6_follow 45 = .ok (.iaload, 1) := by decide +kernel
theorem dX6_follow_46 : decode cX6_follow 46 = .ok (.istore 4, 2) := by decide +kernel
theorem dX6_follow_48 : decode cX6_follow 48 = .ok (.aload_n 1, 1) := by decide +kernel
theorem dX6_follow_49 : decode cX6_follow 49 = .ok (.getfield 33, 3) := by decide +kernel
theorem dX6_follow_52 : decode cX6_follow 52 = .ok (.iload 4, 2) := by decide +kernel
theorem dX6_follow_54 : decode cX6_follow 54 = .ok (.iaload, 1) := by decide +kernel
theorem dX6_follow_55 : decode cX6_follow 55 = .ok (.istore 5, 2) := by decide +kernel
theorem dX6_follow_57 : decode cX6_follow 57 = .ok (.aload_n 1, 1) := by decide +kernel
theorem dX6_follow_58 : decode cX6_follow 58 = .ok (.getfield 36, 3) := by decide +kernel
theorem dX6_follow_61 : decode cX6_follow 61 = .ok (.iload 4, 2) := by decide +kernel
theorem dX6_follow_63 : decode cX6_follow 63 = .ok (.iaload, 1) := by decide +kernel
theorem dX6_follow_64 : decode cX6_follow 64 = .ok (.istore 6, 2) := by decide +kernel
theorem dX6_follow_66 : decode cX6_follow 66 = .ok (.aload_n 0, 1) := by decide +kernel
theorem dX6_follow_67 : decode cX6_follow 67 = .ok (.getfield 15, 3) := by decide +kernel
theorem dX6_follow_70 : decode cX6_follow 70 = .ok (.iload 5, 2) := by decide +kernel
theorem dX6_follow_72 : decode cX6_follow 72 = .ok (.iaload, 1) := by decide +kernel
theorem dX6_follow_73 : decode cX6_follow 73 = .ok (.ifCond .le 61, 3) := by decide +kernel
theorem dX6_follow_76 : decode cX6_follow 76 = .ok (.iload_n 2, 1) := by decide +kernel
theorem dX6_follow_77 : decode cX6_follow 77 = .ok (.iload 4, 2) := by decide +kernel
theorem dX6_follow_79 : decode cX6_follow 79 = .ok (.invokestatic 39, 3) := by decide +kernel
theorem dX6_follow_82 : decode cX6_follow 82 = .ok (.ifCond .ne 52, 3) := by decide +kernel
theorem dX6_follow_85 : decode cX6_follow 85 = .ok (.aload_n 0, 1) := by decide +kernel
theorem dX6_follow_86 : decode cX6_follow 86 = .ok (.getfield 9, 3) := by decide +kernel
theorem dX6_follow_89 : decode cX6_follow 89 = .ok (.iload 6, 2) := by decide +kernel
theorem dX6_follow_91 : decode cX6_follow 91 = .ok (.aload_n 0, 1) := by decide +kernel
theorem dX6_follow_92 : decode cX6_follow 92 = .ok (.getfield 9, 3) := by decide +kernel
theorem dX6_follow_95 : decode cX6_follow 95 = .ok (.iload 6, 2) := by decide +kernel
theorem dX6_follow_97 : decode cX6_follow 97 = .ok (.iaload, 1) := by decide +kernel
theorem dX6_follow_98 : decode cX6_follow 98 = .ok (.aload_n 0, 1) := by decide +kernel
theorem dX6_follow_99 : decode cX6_follow 99 = .ok (.getfield 9, 3) := by decide +kernel
theorem dX6_follow_102 : decode cX6_follow 102 = .ok (.iload 5, 2) := by decide +kernel
theorem dX6_follow_104 : decode cX6_follow 104 = .ok (.iaload, 1) := by decide +kernel
theorem dX6_follow_105 : decode cX6_follow 105 = .ok (.aload_n 1, 1) := by decide +kernel
theorem dX6_follow_106 : decode cX6_follow 106 = .ok (.getfield 43, 3) := by decide +kernel
theorem dX6_follow_109 : decode cX6_follow 109 = .ok (.iload 4, 2) := by decide +kernel
theorem dX6_follow_111 : decode cX6_follow 111 = .ok (.iaload, 1) := by decide +kernel
theorem dX6_follow_112 : decode cX6_follow 112 = .ok (.iadd, 1) := by decide +kernel
theorem dX6_follow_113 : decode cX6_follow 113 = .ok (.invokestatic 46, 3) := by decide +kernel
theorem dX6_follow_116 : decode cX6_follow 116 = .ok (.iastore, 1) := by decide +kernel
theorem dX6_follow_117 : decode cX6_follow 117 = .ok (.aload_n 0, 1) := by decide +kernel
theorem dX6_follow_118 : decode cX6_follow 118 = .ok (.getfield 15, 3) := by decide +kernel
theorem dX6_follow_121 : decode cX6_follow 121 = .ok (.iload 6, 2) := by decide +kernel
theorem dX6_follow_123 : decode cX6_follow 123 = .ok (.dup2, 1) := by decide +kernel
theorem dX6_follow_124 : decode cX6_follow 124 = .ok (.iaload, 1) := by decide +kernel
theorem dX6_follow_125 : decode cX6_follow 125 = .ok (.aload_n 0, 1) := by decide +kernel
theorem dX6_follow_126 : decode cX6_follow 126 = .ok (.getfield 15, 3) := by decide +kernel
theorem dX6_follow_129 : decode cX6_follow 129 = .ok (.iload 5, 2) := by decide +kernel
theorem dX6_follow_131 : decode cX6_follow 131 = .ok (.iaload, 1) := by decide +kernel
theorem dX6_follow_132 : decode cX6_follow 132 = .ok (.iadd, 1) := by decide +kernel
theorem dX6_follow_133 : decode cX6_follow 133 = .ok (.iastore, 1) := by decide +kernel
theorem dX6_follow_134 : decode cX6_follow 134 = .ok (.iinc 3 1, 3) := by decide +kernel
theorem dX6_follow_137 : decode cX6_follow 137 = .ok (.goto (-105), 3) := by decide +kernel
theorem dX6_follow_140 : decode cX6_follow 140 = .ok (.return_, 1) := by decide +kernel
theorem dX7_init_0 : decode cX7_init 0 = .ok (.aload_n 0, 1) := by decide +kernel
theorem dX7_init_1 : decode cX7_init 1 = .ok (.invokespecial 3, 3) := by decide +kernel
theorem dX7_init_4 : decode cX7_init 4 = .ok (.aload_n 0, 1) := by decide +kernel
theorem dX7_init_5 : decode cX7_init 5 = .ok (.new 9, 3) := by decide +kernel
theorem dX7_init_8 : decode cX7_init 8 = .ok (.dup, 1) := by decide +kernel
theorem dX7_init_9 : decode cX7_init 9 = .ok (.invokespecial 11, 3) := by decide +kernel
theorem dX7_init_12 : decode cX7_init 12 = .ok (.putfield 12, 3) := by decide +kernel
theorem dX7_init_15 : decode cX7_init 15 = .ok (.aload_n 0, 1) := by decide +kernel
theorem dX7_init_16 : decode cX7_init 16 = .ok (.new 9, 3) := by decide +kernel
theorem dX7_init_19 : decode cX7_init 19 = .ok (.dup, 1) := by decide +kernel
theorem dX7_init_20 : decode cX7_init 20 = .ok (.invokespecial 11, 3) := by decide +kernel
theorem dX7_init_23 : decode cX7_init 23 = .ok (.putfield 18, 3) := by decide +kernel
theorem dX7_init_26 : decode cX7_init 26 = .ok (.aload_n 0, 1) := by decide +kernel
theorem dX7_init_27 : decode cX7_init 27 = .ok (.bipush 10, 2) := by decide +kernel
theorem dX7_init_29 : decode cX7_init 29 = .ok (.newarray .int, 2) := by decide +kernel
theorem dX7_init_31 : decode cX7_init 31 = .ok (.putfield 21, 3) := by decide +kernel
theorem dX7_init_34 : decode cX7_init 34 = .ok (.aload_n 0, 1) := by decide +kernel
theorem dX7_init_35 : decode cX7_init 35 = .ok (.bipush 88, 2) := by decide +kernel
theorem dX7_init_37 : decode cX7_init 37 = .ok (.newarray .int, 2) := by decide +kernel
theorem dX7_init_39 : decode cX7_init 39 = .ok (.putfield 25, 3) := by decide +kernel
theorem dX7_init_42 : decode cX7_init 42 = .ok (.return_, 1) := by decide +kernel
theorem dX7_fewestGates_0 : decode cX7_fewestGates 0 = .ok (.iconst (-1), 1) := by decide +kernel
theorem dX7_fewestGates_1 : decode cX7_fewestGates 1 = .ok (.istore 6, 2) := by decide +kernel
theorem dX7_fewestGates_3 : decode cX7_fewestGates 3 = .ok (.bipush 11, 2) := by decide +kernel
theorem dX7_fewestGates_5 : decode cX7_fewestGates 5 = .ok (.istore 7, 2) := by decide +kernel
theorem dX7_fewestGates_7 : decode cX7_fewestGates 7 = .ok (.iload_n 3, 1) := by decide +kernel
theorem dX7_fewestGates_8 : decode cX7_fewestGates 8 = .ok (.iconst (-1), 1) := by decide +kernel
theorem dX7_fewestGates_9 : decode cX7_fewestGates 9 = .ok (.if_icmp .ne 7, 3) := by decide +kernel
theorem dX7_fewestGates_12 : decode cX7_fewestGates 12 = .ok (.iconst 0, 1) := by decide +kernel
theorem dX7_fewestGates_13 : decode cX7_fewestGates 13 = .ok (.goto 6, 3) := by decide +kernel
theorem dX7_fewestGates_16 : decode cX7_fewestGates 16 = .ok (.iconst 1, 1) := by decide +kernel
theorem dX7_fewestGates_17 : decode cX7_fewestGates 17 = .ok (.iload_n 3, 1) := by decide +kernel
theorem dX7_fewestGates_18 : decode cX7_fewestGates 18 = .ok (.ishl, 1) := by decide +kernel
theorem dX7_fewestGates_19 : decode cX7_fewestGates 19 = .ok (.istore 8, 2) := by decide +kernel
theorem dX7_fewestGates_21 : decode cX7_fewestGates 21 = .ok (.iconst 0, 1) := by decide +kernel
theorem dX7_fewestGates_22 : decode cX7_fewestGates 22 = .ok (.istore 9, 2) := by decide +kernel
theorem dX7_fewestGates_24 : decode cX7_fewestGates 24 = .ok (.iload 9, 2) := by decide +kernel
theorem dX7_fewestGates_26 : decode cX7_fewestGates 26 = .ok (.iconst 1, 1) := by decide +kernel
theorem dX7_fewestGates_27 : decode cX7_fewestGates 27 = .ok (.aload_n 1, 1) := by decide +kernel
theorem dX7_fewestGates_28 : decode cX7_fewestGates 28 = .ok (.getfield 28, 3) := by decide +kernel
theorem dX7_fewestGates_31 : decode cX7_fewestGates 31 = .ok (.ishl, 1) := by decide +kernel
theorem dX7_fewestGates_32 : decode cX7_fewestGates 32 = .ok (.if_icmp .ge 88, 3) := by decide +kernel
theorem dX7_fewestGates_35 : decode cX7_fewestGates 35 = .ok (.iload 9, 2) := by decide +kernel
theorem dX7_fewestGates_37 : decode cX7_fewestGates 37 = .ok (.invokestatic 34, 3) := by decide +kernel
theorem dX7_fewestGates_40 : decode cX7_fewestGates 40 = .ok (.iload 7, 2) := by decide +kernel
theorem dX7_fewestGates_42 : decode cX7_fewestGates 42 = .ok (.if_icmp .ge 72, 3) := by decide +kernel
theorem dX7_fewestGates_45 : decode cX7_fewestGates 45 = .ok (.iload 9, 2) := by decide +kernel
theorem dX7_fewestGates_47 : decode cX7_fewestGates 47 = .ok (.aload_n 2, 1) := by decide +kernel
theorem dX7_fewestGates_48 : decode cX7_fewestGates 48 = .ok (.getfield 40, 3) := by decide +kernel
theorem dX7_fewestGates_51 : decode cX7_fewestGates 51 = .ok (.iand, 1) := by decide +kernel
theorem dX7_fewestGates_52 : decode cX7_fewestGates 52 = .ok (.ifCond .ne 62, 3) := by decide +kernel
theorem dX7_fewestGates_55 : decode cX7_fewestGates 55 = .ok (.aload_n 0, 1) := by decide +kernel
theorem dX7_fewestGates_56 : decode cX7_fewestGates 56 = .ok (.getfield 12, 3) := by decide +kernel
theorem dX7_fewestGates_59 : decode cX7_fewestGates 59 = .ok (.aload_n 1, 1) := by decide +kernel
theorem dX7_fewestGates_60 : decode cX7_fewestGates 60 = .ok (.iload 4, 2) := by decide +kernel
theorem dX7_fewestGates_62 : decode cX7_fewestGates 62 = .ok (.iload 9, 2) := by decide +kernel
theorem dX7_fewestGates_64 : decode cX7_fewestGates 64 = .ok (.aload_n 2, 1) := by decide +kernel
theorem dX7_fewestGates_65 : decode cX7_fewestGates 65 = .ok (.getfield 40, 3) := by decide +kernel
theorem dX7_fewestGates_68 : decode cX7_fewestGates 68 = .ok (.ior, 1) := by decide +kernel
theorem dX7_fewestGates_69 : decode cX7_fewestGates 69 = .ok (.aload_n 2, 1) := by decide +kernel
theorem dX7_fewestGates_70 : decode cX7_fewestGates 70 = .ok (.getfield 45, 3) := by decide +kernel
theorem dX7_fewestGates_73 : decode cX7_fewestGates 73 = .ok (.invokevirtual 48, 3) := by decide +kernel
theorem dX7_fewestGates_76 : decode cX7_fewestGates 76 = .ok (.aload_n 0, 1) := by decide +kernel
theorem dX7_fewestGates_77 : decode cX7_fewestGates 77 = .ok (.getfield 12, 3) := by decide +kernel
theorem dX7_fewestGates_80 : decode cX7_fewestGates 80 = .ok (.invokevirtual 52, 3) := by decide +kernel
theorem dX7_fewestGates_83 : decode cX7_fewestGates 83 = .ok (.istore 10, 2) := by decide +kernel
theorem dX7_fewestGates_85 : decode cX7_fewestGates 85 = .ok (.iload 10, 2) := by decide +kernel
theorem dX7_fewestGates_87 : decode cX7_fewestGates 87 = .ok (.iload 5, 2) := by decide +kernel
theorem dX7_fewestGates_89 : decode cX7_fewestGates 89 = .ok (.iand, 1) := by decide +kernel
theorem dX7_fewestGates_90 : decode cX7_fewestGates 90 = .ok (.ifCond .ne 24, 3) := by decide +kernel
theorem dX7_fewestGates_93 : decode cX7_fewestGates 93 = .ok (.iload 10, 2) := by decide +kernel
theorem dX7_fewestGates_95 : decode cX7_fewestGates 95 = .ok (.iload 8, 2) := by decide +kernel
theorem dX7_fewestGates_97 : decode cX7_fewestGates 97 = .ok (.iand, 1) := by decide +kernel
theorem dX7_fewestGates_98 : decode cX7_fewestGates 98 = .ok (.iload 8, 2) := by decide +kernel
theorem dX7_fewestGates_100 : decode cX7_fewestGates 100 = .ok (.if_icmp .ne 14, 3) := by decide +kernel
theorem dX7_fewestGates_103 : decode cX7_fewestGates 103 = .ok (.iload 9, 2) := by decide +kernel
theorem dX7_fewestGates_105 : decode cX7_fewestGates 105 = .ok (.istore 6, 2) := by decide +kernel
theorem dX7_fewestGates_107 : decode cX7_fewestGates 107 = .ok (.iload 9, 2) := by decide +kernel
theorem dX7_fewestGates_109 : decode cX7_fewestGates 109 = .ok (.invokestatic 34, 3) := by decide +kernel
theorem dX7_fewestGates_112 : decode cX7_fewestGates 112 = .ok (.istore 7, 2) := by decide +kernel
theorem dX7_fewestGates_114 : decode cX7_fewestGates 114 = .ok (.iinc 9 1, 3) := by decide +kernel
theorem dX7_fewestGates_117 : decode cX7_fewestGates 117 = .ok (.goto (-93), 3) := by decide +kernel
theorem dX7_fewestGates_120 : decode cX7_fewestGates 120 = .ok (.iload 6, 2) := by decide +kernel
theorem dX7_fewestGates_122 : decode cX7_fewestGates 122 = .ok (.ireturn, 1) := by decide +kernel
theorem dX7_meetingHour_0 : decode cX7_meetingHour 0 = .ok (.aload_n 0, 1) := by decide +kernel
theorem dX7_meetingHour_1 : decode cX7_meetingHour 1 = .ok (.getfield 12, 3) := by decide +kernel
theorem dX7_meetingHour_4 : decode cX7_meetingHour 4 = .ok (.aload_n 1, 1) := by decide +kernel
theorem dX7_meetingHour_5 : decode cX7_meetingHour 5 = .ok (.iload_n 3, 1) := by decide +kernel
theorem dX7_meetingHour_6 : decode cX7_meetingHour 6 = .ok (.aload_n 2, 1) := by decide +kernel
theorem dX7_meetingHour_7 : decode cX7_meetingHour 7 = .ok (.getfield 40, 3) := by decide +kernel
theorem dX7_meetingHour_10 : decode cX7_meetingHour 10 = .ok (.aload_n 2, 1) := by decide +kernel
theorem dX7_meetingHour_11 : decode cX7_meetingHour 11 = .ok (.getfield 45, 3) := by decide +kernel
theorem dX7_meetingHour_14 : decode cX7_meetingHour 14 = .ok (.invokevirtual 48, 3) := by decide +kernel
theorem dX7_meetingHour_17 : decode cX7_meetingHour 17 = .ok (.aload_n 0, 1) := by decide +kernel
theorem dX7_meetingHour_18 : decode cX7_meetingHour 18 = .ok (.getfield 18, 3) := by decide +kernel
theorem dX7_meetingHour_21 : decode cX7_meetingHour 21 = .ok (.aload_n 1, 1) := by decide +kernel
theorem dX7_meetingHour_22 : decode cX7_meetingHour 22 = .ok (.iload 4, 2) := by decide +kernel
theorem dX7_meetingHour_24 : decode cX7_meetingHour 24 = .ok (.aload_n 2, 1) := by decide +kernel
theorem dX7_meetingHour_25 : decode cX7_meetingHour 25 = .ok (.getfield 40, 3) := by decide +kernel
theorem dX7_meetingHour_28 : decode cX7_meetingHour 28 = .ok (.aload_n 2, 1) := by decide +kernel
theorem dX7_meetingHour_29 : decode cX7_meetingHour 29 = .ok (.getfield 45, 3) := by decide +kernel
theorem dX7_meetingHour_32 : decode cX7_meetingHour 32 = .ok (.invokevirtual 48, 3) := by decide +kernel
theorem dX7_meetingHour_35 : decode cX7_meetingHour 35 = .ok (.lconst 0, 1) := by decide +kernel
theorem dX7_meetingHour_36 : decode cX7_meetingHour 36 = .ok (.lstore 6, 2) := by decide +kernel
theorem dX7_meetingHour_38 : decode cX7_meetingHour 38 = .ok (.iconst 0, 1) := by decide +kernel
theorem dX7_meetingHour_39 : decode cX7_meetingHour 39 = .ok (.istore 8, 2) := by decide +kernel
theorem dX7_meetingHour_41 : decode cX7_meetingHour 41 = .ok (.iload 8, 2) := by decide +kernel
theorem dX7_meetingHour_43 : decode cX7_meetingHour 43 = .ok (.aload_n 1, 1) := by decide +kernel
theorem dX7_meetingHour_44 : decode cX7_meetingHour 44 = .ok (.getfield 56, 3) := by decide +kernel
theorem dX7_meetingHour_47 : decode cX7_meetingHour 47 = .ok (.if_icmp .ge 38, 3) := by decide +kernel
theorem dX7_meetingHour_50 : decode cX7_meetingHour 50 = .ok (.lload 6, 2) := by decide +kernel
theorem dX7_meetingHour_52 : decode cX7_meetingHour 52 = .ok (.aload_n 0, 1) := by decide +kernel
theorem dX7_meetingHour_53 : decode cX7_meetingHour 53 = .ok (.getfield 12, 3) := by decide +kernel
theorem dX7_meetingHour_56 : decode cX7_meetingHour 56 = .ok (.getfield 59, 3) := by decide +kernel
theorem dX7_meetingHour_59 : decode cX7_meetingHour 59 = .ok (.iload 8, 2) := by decide +kernel
theorem dX7_meetingHour_61 : decode cX7_meetingHour 61 = .ok (.laload, 1) := by decide +kernel
theorem dX7_meetingHour_62 : decode cX7_meetingHour 62 = .ok (.aload_n 0, 1) := by decide +kernel
theorem dX7_meetingHour_63 : decode cX7_meetingHour 63 = .ok (.getfield 18, 3) := by decide +kernel
theorem dX7_meetingHour_66 : decode cX7_meetingHour 66 = .ok (.getfield 59, 3) := by decide +kernel
theorem dX7_meetingHour_69 : decode cX7_meetingHour 69 = .ok (.iload 8, 2) := by decide +kernel
theorem dX7_meetingHour_71 : decode cX7_meetingHour 71 = .ok (.laload, 1) := by decide +kernel
theorem dX7_meetingHour_72 : decode cX7_meetingHour 72 = .ok (.iload 5, 2) := by decide +kernel
theorem dX7_meetingHour_74 : decode cX7_meetingHour 74 = .ok (.lshl, 1) := by decide +kernel
theorem dX7_meetingHour_75 : decode cX7_meetingHour 75 = .ok (.land, 1) := by decide +kernel
theorem dX7_meetingHour_76 : decode cX7_meetingHour 76 = .ok (.lor, 1) := by decide +kernel
theorem dX7_meetingHour_77 : decode cX7_meetingHour 77 = .ok (.lstore 6, 2) := by decide +kernel
theorem dX7_meetingHour_79 : decode cX7_meetingHour 79 = .ok (.iinc 8 1, 3) := by decide +kernel
theorem dX7_meetingHour_82 : decode cX7_meetingHour 82 = .ok (.goto (-41), 3) := by decide +kernel
theorem dX7_meetingHour_85 : decode cX7_meetingHour 85 = .ok (.lload 6, 2) := by decide +kernel
theorem dX7_meetingHour_87 : decode cX7_meetingHour 87 = .ok (.lconst 0, 1) := by decide +kernel
theorem dX7_meetingHour_88 : decode cX7_meetingHour 88 = .ok (.lcmp, 1) := by decide +kernel
theorem dX7_meetingHour_89 : decode cX7_meetingHour 89 = .ok (.ifCond .ne 7, 3) := by decide +kernel
theorem dX7_meetingHour_92 : decode cX7_meetingHour 92 = .ok (.iconst (-1), 1) := by decide +kernel
theorem dX7_meetingHour_93 : decode cX7_meetingHour 93 = .ok (.goto 8, 3) := by decide +kernel
theorem dX7_meetingHour_96 : decode cX7_meetingHour 96 = .ok (.lload 6, 2) := by decide +kernel
theorem dX7_meetingHour_98 : decode cX7_meetingHour 98 = .ok (.invokestatic 63, 3) := by decide +kernel
theorem dX7_meetingHour_101 : decode cX7_meetingHour 101 = .ok (.ireturn, 1) := by decide +kernel
theorem dX7_fittingCracks_0 : decode cX7_fittingCracks 0 = .ok (.iconst 0, 1) := by decide +kernel
theorem dX7_fittingCracks_1 : decode cX7_fittingCracks 1 = .ok (.istore 5, 2) := by decide +kernel
theorem dX7_fittingCracks_3 : decode cX7_fittingCracks 3 = .ok (.iconst 0, 1) := by decide +kernel
theorem dX7_fittingCracks_4 : decode cX7_fittingCracks 4 = .ok (.istore 6, 2) := by decide +kernel
theorem dX7_fittingCracks_6 : decode cX7_fittingCracks 6 = .ok (.iload 6, 2) := by decide +kernel
theorem dX7_fittingCracks_8 : decode cX7_fittingCracks 8 = .ok (.bipush 11, 2) := by decide +kernel
theorem dX7_fittingCracks_10 : decode cX7_fittingCracks 10 = .ok (.if_icmp .ge 48, 3) := by decide +kernel
theorem dX7_fittingCracks_13 : decode cX7_fittingCracks 13 = .ok (.iload 6, 2) := by decide +kernel
theorem dX7_fittingCracks_15 : decode cX7_fittingCracks 15 = .ok (.aload_n 1, 1) := by decide +kernel
theorem dX7_fittingCracks_16 : decode cX7_fittingCracks 16 = .ok (.getfield 28, 3) := by decide +kernel
theorem dX7_fittingCracks_19 : decode cX7_fittingCracks 19 = .ok (.if_icmp .lt 10, 3) := by decide +kernel
theorem dX7_fittingCracks_22 : decode cX7_fittingCracks 22 = .ok (.iload 6, 2) := by decide +kernel
theorem dX7_fittingCracks_24 : decode cX7_fittingCracks 24 = .ok (.bipush 10, 2) := by decide +kernel
theorem dX7_fittingCracks_26 : decode cX7_fittingCracks 26 = .ok (.if_icmp .ne 26, 3) := by decide +kernel
theorem dX7_fittingCracks_29 : decode cX7_fittingCracks 29 = .ok (.aload_n 0, 1) := by decide +kernel
theorem dX7_fittingCracks_30 : decode cX7_fittingCracks 30 = .ok (.aload_n 1, 1) := by decide +kernel
theorem dX7_fittingCracks_31 : decode cX7_fittingCracks 31 = .ok (.aload_n 2, 1) := by decide +kernel
theorem dX7_fittingCracks_32 : decode cX7_fittingCracks 32 = .ok (.aload_n 3, 1) := by decide +kernel
theorem dX7_fittingCracks_33 : decode cX7_fittingCracks 33 = .ok (.iload 6, 2) := by decide +kernel
theorem dX7_fittingCracks_35 : decode cX7_fittingCracks 35 = .ok (.iload 4, 2) := by decide +kernel
theorem dX7_fittingCracks_37 : decode cX7_fittingCracks 37 = .ok (.invokevirtual 69, 3) := by decide +kernel
theorem dX7_fittingCracks_40 : decode cX7_fittingCracks 40 = .ok (.ifCond .eq 12, 3) := by decide +kernel
theorem dX7_fittingCracks_43 : decode cX7_fittingCracks 43 = .ok (.iload 5, 2) := by decide +kernel
theorem dX7_fittingCracks_45 : decode cX7_fittingCracks 45 = .ok (.iconst 1, 1) := by decide +kernel
theorem dX7_fittingCracks_46 : decode cX7_fittingCracks 46 = .ok (.iload 6, 2) := by decide +kernel
theorem dX7_fittingCracks_48 : decode cX7_fittingCracks 48 = .ok (.ishl, 1) := by decide +kernel
theorem dX7_fittingCracks_49 : decode cX7_fittingCracks 49 = .ok (.ior, 1) := by decide +kernel
theorem dX7_fittingCracks_50 : decode cX7_fittingCracks 50 = .ok (.istore 5, 2) := by decide +kernel
theorem dX7_fittingCracks_52 : decode cX7_fittingCracks 52 = .ok (.iinc 6 1, 3) := by decide +kernel
theorem dX7_fittingCracks_55 : decode cX7_fittingCracks 55 = .ok (.goto (-49), 3) := by decide +kernel
theorem dX7_fittingCracks_58 : decode cX7_fittingCracks 58 = .ok (.iload 5, 2) := by decide +kernel
theorem dX7_fittingCracks_60 : decode cX7_fittingCracks 60 = .ok (.ireturn, 1) := by decide +kernel
theorem dX7_fits_0 : decode cX7_fits 0 = .ok (.aload_n 0, 1) := by decide +kernel
theorem dX7_fits_1 : decode cX7_fits 1 = .ok (.iload 4, 2) := by decide +kernel
theorem dX7_fits_3 : decode cX7_fits 3 = .ok (.iload 5, 2) := by decide +kernel
theorem dX7_fits_5 : decode cX7_fits 5 = .ok (.invokevirtual 73, 3) := by decide +kernel
theorem dX7_fits_8 : decode cX7_fits 8 = .ok (.iconst 0, 1) := by decide +kernel
theorem dX7_fits_9 : decode cX7_fits 9 = .ok (.istore 6, 2) := by decide +kernel
theorem dX7_fits_11 : decode cX7_fits 11 = .ok (.iload 6, 2) := by decide +kernel
theorem dX7_fits_13 : decode cX7_fits 13 = .ok (.aload_n 3, 1) := by decide +kernel
theorem dX7_fits_14 : decode cX7_fits 14 = .ok (.getfield 77, 3) := by decide +kernel
theorem dX7_fits_17 : decode cX7_fits 17 = .ok (.if_icmp .ge 58, 3) := by decide +kernel
theorem dX7_fits_20 : decode cX7_fits 20 = .ok (.aload_n 0, 1) := by decide +kernel
theorem dX7_fits_21 : decode cX7_fits 21 = .ok (.getfield 12, 3) := by decide +kernel
theorem dX7_fits_24 : decode cX7_fits 24 = .ok (.aload_n 1, 1) := by decide +kernel
theorem dX7_fits_25 : decode cX7_fits 25 = .ok (.aload_n 3, 1) := by decide +kernel
theorem dX7_fits_26 : decode cX7_fits 26 = .ok (.getfield 82, 3) := by decide +kernel
theorem dX7_fits_29 : decode cX7_fits 29 = .ok (.iload 6, 2) := by decide +kernel
theorem dX7_fits_31 : decode cX7_fits 31 = .ok (.iaload, 1) := by decide +kernel
theorem dX7_fits_32 : decode cX7_fits 32 = .ok (.aload_n 2, 1) := by decide +kernel
theorem dX7_fits_33 : decode cX7_fits 33 = .ok (.getfield 40, 3) := by decide +kernel
theorem dX7_fits_36 : decode cX7_fits 36 = .ok (.aload_n 0, 1) := by decide +kernel
theorem dX7_fits_37 : decode cX7_fits 37 = .ok (.getfield 21, 3) := by decide +kernel
theorem dX7_fits_40 : decode cX7_fits 40 = .ok (.invokevirtual 48, 3) := by decide +kernel
theorem dX7_fits_43 : decode cX7_fits 43 = .ok (.aload_n 0, 1) := by decide +kernel
theorem dX7_fits_44 : decode cX7_fits 44 = .ok (.getfield 12, 3) := by decide +kernel
theorem dX7_fits_47 : decode cX7_fits 47 = .ok (.aload_n 3, 1) := by decide +kernel
theorem dX7_fits_48 : decode cX7_fits 48 = .ok (.getfield 85, 3) := by decide +kernel
theorem dX7_fits_51 : decode cX7_fits 51 = .ok (.iload 6, 2) := by decide +kernel
theorem dX7_fits_53 : decode cX7_fits 53 = .ok (.iaload, 1) := by decide +kernel
theorem dX7_fits_54 : decode cX7_fits 54 = .ok (.invokevirtual 88, 3) := by decide +kernel
theorem dX7_fits_57 : decode cX7_fits 57 = .ok (.aload_n 3, 1) := by decide +kernel
theorem dX7_fits_58 : decode cX7_fits 58 = .ok (.getfield 91, 3) := by decide +kernel
theorem dX7_fits_61 : decode cX7_fits 61 = .ok (.iload 6, 2) := by decide +kernel
theorem dX7_fits_63 : decode cX7_fits 63 = .ok (.iaload, 1) := by decide +kernel
theorem dX7_fits_64 : decode cX7_fits 64 = .ok (.if_icmp .eq 5, 3) := by decide +kernel
theorem dX7_fits_67 : decode cX7_fits 67 = .ok (.iconst 0, 1) := by decide +kernel
theorem dX7_fits_68 : decode cX7_fits 68 = .ok (.ireturn, 1) := by decide +kernel
theorem dX7_fits_69 : decode cX7_fits 69 = .ok (.iinc 6 1, 3) := by decide +kernel
theorem dX7_fits_72 : decode cX7_fits 72 = .ok (.goto (-61), 3) := by decide +kernel
theorem dX7_fits_75 : decode cX7_fits 75 = .ok (.iconst 1, 1) := by decide +kernel
theorem dX7_fits_76 : decode cX7_fits 76 = .ok (.ireturn, 1) := by decide +kernel
theorem dX7_crackAlone_0 : decode cX7_crackAlone 0 = .ok (.aload_n 0, 1) := by decide +kernel
theorem dX7_crackAlone_1 : decode cX7_crackAlone 1 = .ok (.getfield 21, 3) := by decide +kernel
theorem dX7_crackAlone_4 : decode cX7_crackAlone 4 = .ok (.iconst (-1), 1) := by decide +kernel
theorem dX7_crackAlone_5 : decode cX7_crackAlone 5 = .ok (.invokestatic 94, 3) := by decide +kernel
theorem dX7_crackAlone_8 : decode cX7_crackAlone 8 = .ok (.iload_n 1, 1) := by decide +kernel
theorem dX7_crackAlone_9 : decode cX7_crackAlone 9 = .ok (.ifCond .lt 19, 3) := by decide +kernel
theorem dX7_crackAlone_12 : decode cX7_crackAlone 12 = .ok (.iload_n 1, 1) := by decide +kernel
theorem dX7_crackAlone_13 : decode cX7_crackAlone 13 = .ok (.aload_n 0, 1) := by decide +kernel
theorem dX7_crackAlone_14 : decode cX7_crackAlone 14 = .ok (.getfield 21, 3) := by decide +kernel
theorem dX7_crackAlone_17 : decode cX7_crackAlone 17 = .ok (.arraylength, 1) := by decide +kernel
theorem dX7_crackAlone_18 : decode cX7_crackAlone 18 = .ok (.if_icmp .ge 10, 3) := by decide +kernel
theorem dX7_crackAlone_21 : decode cX7_crackAlone 21 = .ok (.aload_n 0, 1) := by decide +kernel
theorem dX7_crackAlone_22 : decode cX7_crackAlone 22 = .ok (.getfield 21, 3) := by decide +kernel
theorem dX7_crackAlone_25 : decode cX7_crackAlone 25 = .ok (.iload_n 1, 1) := by decide +kernel
theorem dX7_crackAlone_26 : decode cX7_crackAlone 26 = .ok (.iload_n 2, 1) := by decide +kernel
theorem dX7_crackAlone_27 : decode cX7_crackAlone 27 = .ok (.iastore, 1) := by decide +kernel
theorem dX7_crackAlone_28 : decode cX7_crackAlone 28 = .ok (.return_, 1) := by decide +kernel
theorem dX7_bestListener_0 : decode cX7_bestListener 0 = .ok (.iconst 0, 1) := by decide +kernel
theorem dX7_bestListener_1 : decode cX7_bestListener 1 = .ok (.istore 5, 2) := by decide +kernel
theorem dX7_bestListener_3 : decode cX7_bestListener 3 = .ok (.iload 5, 2) := by decide +kernel
theorem dX7_bestListener_5 : decode cX7_bestListener 5 = .ok (.bipush 11, 2) := by decide +kernel
theorem dX7_bestListener_7 : decode cX7_bestListener 7 = .ok (.if_icmp .ge 28, 3) := by decide +kernel
theorem dX7_bestListener_10 : decode cX7_bestListener 10 = .ok (.iload_n 3, 1) := by decide +kernel
theorem dX7_bestListener_11 : decode cX7_bestListener 11 = .ok (.iload 5, 2) := by decide +kernel
theorem dX7_bestListener_13 : decode cX7_bestListener 13 = .ok (.invokestatic 100, 3) := by decide +kernel
theorem dX7_bestListener_16 : decode cX7_bestListener 16 = .ok (.ifCond .eq 13, 3) := by decide +kernel
theorem dX7_bestListener_19 : decode cX7_bestListener 19 = .ok (.aload_n 0, 1) := by decide +kernel
theorem dX7_bestListener_20 : decode cX7_bestListener 20 = .ok (.aload_n 1, 1) := by decide +kernel
theorem dX7_bestListener_21 : decode cX7_bestListener 21 = .ok (.aload_n 2, 1) := by decide +kernel
theorem dX7_bestListener_22 : decode cX7_bestListener 22 = .ok (.iload 5, 2) := by decide +kernel
theorem dX7_bestListener_24 : decode cX7_bestListener 24 = .ok (.iload 4, 2) := by decide +kernel
theorem dX7_bestListener_26 : decode cX7_bestListener 26 = .ok (.invokevirtual 104, 3) := by decide +kernel
theorem dX7_bestListener_29 : decode cX7_bestListener 29 = .ok (.iinc 5 1, 3) := by decide +kernel
theorem dX7_bestListener_32 : decode cX7_bestListener 32 = .ok (.goto (-29), 3) := by decide +kernel
theorem dX7_bestListener_35 : decode cX7_bestListener 35 = .ok (.iconst (-1), 1) := by decide +kernel
theorem dX7_bestListener_36 : decode cX7_bestListener 36 = .ok (.istore 5, 2) := by decide +kernel
theorem dX7_bestListener_38 : decode cX7_bestListener 38 = .ok (.iload_n 3, 1) := by decide +kernel
theorem dX7_bestListener_39 : decode cX7_bestListener 39 = .ok (.invokestatic 34, 3) := by decide +kernel
theorem dX7_bestListener_42 : decode cX7_bestListener 42 = .ok (.istore 6, 2) := by decide +kernel
theorem dX7_bestListener_44 : decode cX7_bestListener 44 = .ok (.iconst 0, 1) := by decide +kernel
theorem dX7_bestListener_45 : decode cX7_bestListener 45 = .ok (.istore 7, 2) := by decide +kernel
theorem dX7_bestListener_47 : decode cX7_bestListener 47 = .ok (.iload 7, 2) := by decide +kernel
theorem dX7_bestListener_49 : decode cX7_bestListener 49 = .ok (.aload_n 1, 1) := by decide +kernel
theorem dX7_bestListener_50 : decode cX7_bestListener 50 = .ok (.getfield 56, 3) := by decide +kernel
theorem dX7_bestListener_53 : decode cX7_bestListener 53 = .ok (.if_icmp .ge 33, 3) := by decide +kernel
theorem dX7_bestListener_56 : decode cX7_bestListener 56 = .ok (.aload_n 0, 1) := by decide +kernel
theorem dX7_bestListener_57 : decode cX7_bestListener 57 = .ok (.iload_n 3, 1) := by decide +kernel
theorem dX7_bestListener_58 : decode cX7_bestListener 58 = .ok (.iload 7, 2) := by decide +kernel
theorem dX7_bestListener_60 : decode cX7_bestListener 60 = .ok (.invokevirtual 108, 3) := by decide +kernel
theorem dX7_bestListener_63 : decode cX7_bestListener 63 = .ok (.istore 8, 2) := by decide +kernel
theorem dX7_bestListener_65 : decode cX7_bestListener 65 = .ok (.iload 8, 2) := by decide +kernel
theorem dX7_bestListener_67 : decode cX7_bestListener 67 = .ok (.iload 6, 2) := by decide +kernel
theorem dX7_bestListener_69 : decode cX7_bestListener 69 = .ok (.if_icmp .ge 11, 3) := by decide +kernel
theorem dX7_bestListener_72 : decode cX7_bestListener 72 = .ok (.iload 7, 2) := by decide +kernel
theorem dX7_bestListener_74 : decode cX7_bestListener 74 = .ok (.istore 5, 2) := by decide +kernel
theorem dX7_bestListener_76 : decode cX7_bestListener 76 = .ok (.iload 8, 2) := by decide +kernel
theorem dX7_bestListener_78 : decode cX7_bestListener 78 = .ok (.istore 6, 2) := by decide +kernel
theorem dX7_bestListener_80 : decode cX7_bestListener 80 = .ok (.iinc 7 1, 3) := by decide +kernel
theorem dX7_bestListener_83 : decode cX7_bestListener 83 = .ok (.goto (-36), 3) := by decide +kernel
theorem dX7_bestListener_86 : decode cX7_bestListener 86 = .ok (.iload 5, 2) := by decide +kernel
theorem dX7_bestListener_88 : decode cX7_bestListener 88 = .ok (.ireturn, 1) := by decide +kernel
theorem dX7_noteHours_0 : decode cX7_noteHours 0 = .ok (.aload_n 0, 1) := by decide +kernel
theorem dX7_noteHours_1 : decode cX7_noteHours 1 = .ok (.iload_n 3, 1) := by decide +kernel
theorem dX7_noteHours_2 : decode cX7_noteHours 2 = .ok (.iload 4, 2) := by decide +kernel
theorem dX7_noteHours_4 : decode cX7_noteHours 4 = .ok (.invokevirtual 73, 3) := by decide +kernel
theorem dX7_noteHours_7 : decode cX7_noteHours 7 = .ok (.aload_n 0, 1) := by decide +kernel
theorem dX7_noteHours_8 : decode cX7_noteHours 8 = .ok (.getfield 12, 3) := by decide +kernel
theorem dX7_noteHours_11 : decode cX7_noteHours 11 = .ok (.aload_n 1, 1) := by decide +kernel
theorem dX7_noteHours_12 : decode cX7_noteHours 12 = .ok (.iconst 0, 1) := by decide +kernel
theorem dX7_noteHours_13 : decode cX7_noteHours 13 = .ok (.aload_n 2, 1) := by decide +kernel
theorem dX7_noteHours_14 : decode cX7_noteHours 14 = .ok (.getfield 40, 3) := by decide +kernel
theorem dX7_noteHours_17 : decode cX7_noteHours 17 = .ok (.aload_n 0, 1) := by decide +kernel
theorem dX7_noteHours_18 : decode cX7_noteHours 18 = .ok (.getfield 21, 3) := by decide +kernel
theorem dX7_noteHours_21 : decode cX7_noteHours 21 = .ok (.invokevirtual 48, 3) := by decide +kernel
theorem dX7_noteHours_24 : decode cX7_noteHours 24 = .ok (.iconst 0, 1) := by decide +kernel
theorem dX7_noteHours_25 : decode cX7_noteHours 25 = .ok (.istore 5, 2) := by decide +kernel
theorem dX7_noteHours_27 : decode cX7_noteHours 27 = .ok (.iload 5, 2) := by decide +kernel
theorem dX7_noteHours_29 : decode cX7_noteHours 29 = .ok (.aload_n 1, 1) := by decide +kernel
theorem dX7_noteHours_30 : decode cX7_noteHours 30 = .ok (.getfield 56, 3) := by decide +kernel
theorem dX7_noteHours_33 : decode cX7_noteHours 33 = .ok (.if_icmp .ge 30, 3) := by decide +kernel
theorem dX7_noteHours_36 : decode cX7_noteHours 36 = .ok (.aload_n 0, 1) := by decide +kernel
theorem dX7_noteHours_37 : decode cX7_noteHours 37 = .ok (.getfield 25, 3) := by decide +kernel
theorem dX7_noteHours_40 : decode cX7_noteHours 40 = .ok (.iload_n 3, 1) := by decide +kernel
theorem dX7_noteHours_41 : decode cX7_noteHours 41 = .ok (.bipush 8, 2) := by decide +kernel
theorem dX7_noteHours_43 : decode cX7_noteHours 43 = .ok (.imul, 1) := by decide +kernel
theorem dX7_noteHours_44 : decode cX7_noteHours 44 = .ok (.iload 5, 2) := by decide +kernel
theorem dX7_noteHours_46 : decode cX7_noteHours 46 = .ok (.iadd, 1) := by decide +kernel
theorem dX7_noteHours_47 : decode cX7_noteHours 47 = .ok (.aload_n 0, 1) := by decide +kernel
theorem dX7_noteHours_48 : decode cX7_noteHours 48 = .ok (.getfield 12, 3) := by decide +kernel
theorem dX7_noteHours_51 : decode cX7_noteHours 51 = .ok (.iload 5, 2) := by decide +kernel
theorem dX7_noteHours_53 : decode cX7_noteHours 53 = .ok (.invokevirtual 88, 3) := by decide +kernel
theorem dX7_noteHours_56 : decode cX7_noteHours 56 = .ok (.iastore, 1) := by decide +kernel
theorem dX7_noteHours_57 : decode cX7_noteHours 57 = .ok (.iinc 5 1, 3) := by decide +kernel
theorem dX7_noteHours_60 : decode cX7_noteHours 60 = .ok (.goto (-33), 3) := by decide +kernel
theorem dX7_noteHours_63 : decode cX7_noteHours 63 = .ok (.return_, 1) := by decide +kernel
theorem dX7_greatestPart_0 : decode cX7_greatestPart 0 = .ok (.iconst 0, 1) := by decide +kernel
theorem dX7_greatestPart_1 : decode cX7_greatestPart 1 = .ok (.istore_n 3, 1) := by decide +kernel
theorem dX7_greatestPart_2 : decode cX7_greatestPart 2 = .ok (.iconst 0, 1) := by decide +kernel
theorem dX7_greatestPart_3 : decode cX7_greatestPart 3 = .ok (.istore 4, 2) := by decide +kernel
theorem dX7_greatestPart_5 : decode cX7_greatestPart 5 = .ok (.iload 4, 2) := by decide +kernel
theorem dX7_greatestPart_7 : decode cX7_greatestPart 7 = .ok (.bipush 11, 2) := by decide +kernel
theorem dX7_greatestPart_9 : decode cX7_greatestPart 9 = .ok (.if_icmp .ge 83, 3) := by decide +kernel
theorem dX7_greatestPart_12 : decode cX7_greatestPart 12 = .ok (.iconst 0, 1) := by decide +kernel
theorem dX7_greatestPart_13 : decode cX7_greatestPart 13 = .ok (.istore 5, 2) := by decide +kernel
theorem dX7_greatestPart_15 : decode cX7_greatestPart 15 = .ok (.iconst 0, 1) := by decide +kernel
theorem dX7_greatestPart_16 : decode cX7_greatestPart 16 = .ok (.istore 6, 2) := by decide +kernel
theorem dX7_greatestPart_18 : decode cX7_greatestPart 18 = .ok (.iload 6, 2) := by decide +kernel
theorem dX7_greatestPart_20 : decode cX7_greatestPart 20 = .ok (.bipush 11, 2) := by decide +kernel
theorem dX7_greatestPart_22 : decode cX7_greatestPart 22 = .ok (.if_icmp .ge 57, 3) := by decide +kernel
theorem dX7_greatestPart_25 : decode cX7_greatestPart 25 = .ok (.iload_n 1, 1) := by decide +kernel
theorem dX7_greatestPart_26 : decode cX7_greatestPart 26 = .ok (.iload 4, 2) := by decide +kernel
theorem dX7_greatestPart_28 : decode cX7_greatestPart 28 = .ok (.invokestatic 100, 3) := by decide +kernel
theorem dX7_greatestPart_31 : decode cX7_greatestPart 31 = .ok (.ifCond .eq 42, 3) := by decide +kernel
theorem dX7_greatestPart_34 : decode cX7_greatestPart 34 = .ok (.iload_n 1, 1) := by decide +kernel
theorem dX7_greatestPart_35 : decode cX7_greatestPart 35 = .ok (.iload 6, 2) := by decide +kernel
theorem dX7_greatestPart_37 : decode cX7_greatestPart 37 = .ok (.invokestatic 100, 3) := by decide +kernel
theorem dX7_greatestPart_40 : decode cX7_greatestPart 40 = .ok (.ifCond .eq 33, 3) := by decide +kernel
theorem dX7_greatestPart_43 : decode cX7_greatestPart 43 = .ok (.aload_n 0, 1) := by decide +kernel
theorem dX7_greatestPart_44 : decode cX7_greatestPart 44 = .ok (.getfield 25, 3) := by decide +kernel
theorem dX7_greatestPart_47 : decode cX7_greatestPart 47 = .ok (.iload 4, 2) := by decide +kernel
theorem dX7_greatestPart_49 : decode cX7_greatestPart 49 = .ok (.bipush 8, 2) := by decide +kernel
theorem dX7_greatestPart_51 : decode cX7_greatestPart 51 = .ok (.imul, 1) := by decide +kernel
theorem dX7_greatestPart_52 : decode cX7_greatestPart 52 = .ok (.iload_n 2, 1) := by decide +kernel
theorem dX7_greatestPart_53 : decode cX7_greatestPart 53 = .ok (.iadd, 1) := by decide +kernel
theorem dX7_greatestPart_54 : decode cX7_greatestPart 54 = .ok (.iaload, 1) := by decide +kernel
theorem dX7_greatestPart_55 : decode cX7_greatestPart 55 = .ok (.aload_n 0, 1) := by decide +kernel
theorem dX7_greatestPart_56 : decode cX7_greatestPart 56 = .ok (.getfield 25, 3) := by decide +kernel
theorem dX7_greatestPart_59 : decode cX7_greatestPart 59 = .ok (.iload 6, 2) := by decide +kernel
theorem dX7_greatestPart_61 : decode cX7_greatestPart 61 = .ok (.bipush 8, 2) := by decide +kernel
theorem dX7_greatestPart_63 : decode cX7_greatestPart 63 = .ok (.imul, 1) := by decide +kernel
theorem dX7_greatestPart_64 : decode cX7_greatestPart 64 = .ok (.iload_n 2, 1) := by decide +kernel
theorem dX7_greatestPart_65 : decode cX7_greatestPart 65 = .ok (.iadd, 1) := by decide +kernel
theorem dX7_greatestPart_66 : decode cX7_greatestPart 66 = .ok (.iaload, 1) := by decide +kernel
theorem dX7_greatestPart_67 : decode cX7_greatestPart 67 = .ok (.if_icmp .ne 6, 3) := by decide +kernel
theorem dX7_greatestPart_70 : decode cX7_greatestPart 70 = .ok (.iinc 5 1, 3) := by decide +kernel
theorem dX7_greatestPart_73 : decode cX7_greatestPart 73 = .ok (.iinc 6 1, 3) := by decide +kernel
theorem dX7_greatestPart_76 : decode cX7_greatestPart 76 = .ok (.goto (-58), 3) := by decide +kernel
theorem dX7_greatestPart_79 : decode cX7_greatestPart 79 = .ok (.iload_n 3, 1) := by decide +kernel
theorem dX7_greatestPart_80 : decode cX7_greatestPart 80 = .ok (.iload 5, 2) := by decide +kernel
theorem dX7_greatestPart_82 : decode cX7_greatestPart 82 = .ok (.invokestatic 112, 3) := by decide +kernel
theorem dX7_greatestPart_85 : decode cX7_greatestPart 85 = .ok (.istore_n 3, 1) := by decide +kernel
theorem dX7_greatestPart_86 : decode cX7_greatestPart 86 = .ok (.iinc 4 1, 3) := by decide +kernel
theorem dX7_greatestPart_89 : decode cX7_greatestPart 89 = .ok (.goto (-84), 3) := by decide +kernel
theorem dX7_greatestPart_92 : decode cX7_greatestPart 92 = .ok (.iload_n 3, 1) := by decide +kernel
theorem dX7_greatestPart_93 : decode cX7_greatestPart 93 = .ok (.ireturn, 1) := by decide +kernel
theorem dX8_init_0 : decode cX8_init 0 = .ok (.aload_n 0, 1) := by decide +kernel
theorem dX8_init_1 : decode cX8_init 1 = .ok (.invokespecial 3, 3) := by decide +kernel
theorem dX8_init_4 : decode cX8_init 4 = .ok (.aload_n 0, 1) := by decide +kernel
theorem dX8_init_5 : decode cX8_init 5 = .ok (.bipush 8, 2) := by decide +kernel
theorem dX8_init_7 : decode cX8_init 7 = .ok (.newarray .long, 2) := by decide +kernel
theorem dX8_init_9 : decode cX8_init 9 = .ok (.putfield 9, 3) := by decide +kernel
theorem dX8_init_12 : decode cX8_init 12 = .ok (.aload_n 0, 1) := by decide +kernel
theorem dX8_init_13 : decode cX8_init 13 = .ok (.bipush 8, 2) := by decide +kernel
theorem dX8_init_15 : decode cX8_init 15 = .ok (.newarray .long, 2) := by decide +kernel
theorem dX8_init_17 : decode cX8_init 17 = .ok (.putfield 15, 3) := by decide +kernel
