theorem dX0_init_0 : decode cX0_init 0 = .ok (.aload_n 0, 1) := by decide +kernel
theorem dX0_init_1 : decode cX0_init 1 = .ok (.invokespecial 3, 3) := by decide +kernel
theorem dX0_init_4 : decode cX0_init 4 = .ok (.aload_n 0, 1) := by decide +kernel
theorem dX0_init_5 : decode cX0_init 5 = .ok (.sipush 160, 3) := by decide +kernel
theorem dX0_init_8 : decode cX0_init 8 = .ok (.newarray .byte, 2) := by decide +kernel
theorem dX0_init_10 : decode cX0_init 10 = .ok (.putfield 9, 3) := by decide +kernel
theorem dX0_init_13 : decode cX0_init 13 = .ok (.aload_n 0, 1) := by decide +kernel
theorem dX0_init_14 : decode cX0_init 14 = .ok (.iconst 0, 1) := by decide +kernel
theorem dX0_init_15 : decode cX0_init 15 = .ok (.putfield 15, 3) := by decide +kernel
theorem dX0_init_18 : decode cX0_init 18 = .ok (.aload_n 0, 1) := by decide +kernel
theorem dX0_init_19 : decode cX0_init 19 = .ok (.new 19, 3) := by decide +kernel
theorem dX0_init_22 : decode cX0_init 22 = .ok (.dup, 1) := by decide +kernel
theorem dX0_init_23 : decode cX0_init 23 = .ok (.invokespecial 21, 3) := by decide +kernel
theorem dX0_init_26 : decode cX0_init 26 = .ok (.putfield 22, 3) := by decide +kernel
theorem dX0_init_29 : decode cX0_init 29 = .ok (.aload_n 0, 1) := by decide +kernel
theorem dX0_init_30 : decode cX0_init 30 = .ok (.iconst 0, 1) := by decide +kernel
theorem dX0_init_31 : decode cX0_init 31 = .ok (.putfield 26, 3) := by decide +kernel
theorem dX0_init_34 : decode cX0_init 34 = .ok (.aload_n 0, 1) := by decide +kernel
theorem dX0_init_35 : decode cX0_init 35 = .ok (.iconst 0, 1) := by decide +kernel
theorem dX0_init_36 : decode cX0_init 36 = .ok (.putfield 29, 3) := by decide +kernel
theorem dX0_init_39 : decode cX0_init 39 = .ok (.return_, 1) := by decide +kernel
theorem dX0_take_0 : decode cX0_take 0 = .ok (.aload_n 0, 1) := by decide +kernel
theorem dX0_take_1 : decode cX0_take 1 = .ok (.getfield 15, 3) := by decide +kernel
theorem dX0_take_4 : decode cX0_take 4 = .ok (.sipush 160, 3) := by decide +kernel
theorem dX0_take_7 : decode cX0_take 7 = .ok (.if_icmp .lt 5, 3) := by decide +kernel
theorem dX0_take_10 : decode cX0_take 10 = .ok (.iconst 0, 1) := by decide +kernel
theorem dX0_take_11 : decode cX0_take 11 = .ok (.ireturn, 1) := by decide +kernel
theorem dX0_take_12 : decode cX0_take 12 = .ok (.aload_n 0, 1) := by decide +kernel
theorem dX0_take_13 : decode cX0_take 13 = .ok (.getfield 9, 3) := by decide +kernel
theorem dX0_take_16 : decode cX0_take 16 = .ok (.aload_n 0, 1) := by decide +kernel
theorem dX0_take_17 : decode cX0_take 17 = .ok (.getfield 15, 3) := by decide +kernel
theorem dX0_take_20 : decode cX0_take 20 = .ok (.iload_n 1, 1) := by decide +kernel
theorem dX0_take_21 : decode cX0_take 21 = .ok (.i2b, 1) := by decide +kernel
theorem dX0_take_22 : decode cX0_take 22 = .ok (.bastore, 1) := by decide +kernel
theorem dX0_take_23 : decode cX0_take 23 = .ok (.aload_n 0, 1) := by decide +kernel
theorem dX0_take_24 : decode cX0_take 24 = .ok (.dup, 1) := by decide +kernel
theorem dX0_take_25 : decode cX0_take 25 = .ok (.getfield 15, 3) := by decide +kernel
theorem dX0_take_28 : decode cX0_take 28 = .ok (.iconst 1, 1) := by decide +kernel
theorem dX0_take_29 : decode cX0_take 29 = .ok (.iadd, 1) := by decide +kernel
theorem dX0_take_30 : decode cX0_take 30 = .ok (.putfield 15, 3) := by decide +kernel
theorem dX0_take_33 : decode cX0_take 33 = .ok (.iconst 1, 1) := by decide +kernel
theorem dX0_take_34 : decode cX0_take 34 = .ok (.ireturn, 1) := by decide +kernel
theorem dX0_readText_0 : decode cX0_readText 0 = .ok (.aload_n 0, 1) := by decide +kernel
theorem dX0_readText_1 : decode cX0_readText 1 = .ok (.getfield 22, 3) := by decide +kernel
theorem dX0_readText_4 : decode cX0_readText 4 = .ok (.invokevirtual 32, 3) := by decide +kernel
theorem dX0_readText_7 : decode cX0_readText 7 = .ok (.aload_n 0, 1) := by decide +kernel
theorem dX0_readText_8 : decode cX0_readText 8 = .ok (.iconst 0, 1) := by decide +kernel
theorem dX0_readText_9 : decode cX0_readText 9 = .ok (.putfield 26, 3) := by decide +kernel
theorem dX0_readText_12 : decode cX0_readText 12 = .ok (.aload_n 0, 1) := by decide +kernel
theorem dX0_readText_13 : decode cX0_readText 13 = .ok (.iconst 0, 1) := by decide +kernel
theorem dX0_readText_14 : decode cX0_readText 14 = .ok (.putfield 35, 3) := by decide +kernel
theorem dX0_readText_17 : decode cX0_readText 17 = .ok (.aload_n 0, 1) := by decide +kernel
theorem dX0_readText_18 : decode cX0_readText 18 = .ok (.iconst 0, 1) := by decide +kernel
theorem dX0_readText_19 : decode cX0_readText 19 = .ok (.putfield 38, 3) := by decide +kernel
theorem dX0_readText_22 : decode cX0_readText 22 = .ok (.aload_n 0, 1) := by decide +kernel
theorem dX0_readText_23 : decode cX0_readText 23 = .ok (.iconst 0, 1) := by decide +kernel
theorem dX0_readText_24 : decode cX0_readText 24 = .ok (.putfield 42, 3) := by decide +kernel
theorem dX0_readText_27 : decode cX0_readText 27 = .ok (.aload_n 0, 1) := by decide +kernel
theorem dX0_readText_28 : decode cX0_readText 28 = .ok (.bipush (-4), 2) := by decide +kernel
theorem dX0_readText_30 : decode cX0_readText 30 = .ok (.putfield 45, 3) := by decide +kernel
theorem dX0_readText_33 : decode cX0_readText 33 = .ok (.aload_n 0, 1) := by decide +kernel
theorem dX0_readText_34 : decode cX0_readText 34 = .ok (.bipush (-4), 2) := by decide +kernel
theorem dX0_readText_36 : decode cX0_readText 36 = .ok (.putfield 48, 3) := by decide +kernel
theorem dX0_readText_39 : decode cX0_readText 39 = .ok (.iconst 0, 1) := by decide +kernel
theorem dX0_readText_40 : decode cX0_readText 40 = .ok (.istore_n 1, 1) := by decide +kernel
theorem dX0_readText_41 : decode cX0_readText 41 = .ok (.iload_n 1, 1) := by decide +kernel
theorem dX0_readText_42 : decode cX0_readText 42 = .ok (.sipush 160, 3) := by decide +kernel
theorem dX0_readText_45 : decode cX0_readText 45 = .ok (.if_icmp .gt 30, 3) := by decide +kernel
theorem dX0_readText_48 : decode cX0_readText 48 = .ok (.aload_n 0, 1) := by decide +kernel
theorem dX0_readText_49 : decode cX0_readText 49 = .ok (.invokevirtual 51, 3) := by decide +kernel
theorem dX0_readText_52 : decode cX0_readText 52 = .ok (.ifCond .eq 23, 3) := by decide +kernel
theorem dX0_readText_55 : decode cX0_readText 55 = .ok (.aload_n 0, 1) := by decide +kernel
theorem dX0_readText_56 : decode cX0_readText 56 = .ok (.getfield 55, 3) := by decide +kernel
theorem dX0_readText_59 : decode cX0_readText 59 = .ok (.ifCond .eq 16, 3) := by decide +kernel
theorem dX0_readText_62 : decode cX0_readText 62 = .ok (.aload_n 0, 1) := by decide +kernel
theorem dX0_readText_63 : decode cX0_readText 63 = .ok (.invokevirtual 58, 3) := by decide +kernel
theorem dX0_readText_66 : decode cX0_readText 66 = .ok (.ifCond .eq 9, 3) := by decide +kernel
theorem dX0_readText_69 : decode cX0_readText 69 = .ok (.iinc 1 1, 3) := by decide +kernel
theorem dX0_readText_72 : decode cX0_readText 72 = .ok (.goto (-31), 3) := by decide +kernel
theorem dX0_readText_75 : decode cX0_readText 75 = .ok (.aload_n 0, 1) := by decide +kernel
theorem dX0_readText_76 : decode cX0_readText 76 = .ok (.getfield 26, 3) := by decide +kernel
theorem dX0_readText_79 : decode cX0_readText 79 = .ok (.ifCond .ne 42, 3) := by decide +kernel
theorem dX0_readText_82 : decode cX0_readText 82 = .ok (.aload_n 0, 1) := by decide +kernel
theorem dX0_readText_83 : decode cX0_readText 83 = .ok (.getfield 45, 3) := by decide +kernel
theorem dX0_readText_86 : decode cX0_readText 86 = .ok (.aload_n 0, 1) := by decide +kernel
theorem dX0_readText_87 : decode cX0_readText 87 = .ok (.getfield 22, 3) := by decide +kernel
theorem dX0_readText_90 : decode cX0_readText 90 = .ok (.getfield 61, 3) := by decide +kernel
theorem dX0_readText_93 : decode cX0_readText 93 = .ok (.if_icmp .ge 17, 3) := by decide +kernel
theorem dX0_readText_96 : decode cX0_readText 96 = .ok (.aload_n 0, 1) := by decide +kernel
theorem dX0_readText_97 : decode cX0_readText 97 = .ok (.getfield 48, 3) := by decide +kernel
theorem dX0_readText_100 : decode cX0_readText 100 = .ok (.aload_n 0, 1) := by decide +kernel
theorem dX0_readText_101 : decode cX0_readText 101 = .ok (.getfield 22, 3) := by decide +kernel
theorem dX0_readText_104 : decode cX0_readText 104 = .ok (.getfield 64, 3) := by decide +kernel
theorem dX0_readText_107 : decode cX0_readText 107 = .ok (.if_icmp .lt 14, 3) := by decide +kernel
theorem dX0_readText_110 : decode cX0_readText 110 = .ok (.aload_n 0, 1) := by decide +kernel
theorem dX0_readText_111 : decode cX0_readText 111 = .ok (.bipush 6, 2) := by decide +kernel
theorem dX0_readText_113 : decode cX0_readText 113 = .ok (.aload_n 0, 1) := by decide +kernel
theorem dX0_readText_114 : decode cX0_readText 114 = .ok (.getfield 15, 3) := by decide +kernel
theorem dX0_readText_117 : decode cX0_readText 117 = .ok (.invokevirtual 67, 3) := by decide +kernel
theorem dX0_readText_120 : decode cX0_readText 120 = .ok (.pop, 1) := by decide +kernel
theorem dX0_readText_121 : decode cX0_readText 121 = .ok (.aload_n 0, 1) := by decide +kernel
theorem dX0_readText_122 : decode cX0_readText 122 = .ok (.iconst 0, 1) := by decide +kernel
theorem dX0_readText_123 : decode cX0_readText 123 = .ok (.putfield 15, 3) := by decide +kernel
theorem dX0_readText_126 : decode cX0_readText 126 = .ok (.aload_n 0, 1) := by decide +kernel
theorem dX0_readText_127 : decode cX0_readText 127 = .ok (.getfield 26, 3) := by decide +kernel
theorem dX0_readText_130 : decode cX0_readText 130 = .ok (.ifCond .ne 7, 3) := by decide +kernel
theorem dX0_readText_133 : decode cX0_readText 133 = .ok (.iload_n 1, 1) := by decide +kernel
theorem dX0_readText_134 : decode cX0_readText 134 = .ok (.goto 10, 3) := by decide +kernel
theorem dX0_readText_137 : decode cX0_readText 137 = .ok (.bipush (-10), 2) := by decide +kernel
theorem dX0_readText_139 : decode cX0_readText 139 = .ok (.aload_n 0, 1) := by decide +kernel
theorem dX0_readText_140 : decode cX0_readText 140 = .ok (.getfield 29, 3) := by decide +kernel
theorem dX0_readText_143 : decode cX0_readText 143 = .ok (.isub, 1) := by decide +kernel
theorem dX0_readText_144 : decode cX0_readText 144 = .ok (.ireturn, 1) := by decide +kernel
theorem dX0_refuse_0 : decode cX0_refuse 0 = .ok (.aload_n 0, 1) := by decide +kernel
theorem dX0_refuse_1 : decode cX0_refuse 1 = .ok (.iload_n 1, 1) := by decide +kernel
theorem dX0_refuse_2 : decode cX0_refuse 2 = .ok (.putfield 26, 3) := by decide +kernel
theorem dX0_refuse_5 : decode cX0_refuse 5 = .ok (.aload_n 0, 1) := by decide +kernel
theorem dX0_refuse_6 : decode cX0_refuse 6 = .ok (.iload_n 2, 1) := by decide +kernel
theorem dX0_refuse_7 : decode cX0_refuse 7 = .ok (.putfield 29, 3) := by decide +kernel
theorem dX0_refuse_10 : decode cX0_refuse 10 = .ok (.iconst 0, 1) := by decide +kernel
theorem dX0_refuse_11 : decode cX0_refuse 11 = .ok (.ireturn, 1) := by decide +kernel
theorem dX0_readLine_0 : decode cX0_readLine 0 = .ok (.aload_n 0, 1) := by decide +kernel
theorem dX0_readLine_1 : decode cX0_readLine 1 = .ok (.getfield 55, 3) := by decide +kernel
theorem dX0_readLine_4 : decode cX0_readLine 4 = .ok (.iconst 1, 1) := by decide +kernel
theorem dX0_readLine_5 : decode cX0_readLine 5 = .ok (.if_icmp .ne 10, 3) := by decide +kernel
theorem dX0_readLine_8 : decode cX0_readLine 8 = .ok (.aload_n 0, 1) := by decide +kernel
theorem dX0_readLine_9 : decode cX0_readLine 9 = .ok (.invokevirtual 71, 3) := by decide +kernel
theorem dX0_readLine_12 : decode cX0_readLine 12 = .ok (.goto 5, 3) := by decide +kernel
theorem dX0_readLine_15 : decode cX0_readLine 15 = .ok (.bipush (-4), 2) := by decide +kernel
theorem dX0_readLine_17 : decode cX0_readLine 17 = .ok (.istore_n 1, 1) := by decide +kernel
theorem dX0_readLine_18 : decode cX0_readLine 18 = .ok (.iload_n 1, 1) := by decide +kernel
theorem dX0_readLine_19 : decode cX0_readLine 19 = .ok (.tableswitch 80 0 8 #[49, 49, 49, 49, 55, 60, 65, 70, 75], 49) := by decide +kernel
theorem dX0_readLine_68 : decode cX0_readLine 68 = .ok (.aload_n 0, 1) := by decide +kernel
theorem dX0_readLine_69 : decode cX0_readLine 69 = .ok (.iload_n 1, 1) := by decide +kernel
theorem dX0_readLine_70 : decode cX0_readLine 70 = .ok (.invokevirtual 75, 3) := by decide +kernel
theorem dX0_readLine_73 : decode cX0_readLine 73 = .ok (.ireturn, 1) := by decide +kernel
theorem dX0_readLine_74 : decode cX0_readLine 74 = .ok (.aload_n 0, 1) := by decide +kernel
theorem dX0_readLine_75 : decode cX0_readLine 75 = .ok (.invokevirtual 79, 3) := by decide +kernel
theorem dX0_readLine_78 : decode cX0_readLine 78 = .ok (.ireturn, 1) := by decide +kernel
theorem dX0_readLine_79 : decode cX0_readLine 79 = .ok (.aload_n 0, 1) := by decide +kernel
theorem dX0_readLine_80 : decode cX0_readLine 80 = .ok (.invokevirtual 82, 3) := by decide +kernel
theorem dX0_readLine_83 : decode cX0_readLine 83 = .ok (.ireturn, 1) := by decide +kernel
theorem dX0_readLine_84 : decode cX0_readLine 84 = .ok (.aload_n 0, 1) := by decide +kernel
theorem dX0_readLine_85 : decode cX0_readLine 85 = .ok (.invokevirtual 85, 3) := by decide +kernel
theorem dX0_readLine_88 : decode cX0_readLine 88 = .ok (.ireturn, 1) := by decide +kernel
theorem dX0_readLine_89 : decode cX0_readLine 89 = .ok (.aload_n 0, 1) := by decide +kernel
theorem dX0_readLine_90 : decode cX0_readLine 90 = .ok (.invokevirtual 88, 3) := by decide +kernel
theorem dX0_readLine_93 : decode cX0_readLine 93 = .ok (.ireturn, 1) := by decide +kernel
theorem dX0_readLine_94 : decode cX0_readLine 94 = .ok (.aload_n 0, 1) := by decide +kernel
theorem dX0_readLine_95 : decode cX0_readLine 95 = .ok (.invokevirtual 91, 3) := by decide +kernel
theorem dX0_readLine_98 : decode cX0_readLine 98 = .ok (.ireturn, 1) := by decide +kernel
theorem dX0_readLine_99 : decode cX0_readLine 99 = .ok (.aload_n 0, 1) := by decide +kernel
theorem dX0_readLine_100 : decode cX0_readLine 100 = .ok (.iconst 2, 1) := by decide +kernel
theorem dX0_readLine_101 : decode cX0_readLine 101 = .ok (.aload_n 0, 1) := by decide +kernel
theorem dX0_readLine_102 : decode cX0_readLine 102 = .ok (.getfield 94, 3) := by decide +kernel
theorem dX0_readLine_105 : decode cX0_readLine 105 = .ok (.invokevirtual 67, 3) := by decide +kernel
theorem dX0_readLine_108 : decode cX0_readLine 108 = .ok (.ireturn, 1) := by decide +kernel
theorem dX0_readParts_0 : decode cX0_readParts 0 = .ok (.aload_n 0, 1) := by decide +kernel
theorem dX0_readParts_1 : decode cX0_readParts 1 = .ok (.getfield 38, 3) := by decide +kernel
theorem dX0_readParts_4 : decode cX0_readParts 4 = .ok (.ifCond .eq 13, 3) := by decide +kernel
theorem dX0_readParts_7 : decode cX0_readParts 7 = .ok (.aload_n 0, 1) := by decide +kernel
theorem dX0_readParts_8 : decode cX0_readParts 8 = .ok (.iconst 4, 1) := by decide +kernel
theorem dX0_readParts_9 : decode cX0_readParts 9 = .ok (.aload_n 0, 1) := by decide +kernel
theorem dX0_readParts_10 : decode cX0_readParts 10 = .ok (.getfield 94, 3) := by decide +kernel
theorem dX0_readParts_13 : decode cX0_readParts 13 = .ok (.invokevirtual 67, 3) := by decide +kernel
theorem dX0_readParts_16 : decode cX0_readParts 16 = .ok (.ireturn, 1) := by decide +kernel
theorem dX0_readParts_17 : decode cX0_readParts 17 = .ok (.aload_n 0, 1) := by decide +kernel
theorem dX0_readParts_18 : decode cX0_readParts 18 = .ok (.iconst 1, 1) := by decide +kernel
theorem dX0_readParts_19 : decode cX0_readParts 19 = .ok (.putfield 38, 3) := by decide +kernel
theorem dX0_readParts_22 : decode cX0_readParts 22 = .ok (.aload_n 0, 1) := by decide +kernel
theorem dX0_readParts_23 : decode cX0_readParts 23 = .ok (.iconst 2, 1) := by decide +kernel
theorem dX0_readParts_24 : decode cX0_readParts 24 = .ok (.bipush 6, 2) := by decide +kernel
theorem dX0_readParts_26 : decode cX0_readParts 26 = .ok (.invokevirtual 97, 3) := by decide +kernel
theorem dX0_readParts_29 : decode cX0_readParts 29 = .ok (.ifCond .ne 5, 3) := by decide +kernel
theorem dX0_readParts_32 : decode cX0_readParts 32 = .ok (.iconst 0, 1) := by decide +kernel
theorem dX0_readParts_33 : decode cX0_readParts 33 = .ok (.ireturn, 1) := by decide +kernel
theorem dX0_readParts_34 : decode cX0_readParts 34 = .ok (.aload_n 0, 1) := by decide +kernel
theorem dX0_readParts_35 : decode cX0_readParts 35 = .ok (.getfield 22, 3) := by decide +kernel
theorem dX0_readParts_38 : decode cX0_readParts 38 = .ok (.aload_n 0, 1) := by decide +kernel
theorem dX0_readParts_39 : decode cX0_readParts 39 = .ok (.getfield 100, 3) := by decide +kernel
theorem dX0_readParts_42 : decode cX0_readParts 42 = .ok (.putfield 61, 3) := by decide +kernel
theorem dX0_readParts_45 : decode cX0_readParts 45 = .ok (.aload_n 0, 1) := by decide +kernel
theorem dX0_readParts_46 : decode cX0_readParts 46 = .ok (.invokevirtual 103, 3) := by decide +kernel
theorem dX0_readParts_49 : decode cX0_readParts 49 = .ok (.ireturn, 1) := by decide +kernel
theorem dX0_readWorth_0 : decode cX0_readWorth 0 = .ok (.aload_n 0, 1) := by decide +kernel
theorem dX0_readWorth_1 : decode cX0_readWorth 1 = .ok (.iconst 0, 1) := by decide +kernel
theorem dX0_readWorth_2 : decode cX0_readWorth 2 = .ok (.iconst 5, 1) := by decide +kernel
theorem dX0_readWorth_3 : decode cX0_readWorth 3 = .ok (.invokevirtual 97, 3) := by decide +kernel
theorem dX0_readWorth_6 : decode cX0_readWorth 6 = .ok (.ifCond .ne 5, 3) := by decide +kernel
theorem dX0_readWorth_9 : decode cX0_readWorth 9 = .ok (.iconst 0, 1) := by decide +kernel
theorem dX0_readWorth_10 : decode cX0_readWorth 10 = .ok (.ireturn, 1) := by decide +kernel
theorem dX0_readWorth_11 : decode cX0_readWorth 11 = .ok (.aload_n 0, 1) := by decide +kernel
theorem dX0_readWorth_12 : decode cX0_readWorth 12 = .ok (.invokevirtual 106, 3) := by decide +kernel
theorem dX0_readWorth_15 : decode cX0_readWorth 15 = .ok (.istore_n 1, 1) := by decide +kernel
theorem dX0_readWorth_16 : decode cX0_readWorth 16 = .ok (.aload_n 0, 1) := by decide +kernel
theorem dX0_readWorth_17 : decode cX0_readWorth 17 = .ok (.getfield 42, 3) := by decide +kernel
theorem dX0_readWorth_20 : decode cX0_readWorth 20 = .ok (.iload_n 1, 1) := by decide +kernel
theorem dX0_readWorth_21 : decode cX0_readWorth 21 = .ok (.ishr, 1) := by decide +kernel
theorem dX0_readWorth_22 : decode cX0_readWorth 22 = .ok (.iconst 1, 1) := by decide +kernel
theorem dX0_readWorth_23 : decode cX0_readWorth 23 = .ok (.iand, 1) := by decide +kernel
theorem dX0_readWorth_24 : decode cX0_readWorth 24 = .ok (.iconst 1, 1) := by decide +kernel
theorem dX0_readWorth_25 : decode cX0_readWorth 25 = .ok (.if_icmp .ne 13, 3) := by decide +kernel
theorem dX0_readWorth_28 : decode cX0_readWorth 28 = .ok (.aload_n 0, 1) := by decide +kernel
theorem dX0_readWorth_29 : decode cX0_readWorth 29 = .ok (.iconst 4, 1) := by decide +kernel
theorem dX0_readWorth_30 : decode cX0_readWorth 30 = .ok (.aload_n 0, 1) := by decide +kernel
theorem dX0_readWorth_31 : decode cX0_readWorth 31 = .ok (.getfield 94, 3) := by decide +kernel
theorem dX0_readWorth_34 : decode cX0_readWorth 34 = .ok (.invokevirtual 67, 3) := by decide +kernel
theorem dX0_readWorth_37 : decode cX0_readWorth 37 = .ok (.ireturn, 1) := by decide +kernel
theorem dX0_readWorth_38 : decode cX0_readWorth 38 = .ok (.aload_n 0, 1) := by decide +kernel
theorem dX0_readWorth_39 : decode cX0_readWorth 39 = .ok (.dup, 1) := by decide +kernel
theorem dX0_readWorth_40 : decode cX0_readWorth 40 = .ok (.getfield 42, 3) := by decide +kernel
theorem dX0_readWorth_43 : decode cX0_readWorth 43 = .ok (.iconst 1, 1) := by decide +kernel
theorem dX0_readWorth_44 : decode cX0_readWorth 44 = .ok (.iload_n 1, 1) := by decide +kernel
theorem dX0_readWorth_45 : decode cX0_readWorth 45 = .ok (.ishl, 1) := by decide +kernel
theorem dX0_readWorth_46 : decode cX0_readWorth 46 = .ok (.ior, 1) := by decide +kernel
theorem dX0_readWorth_47 : decode cX0_readWorth 47 = .ok (.putfield 42, 3) := by decide +kernel
theorem dX0_readWorth_50 : decode cX0_readWorth 50 = .ok (.aload_n 0, 1) := by decide +kernel
theorem dX0_readWorth_51 : decode cX0_readWorth 51 = .ok (.iconst 0, 1) := by decide +kernel
theorem dX0_readWorth_52 : decode cX0_readWorth 52 = .ok (.bipush 9, 2) := by decide +kernel
theorem dX0_readWorth_54 : decode cX0_readWorth 54 = .ok (.invokevirtual 97, 3) := by decide +kernel
theorem dX0_readWorth_57 : decode cX0_readWorth 57 = .ok (.ifCond .ne 5, 3) := by decide +kernel
theorem dX0_readWorth_60 : decode cX0_readWorth 60 = .ok (.iconst 0, 1) := by decide +kernel
theorem dX0_readWorth_61 : decode cX0_readWorth 61 = .ok (.ireturn, 1) := by decide +kernel
theorem dX0_readWorth_62 : decode cX0_readWorth 62 = .ok (.aload_n 0, 1) := by decide +kernel
theorem dX0_readWorth_63 : decode cX0_readWorth 63 = .ok (.getfield 22, 3) := by decide +kernel
theorem dX0_readWorth_66 : decode cX0_readWorth 66 = .ok (.getfield 109, 3) := by decide +kernel
theorem dX0_readWorth_69 : decode cX0_readWorth 69 = .ok (.iload_n 1, 1) := by decide +kernel
theorem dX0_readWorth_70 : decode cX0_readWorth 70 = .ok (.aload_n 0, 1) := by decide +kernel
theorem dX0_readWorth_71 : decode cX0_readWorth 71 = .ok (.getfield 100, 3) := by decide +kernel
theorem dX0_readWorth_74 : decode cX0_readWorth 74 = .ok (.iastore, 1) := by decide +kernel
theorem dX0_readWorth_75 : decode cX0_readWorth 75 = .ok (.aload_n 0, 1) := by decide +kernel
theorem dX0_readWorth_76 : decode cX0_readWorth 76 = .ok (.invokevirtual 103, 3) := by decide +kernel
theorem dX0_readWorth_79 : decode cX0_readWorth 79 = .ok (.ireturn, 1) := by decide +kernel
theorem dX0_readSitter_0 : decode cX0_readSitter 0 = .ok (.aload_n 0, 1) := by decide +kernel
theorem dX0_readSitter_1 : decode cX0_readSitter 1 = .ok (.getfield 22, 3) := by decide +kernel
theorem dX0_readSitter_4 : decode cX0_readSitter 4 = .ok (.getfield 64, 3) := by decide +kernel
theorem dX0_readSitter_7 : decode cX0_readSitter 7 = .ok (.istore_n 2, 1) := by decide +kernel
theorem dX0_readSitter_8 : decode cX0_readSitter 8 = .ok (.iload_n 2, 1) := by decide +kernel
theorem dX0_readSitter_9 : decode cX0_readSitter 9 = .ok (.iconst 5, 1) := by decide +kernel
theorem dX0_readSitter_10 : decode cX0_readSitter 10 = .ok (.if_icmp .lt 13, 3) := by decide +kernel
theorem dX0_readSitter_13 : decode cX0_readSitter 13 = .ok (.aload_n 0, 1) := by decide +kernel
theorem dX0_readSitter_14 : decode cX0_readSitter 14 = .ok (.iconst 5, 1) := by decide +kernel
theorem dX0_readSitter_15 : decode cX0_readSitter 15 = .ok (.aload_n 0, 1) := by decide +kernel
theorem dX0_readSitter_16 : decode cX0_readSitter 16 = .ok (.getfield 94, 3) := by decide +kernel
theorem dX0_readSitter_19 : decode cX0_readSitter 19 = .ok (.invokevirtual 67, 3) := by decide +kernel
theorem dX0_readSitter_22 : decode cX0_readSitter 22 = .ok (.ireturn, 1) := by decide +kernel
theorem dX0_readSitter_23 : decode cX0_readSitter 23 = .ok (.aload_n 0, 1) := by decide +kernel
theorem dX0_readSitter_24 : decode cX0_readSitter 24 = .ok (.getfield 22, 3) := by decide +kernel
theorem dX0_readSitter_27 : decode cX0_readSitter 27 = .ok (.getfield 113, 3) := by decide +kernel
theorem dX0_readSitter_30 : decode cX0_readSitter 30 = .ok (.iload_n 2, 1) := by decide +kernel
theorem dX0_readSitter_31 : decode cX0_readSitter 31 = .ok (.iload_n 1, 1) := by decide +kernel
theorem dX0_readSitter_32 : decode cX0_readSitter 32 = .ok (.iastore, 1) := by decide +kernel
theorem dX0_readSitter_33 : decode cX0_readSitter 33 = .ok (.aload_n 0, 1) := by decide +kernel
theorem dX0_readSitter_34 : decode cX0_readSitter 34 = .ok (.getfield 22, 3) := by decide +kernel
theorem dX0_readSitter_37 : decode cX0_readSitter 37 = .ok (.getfield 116, 3) := by decide +kernel
theorem dX0_readSitter_40 : decode cX0_readSitter 40 = .ok (.iload_n 2, 1) := by decide +kernel
theorem dX0_readSitter_41 : decode cX0_readSitter 41 = .ok (.iconst 0, 1) := by decide +kernel
theorem dX0_readSitter_42 : decode cX0_readSitter 42 = .ok (.iastore, 1) := by decide +kernel
theorem dX0_readSitter_43 : decode cX0_readSitter 43 = .ok (.aload_n 0, 1) := by decide +kernel
theorem dX0_readSitter_44 : decode cX0_readSitter 44 = .ok (.iconst 0, 1) := by decide +kernel
theorem dX0_readSitter_45 : decode cX0_readSitter 45 = .ok (.iconst 5, 1) := by decide +kernel
theorem dX0_readSitter_46 : decode cX0_readSitter 46 = .ok (.invokevirtual 97, 3) := by decide +kernel
theorem dX0_readSitter_49 : decode cX0_readSitter 49 = .ok (.ifCond .ne 5, 3) := by decide +kernel
theorem dX0_readSitter_52 : decode cX0_readSitter 52 = .ok (.iconst 0, 1) := by decide +kernel
theorem dX0_readSitter_53 : decode cX0_readSitter 53 = .ok (.ireturn, 1) := by decide +kernel
theorem dX0_readSitter_54 : decode cX0_readSitter 54 = .ok (.aload_n 0, 1) := by decide +kernel
theorem dX0_readSitter_55 : decode cX0_readSitter 55 = .ok (.getfield 22, 3) := by decide +kernel
theorem dX0_readSitter_58 : decode cX0_readSitter 58 = .ok (.getfield 119, 3) := by decide +kernel
theorem dX0_readSitter_61 : decode cX0_readSitter 61 = .ok (.iload_n 2, 1) := by decide +kernel
theorem dX0_readSitter_62 : decode cX0_readSitter 62 = .ok (.aload_n 0, 1) := by decide +kernel
theorem dX0_readSitter_63 : decode cX0_readSitter 63 = .ok (.getfield 100, 3) := by decide +kernel
theorem dX0_readSitter_66 : decode cX0_readSitter 66 = .ok (.iastore, 1) := by decide +kernel
theorem dX0_readSitter_67 : decode cX0_readSitter 67 = .ok (.aload_n 0, 1) := by decide +kernel
theorem dX0_readSitter_68 : decode cX0_readSitter 68 = .ok (.iconst 0, 1) := by decide +kernel
theorem dX0_readSitter_69 : decode cX0_readSitter 69 = .ok (.bipush 9, 2) := by decide +kernel
theorem dX0_readSitter_71 : decode cX0_readSitter 71 = .ok (.invokevirtual 97, 3) := by decide +kernel
theorem dX0_readSitter_74 : decode cX0_readSitter 74 = .ok (.ifCond .ne 5, 3) := by decide +kernel
theorem dX0_readSitter_77 : decode cX0_readSitter 77 = .ok (.iconst 0, 1) := by decide +kernel
theorem dX0_readSitter_78 : decode cX0_readSitter 78 = .ok (.ireturn, 1) := by decide +kernel
theorem dX0_readSitter_79 : decode cX0_readSitter 79 = .ok (.aload_n 0, 1) := by decide +kernel
theorem dX0_readSitter_80 : decode cX0_readSitter 80 = .ok (.getfield 22, 3) := by decide +kernel
theorem dX0_readSitter_83 : decode cX0_readSitter 83 = .ok (.getfield 122, 3) := by decide +kernel
theorem dX0_readSitter_86 : decode cX0_readSitter 86 = .ok (.iload_n 2, 1) := by decide +kernel
theorem dX0_readSitter_87 : decode cX0_readSitter 87 = .ok (.aload_n 0, 1) := by decide +kernel
theorem dX0_readSitter_88 : decode cX0_readSitter 88 = .ok (.getfield 100, 3) := by decide +kernel
theorem dX0_readSitter_91 : decode cX0_readSitter 91 = .ok (.iastore, 1) := by decide +kernel
theorem dX0_readSitter_92 : decode cX0_readSitter 92 = .ok (.aload_n 0, 1) := by decide +kernel
theorem dX0_readSitter_93 : decode cX0_readSitter 93 = .ok (.getfield 22, 3) := by decide +kernel
theorem dX0_readSitter_96 : decode cX0_readSitter 96 = .ok (.getfield 125, 3) := by decide +kernel
theorem dX0_readSitter_99 : decode cX0_readSitter 99 = .ok (.iload_n 2, 1) := by decide +kernel
theorem dX0_readSitter_100 : decode cX0_readSitter 100 = .ok (.aload_n 0, 1) := by decide +kernel
theorem dX0_readSitter_101 : decode cX0_readSitter 101 = .ok (.bipush 6, 2) := by decide +kernel
theorem dX0_readSitter_103 : decode cX0_readSitter 103 = .ok (.invokevirtual 128, 3) := by decide +kernel
theorem dX0_readSitter_106 : decode cX0_readSitter 106 = .ok (.iastore, 1) := by decide +kernel
theorem dX0_readSitter_107 : decode cX0_readSitter 107 = .ok (.aload_n 0, 1) := by decide +kernel
theorem dX0_readSitter_108 : decode cX0_readSitter 108 = .ok (.getfield 22, 3) := by decide +kernel
theorem dX0_readSitter_111 : decode cX0_readSitter 111 = .ok (.dup, 1) := by decide +kernel
theorem dX0_readSitter_112 : decode cX0_readSitter 112 = .ok (.getfield 64, 3) := by decide +kernel
theorem dX0_readSitter_115 : decode cX0_readSitter 115 = .ok (.iconst 1, 1) := by decide +kernel
theorem dX0_readSitter_116 : decode cX0_readSitter 116 = .ok (.iadd, 1) := by decide +kernel
theorem dX0_readSitter_117 : decode cX0_readSitter 117 = .ok (.putfield 64, 3) := by decide +kernel
theorem dX0_readSitter_120 : decode cX0_readSitter 120 = .ok (.aload_n 0, 1) := by decide +kernel
theorem dX0_readSitter_121 : decode cX0_readSitter 121 = .ok (.getfield 26, 3) := by decide +kernel
theorem dX0_readSitter_124 : decode cX0_readSitter 124 = .ok (.ifCond .ne 7, 3) := by decide +kernel
theorem dX0_readSitter_127 : decode cX0_readSitter 127 = .ok (.iconst 1, 1) := by decide +kernel
theorem dX0_readSitter_128 : decode cX0_readSitter 128 = .ok (.goto 4, 3) := by decide +kernel
theorem dX0_readSitter_131 : decode cX0_readSitter 131 = .ok (.iconst 0, 1) := by decide +kernel
theorem dX0_readSitter_132 : decode cX0_readSitter 132 = .ok (.ireturn, 1) := by decide +kernel
theorem dX0_readBond_0 : decode cX0_readBond 0 = .ok (.aload_n 0, 1) := by decide +kernel
theorem dX0_readBond_1 : decode cX0_readBond 1 = .ok (.getfield 22, 3) := by decide +kernel
theorem dX0_readBond_4 : decode cX0_readBond 4 = .ok (.getfield 132, 3) := by decide +kernel
theorem dX0_readBond_7 : decode cX0_readBond 7 = .ok (.istore_n 1, 1) := by decide +kernel
theorem dX0_readBond_8 : decode cX0_readBond 8 = .ok (.iload_n 1, 1) := by decide +kernel
theorem dX0_readBond_9 : decode cX0_readBond 9 = .ok (.iconst 5, 1) := by decide +kernel
theorem dX0_readBond_10 : decode cX0_readBond 10 = .ok (.if_icmp .lt 13, 3) := by decide +kernel
theorem dX0_readBond_13 : decode cX0_readBond 13 = .ok (.aload_n 0, 1) := by decide +kernel
theorem dX0_readBond_14 : decode cX0_readBond 14 = .ok (.iconst 5, 1) := by decide +kernel
theorem dX0_readBond_15 : decode cX0_readBond 15 = .ok (.aload_n 0, 1) := by decide +kernel
theorem dX0_readBond_16 : decode cX0_readBond 16 = .ok (.getfield 94, 3) := by decide +kernel
theorem dX0_readBond_19 : decode cX0_readBond 19 = .ok (.invokevirtual 67, 3) := by decide +kernel
theorem dX0_readBond_22 : decode cX0_readBond 22 = .ok (.ireturn, 1) := by decide +kernel
theorem dX0_readBond_23 : decode cX0_readBond 23 = .ok (.aload_n 0, 1) := by decide +kernel
theorem dX0_readBond_24 : decode cX0_readBond 24 = .ok (.iconst 0, 1) := by decide +kernel
theorem dX0_readBond_25 : decode cX0_readBond 25 = .ok (.iconst 5, 1) := by decide +kernel
theorem dX0_readBond_26 : decode cX0_readBond 26 = .ok (.invokevirtual 97, 3) := by decide +kernel
theorem dX0_readBond_29 : decode cX0_readBond 29 = .ok (.ifCond .ne 5, 3) := by decide +kernel
theorem dX0_readBond_32 : decode cX0_readBond 32 = .ok (.iconst 0, 1) := by decide +kernel
theorem dX0_readBond_33 : decode cX0_readBond 33 = .ok (.ireturn, 1) := by decide +kernel
theorem dX0_readBond_34 : decode cX0_readBond 34 = .ok (.aload_n 0, 1) := by decide +kernel
theorem dX0_readBond_35 : decode cX0_readBond 35 = .ok (.getfield 22, 3) := by decide +kernel
theorem dX0_readBond_38 : decode cX0_readBond 38 = .ok (.getfield 135, 3) := by decide +kernel
theorem dX0_readBond_41 : decode cX0_readBond 41 = .ok (.iload_n 1, 1) := by decide +kernel
theorem dX0_readBond_42 : decode cX0_readBond 42 = .ok (.aload_n 0, 1) := by decide +kernel
theorem dX0_readBond_43 : decode cX0_readBond 43 = .ok (.invokevirtual 106, 3) := by decide +kernel
theorem dX0_readBond_46 : decode cX0_readBond 46 = .ok (.iastore, 1) := by decide +kernel
theorem dX0_readBond_47 : decode cX0_readBond 47 = .ok (.aload_n 0, 1) := by decide +kernel
theorem dX0_readBond_48 : decode cX0_readBond 48 = .ok (.iconst 0, 1) := by decide +kernel
theorem dX0_readBond_49 : decode cX0_readBond 49 = .ok (.iconst 5, 1) := by decide +kernel
theorem dX0_readBond_50 : decode cX0_readBond 50 = .ok (.invokevirtual 97, 3) := by decide +kernel
theorem dX0_readBond_53 : decode cX0_readBond 53 = .ok (.ifCond .ne 5, 3) := by decide +kernel
theorem dX0_readBond_56 : decode cX0_readBond 56 = .ok (.iconst 0, 1) := by decide +kernel
theorem dX0_readBond_57 : decode cX0_readBond 57 = .ok (.ireturn, 1) := by decide +kernel
theorem dX0_readBond_58 : decode cX0_readBond 58 = .ok (.aload_n 0, 1) := by decide +kernel
theorem dX0_readBond_59 : decode cX0_readBond 59 = .ok (.getfield 22, 3) := by decide +kernel
theorem dX0_readBond_62 : decode cX0_readBond 62 = .ok (.getfield 138, 3) := by decide +kernel
theorem dX0_readBond_65 : decode cX0_readBond 65 = .ok (.iload_n 1, 1) := by decide +kernel
theorem dX0_readBond_66 : decode cX0_readBond 66 = .ok (.aload_n 0, 1) := by decide +kernel
theorem dX0_readBond_67 : decode cX0_readBond 67 = .ok (.invokevirtual 106, 3) := by decide +kernel
theorem dX0_readBond_70 : decode cX0_readBond 70 = .ok (.iastore, 1) := by decide +kernel
theorem dX0_readBond_71 : decode cX0_readBond 71 = .ok (.aload_n 0, 1) := by decide +kernel
theorem dX0_readBond_72 : decode cX0_readBond 72 = .ok (.getfield 22, 3) := by decide +kernel
theorem dX0_readBond_75 : decode cX0_readBond 75 = .ok (.getfield 138, 3) := by decide +kernel
theorem dX0_readBond_78 : decode cX0_readBond 78 = .ok (.iload_n 1, 1) := by decide +kernel
theorem dX0_readBond_79 : decode cX0_readBond 79 = .ok (.iaload, 1) := by decide +kernel
theorem dX0_readBond_80 : decode cX0_readBond 80 = .ok (.aload_n 0, 1) := by decide +kernel
theorem dX0_readBond_81 : decode cX0_readBond 81 = .ok (.getfield 22, 3) := by decide +kernel
theorem dX0_readBond_84 : decode cX0_readBond 84 = .ok (.getfield 135, 3) := by decide +kernel
theorem dX0_readBond_87 : decode cX0_readBond 87 = .ok (.iload_n 1, 1) := by decide +kernel
theorem dX0_readBond_88 : decode cX0_readBond 88 = .ok (.iaload, 1) := by decide +kernel
theorem dX0_readBond_89 : decode cX0_readBond 89 = .ok (.if_icmp .ne 13, 3) := by decide +kernel
theorem dX0_readBond_92 : decode cX0_readBond 92 = .ok (.aload_n 0, 1) := by decide +kernel
theorem dX0_readBond_93 : decode cX0_readBond 93 = .ok (.iconst 3, 1) := by decide +kernel
theorem dX0_readBond_94 : decode cX0_readBond 94 = .ok (.aload_n 0, 1) := by decide +kernel
theorem dX0_readBond_95 : decode cX0_readBond 95 = .ok (.getfield 94, 3) := by decide +kernel
theorem dX0_readBond_98 : decode cX0_readBond 98 = .ok (.invokevirtual 67, 3) := by decide +kernel
theorem dX0_readBond_101 : decode cX0_readBond 101 = .ok (.ireturn, 1) := by decide +kernel
theorem dX0_readBond_102 : decode cX0_readBond 102 = .ok (.aload_n 0, 1) := by decide +kernel
theorem dX0_readBond_103 : decode cX0_readBond 103 = .ok (.getfield 22, 3) := by decide +kernel
theorem dX0_readBond_106 : decode cX0_readBond 106 = .ok (.dup, 1) := by decide +kernel
theorem dX0_readBond_107 : decode cX0_readBond 107 = .ok (.getfield 132, 3) := by decide +kernel
theorem dX0_readBond_110 : decode cX0_readBond 110 = .ok (.iconst 1, 1) := by decide +kernel
theorem dX0_readBond_111 : decode cX0_readBond 111 = .ok (.iadd, 1) := by decide +kernel
theorem dX0_readBond_112 : decode cX0_readBond 112 = .ok (.putfield 132, 3) := by decide +kernel
theorem dX0_readBond_115 : decode cX0_readBond 115 = .ok (.aload_n 0, 1) := by decide +kernel
theorem dX0_readBond_116 : decode cX0_readBond 116 = .ok (.invokevirtual 103, 3) := by decide +kernel
theorem dX0_readBond_119 : decode cX0_readBond 119 = .ok (.ireturn, 1) := by decide +kernel
theorem dX0_readForger_0 : decode cX0_readForger 0 = .ok (.aload_n 0, 1) := by decide +kernel
theorem dX0_readForger_1 : decode cX0_readForger 1 = .ok (.getfield 22, 3) := by decide +kernel
theorem dX0_readForger_4 : decode cX0_readForger 4 = .ok (.getfield 141, 3) := by decide +kernel
theorem dX0_readForger_7 : decode cX0_readForger 7 = .ok (.istore_n 1, 1) := by decide +kernel
theorem dX0_readForger_8 : decode cX0_readForger 8 = .ok (.iload_n 1, 1) := by decide +kernel
theorem dX0_readForger_9 : decode cX0_readForger 9 = .ok (.iconst 4, 1) := by decide +kernel
theorem dX0_readForger_10 : decode cX0_readForger 10 = .ok (.if_icmp .lt 13, 3) := by decide +kernel
theorem dX0_readForger_13 : decode cX0_readForger 13 = .ok (.aload_n 0, 1) := by decide +kernel
theorem dX0_readForger_14 : decode cX0_readForger 14 = .ok (.iconst 5, 1) := by decide +kernel
theorem dX0_readForger_15 : decode cX0_readForger 15 = .ok (.aload_n 0, 1) := by decide +kernel
theorem dX0_readForger_16 : decode cX0_readForger 16 = .ok (.getfield 94, 3) := by decide +kernel
theorem dX0_readForger_19 : decode cX0_readForger 19 = .ok (.invokevirtual 67, 3) := by decide +kernel
theorem dX0_readForger_22 : decode cX0_readForger 22 = .ok (.ireturn, 1) := by decide +kernel
theorem dX0_readForger_23 : decode cX0_readForger 23 = .ok (.aload_n 0, 1) := by decide +kernel
theorem dX0_readForger_24 : decode cX0_readForger 24 = .ok (.iconst 4, 1) := by decide +kernel
theorem dX0_readForger_25 : decode cX0_readForger 25 = .ok (.invokevirtual 128, 3) := by decide +kernel
theorem dX0_readForger_28 : decode cX0_readForger 28 = .ok (.istore_n 2, 1) := by decide +kernel
theorem dX0_readForger_29 : decode cX0_readForger 29 = .ok (.iconst 0, 1) := by decide +kernel
theorem dX0_readForger_30 : decode cX0_readForger 30 = .ok (.istore_n 3, 1) := by decide +kernel
theorem dX0_readForger_31 : decode cX0_readForger 31 = .ok (.iload_n 3, 1) := by decide +kernel
theorem dX0_readForger_32 : decode cX0_readForger 32 = .ok (.iconst 5, 1) := by decide +kernel
theorem dX0_readForger_33 : decode cX0_readForger 33 = .ok (.if_icmp .ge 30, 3) := by decide +kernel
theorem dX0_readForger_36 : decode cX0_readForger 36 = .ok (.iload_n 2, 1) := by decide +kernel
theorem dX0_readForger_37 : decode cX0_readForger 37 = .ok (.iload_n 3, 1) := by decide +kernel
theorem dX0_readForger_38 : decode cX0_readForger 38 = .ok (.ishr, 1) := by decide +kernel
theorem dX0_readForger_39 : decode cX0_readForger 39 = .ok (.iconst 1, 1) := by decide +kernel
theorem dX0_readForger_40 : decode cX0_readForger 40 = .ok (.iand, 1) := by decide +kernel
theorem dX0_readForger_41 : decode cX0_readForger 41 = .ok (.iconst 1, 1) := by decide +kernel
theorem dX0_readForger_42 : decode cX0_readForger 42 = .ok (.if_icmp .ne 15, 3) := by decide +kernel
theorem dX0_readForger_45 : decode cX0_readForger 45 = .ok (.aload_n 0, 1) := by decide +kernel
theorem dX0_readForger_46 : decode cX0_readForger 46 = .ok (.aload_n 0, 1) := by decide +kernel
theorem dX0_readForger_47 : decode cX0_readForger 47 = .ok (.getfield 48, 3) := by decide +kernel
theorem dX0_readForger_50 : decode cX0_readForger 50 = .ok (.iload_n 3, 1) := by decide +kernel
theorem dX0_readForger_51 : decode cX0_readForger 51 = .ok (.invokestatic 144, 3) := by decide +kernel
theorem dX0_readForger_54 : decode cX0_readForger 54 = .ok (.putfield 48, 3) := by decide +kernel
theorem dX0_readForger_57 : decode cX0_readForger 57 = .ok (.iinc 3 1, 3) := by decide +kernel
theorem dX0_readForger_60 : decode cX0_readForger 60 = .ok (.goto (-29), 3) := by decide +kernel
theorem dX0_readForger_63 : decode cX0_readForger 63 = .ok (.aload_n 0, 1) := by decide +kernel
theorem dX0_readForger_64 : decode cX0_readForger 64 = .ok (.getfield 22, 3) := by decide +kernel
theorem dX0_readForger_67 : decode cX0_readForger 67 = .ok (.getfield 150, 3) := by decide +kernel
theorem dX0_readForger_70 : decode cX0_readForger 70 = .ok (.iload_n 1, 1) := by decide +kernel
theorem dX0_readForger_71 : decode cX0_readForger 71 = .ok (.iload_n 2, 1) := by decide +kernel
theorem dX0_readForger_72 : decode cX0_readForger 72 = .ok (.iastore, 1) := by decide +kernel
theorem dX0_readForger_73 : decode cX0_readForger 73 = .ok (.aload_n 0, 1) := by decide +kernel
theorem dX0_readForger_74 : decode cX0_readForger 74 = .ok (.getfield 22, 3) := by decide +kernel
theorem dX0_readForger_77 : decode cX0_readForger 77 = .ok (.dup, 1) := by decide +kernel
theorem dX0_readForger_78 : decode cX0_readForger 78 = .ok (.getfield 141, 3) := by decide +kernel
theorem dX0_readForger_81 : decode cX0_readForger 81 = .ok (.iconst 1, 1) := by decide +kernel
theorem dX0_readForger_82 : decode cX0_readForger 82 = .ok (.iadd, 1) := by decide +kernel
theorem dX0_readForger_83 : decode cX0_readForger 83 = .ok (.putfield 141, 3) := by decide +kernel
theorem dX0_readForger_86 : decode cX0_readForger 86 = .ok (.aload_n 0, 1) := by decide +kernel
theorem dX0_readForger_87 : decode cX0_readForger 87 = .ok (.getfield 26, 3) := by decide +kernel
theorem dX0_readForger_90 : decode cX0_readForger 90 = .ok (.ifCond .ne 7, 3) := by decide +kernel
theorem dX0_readForger_93 : decode cX0_readForger 93 = .ok (.iconst 1, 1) := by decide +kernel
theorem dX0_readForger_94 : decode cX0_readForger 94 = .ok (.goto 4, 3) := by decide +kernel
theorem dX0_readForger_97 : decode cX0_readForger 97 = .ok (.iconst 0, 1) := by decide +kernel
theorem dX0_readForger_98 : decode cX0_readForger 98 = .ok (.ireturn, 1) := by decide +kernel
theorem dX0_readPaint_0 : decode cX0_readPaint 0 = .ok (.aload_n 0, 1) := by decide +kernel
theorem dX0_readPaint_1 : decode cX0_readPaint 1 = .ok (.iconst 0, 1) := by decide +kernel
theorem dX0_readPaint_2 : decode cX0_readPaint 2 = .ok (.iconst 5, 1) := by decide +kernel
theorem dX0_readPaint_3 : decode cX0_readPaint 3 = .ok (.invokevirtual 97, 3) := by decide +kernel
theorem dX0_readPaint_6 : decode cX0_readPaint 6 = .ok (.ifCond .ne 5, 3) := by decide +kernel
theorem dX0_readPaint_9 : decode cX0_readPaint 9 = .ok (.iconst 0, 1) := by decide +kernel
theorem dX0_readPaint_10 : decode cX0_readPaint 10 = .ok (.ireturn, 1) := by decide +kernel
theorem dX0_readPaint_11 : decode cX0_readPaint 11 = .ok (.aload_n 0, 1) := by decide +kernel
theorem dX0_readPaint_12 : decode cX0_readPaint 12 = .ok (.invokevirtual 106, 3) := by decide +kernel
theorem dX0_readPaint_15 : decode cX0_readPaint 15 = .ok (.istore_n 1, 1) := by decide +kernel
theorem dX0_readPaint_16 : decode cX0_readPaint 16 = .ok (.aload_n 0, 1) := by decide +kernel
theorem dX0_readPaint_17 : decode cX0_readPaint 17 = .ok (.getfield 22, 3) := by decide +kernel
theorem dX0_readPaint_20 : decode cX0_readPaint 20 = .ok (.getfield 153, 3) := by decide +kernel
theorem dX0_readPaint_23 : decode cX0_readPaint 23 = .ok (.iload_n 1, 1) := by decide +kernel
theorem dX0_readPaint_24 : decode cX0_readPaint 24 = .ok (.iaload, 1) := by decide +kernel
theorem dX0_readPaint_25 : decode cX0_readPaint 25 = .ok (.iconst 4, 1) := by decide +kernel
theorem dX0_readPaint_26 : decode cX0_readPaint 26 = .ok (.if_icmp .lt 13, 3) := by decide +kernel
theorem dX0_readPaint_29 : decode cX0_readPaint 29 = .ok (.aload_n 0, 1) := by decide +kernel
theorem dX0_readPaint_30 : decode cX0_readPaint 30 = .ok (.iconst 5, 1) := by decide +kernel
theorem dX0_readPaint_31 : decode cX0_readPaint 31 = .ok (.aload_n 0, 1) := by decide +kernel
theorem dX0_readPaint_32 : decode cX0_readPaint 32 = .ok (.getfield 94, 3) := by decide +kernel
theorem dX0_readPaint_35 : decode cX0_readPaint 35 = .ok (.invokevirtual 67, 3) := by decide +kernel
theorem dX0_readPaint_38 : decode cX0_readPaint 38 = .ok (.ireturn, 1) := by decide +kernel
theorem dX0_readPaint_39 : decode cX0_readPaint 39 = .ok (.aload_n 0, 1) := by decide +kernel
theorem dX0_readPaint_40 : decode cX0_readPaint 40 = .ok (.iconst 0, 1) := by decide +kernel
theorem dX0_readPaint_41 : decode cX0_readPaint 41 = .ok (.iconst 4, 1) := by decide +kernel
theorem dX0_readPaint_42 : decode cX0_readPaint 42 = .ok (.invokevirtual 97, 3) := by decide +kernel
theorem dX0_readPaint_45 : decode cX0_readPaint 45 = .ok (.ifCond .ne 5, 3) := by decide +kernel
theorem dX0_readPaint_48 : decode cX0_readPaint 48 = .ok (.iconst 0, 1) := by decide +kernel
theorem dX0_readPaint_49 : decode cX0_readPaint 49 = .ok (.ireturn, 1) := by decide +kernel
theorem dX0_readPaint_50 : decode cX0_readPaint 50 = .ok (.aload_n 0, 1) := by decide +kernel
theorem dX0_readPaint_51 : decode cX0_readPaint 51 = .ok (.aload_n 0, 1) := by decide +kernel
theorem dX0_readPaint_52 : decode cX0_readPaint 52 = .ok (.getfield 48, 3) := by decide +kernel
theorem dX0_readPaint_55 : decode cX0_readPaint 55 = .ok (.aload_n 0, 1) := by decide +kernel
theorem dX0_readPaint_56 : decode cX0_readPaint 56 = .ok (.getfield 100, 3) := by decide +kernel
theorem dX0_readPaint_59 : decode cX0_readPaint 59 = .ok (.invokestatic 144, 3) := by decide +kernel
theorem dX0_readPaint_62 : decode cX0_readPaint 62 = .ok (.putfield 48, 3) := by decide +kernel
theorem dX0_readPaint_65 : decode cX0_readPaint 65 = .ok (.aload_n 0, 1) := by decide +kernel
theorem dX0_readPaint_66 : decode cX0_readPaint 66 = .ok (.getfield 22, 3) := by decide +kernel
theorem dX0_readPaint_69 : decode cX0_readPaint 69 = .ok (.iload_n 1, 1) := by decide +kernel
theorem dX0_readPaint_70 : decode cX0_readPaint 70 = .ok (.aload_n 0, 1) := by decide +kernel
theorem dX0_readPaint_71 : decode cX0_readPaint 71 = .ok (.getfield 100, 3) := by decide +kernel
theorem dX0_readPaint_74 : decode cX0_readPaint 74 = .ok (.invokevirtual 156, 3) := by decide +kernel
theorem dX0_readPaint_77 : decode cX0_readPaint 77 = .ok (.aload_n 0, 1) := by decide +kernel
theorem dX0_readPaint_78 : decode cX0_readPaint 78 = .ok (.invokevirtual 103, 3) := by decide +kernel
theorem dX0_readPaint_81 : decode cX0_readPaint 81 = .ok (.ireturn, 1) := by decide +kernel
theorem dX0_notePart_0 : decode cX0_notePart 0 = .ok (.aload_n 0, 1) := by decide +kernel
theorem dX0_notePart_1 : decode cX0_notePart 1 = .ok (.aload_n 0, 1) := by decide +kernel
theorem dX0_notePart_2 : decode cX0_notePart 2 = .ok (.getfield 45, 3) := by decide +kernel
theorem dX0_notePart_5 : decode cX0_notePart 5 = .ok (.aload_n 0, 1) := by decide +kernel
theorem dX0_notePart_6 : decode cX0_notePart 6 = .ok (.getfield 100, 3) := by decide +kernel
theorem dX0_notePart_9 : decode cX0_notePart 9 = .ok (.invokestatic 144, 3) := by decide +kernel
theorem dX0_notePart_12 : decode cX0_notePart 12 = .ok (.putfield 45, 3) := by decide +kernel
theorem dX0_notePart_15 : decode cX0_notePart 15 = .ok (.aload_n 0, 1) := by decide +kernel
theorem dX0_notePart_16 : decode cX0_notePart 16 = .ok (.getfield 100, 3) := by decide +kernel
theorem dX0_notePart_19 : decode cX0_notePart 19 = .ok (.ireturn, 1) := by decide +kernel
theorem dX0_readNumber_0 : decode cX0_readNumber 0 = .ok (.aload_n 0, 1) := by decide +kernel
theorem dX0_readNumber_1 : decode cX0_readNumber 1 = .ok (.invokevirtual 51, 3) := by decide +kernel
theorem dX0_readNumber_4 : decode cX0_readNumber 4 = .ok (.ifCond .eq 16, 3) := by decide +kernel
theorem dX0_readNumber_7 : decode cX0_readNumber 7 = .ok (.aload_n 0, 1) := by decide +kernel
theorem dX0_readNumber_8 : decode cX0_readNumber 8 = .ok (.iload_n 1, 1) := by decide +kernel
theorem dX0_readNumber_9 : decode cX0_readNumber 9 = .ok (.iload_n 2, 1) := by decide +kernel
theorem dX0_readNumber_10 : decode cX0_readNumber 10 = .ok (.invokevirtual 160, 3) := by decide +kernel
theorem dX0_readNumber_13 : decode cX0_readNumber 13 = .ok (.ifCond .eq 7, 3) := by decide +kernel
theorem dX0_readNumber_16 : decode cX0_readNumber 16 = .ok (.iconst 1, 1) := by decide +kernel
theorem dX0_readNumber_17 : decode cX0_readNumber 17 = .ok (.goto 4, 3) := by decide +kernel
theorem dX0_readNumber_20 : decode cX0_readNumber 20 = .ok (.iconst 0, 1) := by decide +kernel
theorem dX0_readNumber_21 : decode cX0_readNumber 21 = .ok (.ireturn, 1) := by decide +kernel
theorem dX0_isNumber_0 : decode cX0_isNumber 0 = .ok (.aload_n 0, 1) := by decide +kernel
theorem dX0_isNumber_1 : decode cX0_isNumber 1 = .ok (.getfield 55, 3) := by decide +kernel
theorem dX0_isNumber_4 : decode cX0_isNumber 4 = .ok (.iconst 2, 1) := by decide +kernel
theorem dX0_isNumber_5 : decode cX0_isNumber 5 = .ok (.if_icmp .eq 13, 3) := by decide +kernel
theorem dX0_isNumber_8 : decode cX0_isNumber 8 = .ok (.aload_n 0, 1) := by decide +kernel
theorem dX0_isNumber_9 : decode cX0_isNumber 9 = .ok (.iconst 2, 1) := by decide +kernel
theorem dX0_isNumber_10 : decode cX0_isNumber 10 = .ok (.aload_n 0, 1) := by decide +kernel
theorem dX0_isNumber_11 : decode cX0_isNumber 11 = .ok (.getfield 94, 3) := by decide +kernel
theorem dX0_isNumber_14 : decode cX0_isNumber 14 = .ok (.invokevirtual 67, 3) := by decide +kernel
theorem dX0_isNumber_17 : decode cX0_isNumber 17 = .ok (.ireturn, 1) := by decide +kernel
theorem dX0_isNumber_18 : decode cX0_isNumber 18 = .ok (.aload_n 0, 1) := by decide +kernel
theorem dX0_isNumber_19 : decode cX0_isNumber 19 = .ok (.getfield 100, 3) := by decide +kernel
theorem dX0_isNumber_22 : decode cX0_isNumber 22 = .ok (.iload_n 1, 1) := by decide +kernel
theorem dX0_isNumber_23 : decode cX0_isNumber 23 = .ok (.if_icmp .lt 11, 3) := by decide +kernel
theorem dX0_isNumber_26 : decode cX0_isNumber 26 = .ok (.aload_n 0, 1) := by decide +kernel
theorem dX0_isNumber_27 : decode cX0_isNumber 27 = .ok (.getfield 100, 3) := by decide +kernel
theorem dX0_isNumber_30 : decode cX0_isNumber 30 = .ok (.iload_n 2, 1) := by decide +kernel
theorem dX0_isNumber_31 : decode cX0_isNumber 31 = .ok (.if_icmp .le 15, 3) := by decide +kernel
theorem dX0_isNumber_34 : decode cX0_isNumber 34 = .ok (.aload_n 0, 1) := by decide +kernel
theorem dX0_isNumber_35 : decode cX0_isNumber 35 = .ok (.iconst 3, 1) := by decide +kernel
theorem dX0_isNumber_36 : decode cX0_isNumber 36 = .ok (.aload_n 0, 1) := by decide +kernel
theorem dX0_isNumber_37 : decode cX0_isNumber 37 = .ok (.getfield 94, 3) := by decide +kernel
theorem dX0_isNumber_40 : decode cX0_isNumber 40 = .ok (.invokevirtual 67, 3) := by decide +kernel
theorem dX0_isNumber_43 : decode cX0_isNumber 43 = .ok (.ifCond .eq 7, 3) := by decide +kernel
theorem dX0_isNumber_46 : decode cX0_isNumber 46 = .ok (.iconst 1, 1) := by decide +kernel
theorem dX0_isNumber_47 : decode cX0_isNumber 47 = .ok (.goto 4, 3) := by decide +kernel
theorem dX0_isNumber_50 : decode cX0_isNumber 50 = .ok (.iconst 0, 1) := by decide +kernel
theorem dX0_isNumber_51 : decode cX0_isNumber 51 = .ok (.ireturn, 1) := by decide +kernel
theorem dX0_readSign_0 : decode cX0_readSign 0 = .ok (.aload_n 0, 1) := by decide +kernel
theorem dX0_readSign_1 : decode cX0_readSign 1 = .ok (.invokevirtual 51, 3) := by decide +kernel
theorem dX0_readSign_4 : decode cX0_readSign 4 = .ok (.ifCond .eq 27, 3) := by decide +kernel
theorem dX0_readSign_7 : decode cX0_readSign 7 = .ok (.aload_n 0, 1) := by decide +kernel
theorem dX0_readSign_8 : decode cX0_readSign 8 = .ok (.getfield 55, 3) := by decide +kernel
theorem dX0_readSign_11 : decode cX0_readSign 11 = .ok (.iconst 3, 1) := by decide +kernel
theorem dX0_readSign_12 : decode cX0_readSign 12 = .ok (.if_icmp .eq 15, 3) := by decide +kernel
theorem dX0_readSign_15 : decode cX0_readSign 15 = .ok (.aload_n 0, 1) := by decide +kernel
theorem dX0_readSign_16 : decode cX0_readSign 16 = .ok (.iconst 2, 1) := by decide +kernel
theorem dX0_readSign_17 : decode cX0_readSign 17 = .ok (.aload_n 0, 1) := by decide +kernel
theorem dX0_readSign_18 : decode cX0_readSign 18 = .ok (.getfield 94, 3) := by decide +kernel
theorem dX0_readSign_21 : decode cX0_readSign 21 = .ok (.invokevirtual 67, 3) := by decide +kernel
theorem dX0_readSign_24 : decode cX0_readSign 24 = .ok (.ifCond .eq 7, 3) := by decide +kernel
theorem dX0_readSign_27 : decode cX0_readSign 27 = .ok (.iconst 1, 1) := by decide +kernel
theorem dX0_readSign_28 : decode cX0_readSign 28 = .ok (.goto 4, 3) := by decide +kernel
theorem dX0_readSign_31 : decode cX0_readSign 31 = .ok (.iconst 0, 1) := by decide +kernel
theorem dX0_readSign_32 : decode cX0_readSign 32 = .ok (.ireturn, 1) := by decide +kernel
theorem dX0_readBits_0 : decode cX0_readBits 0 = .ok (.iconst 0, 1) := by decide +kernel
theorem dX0_readBits_1 : decode cX0_readBits 1 = .ok (.istore_n 2, 1) := by decide +kernel
theorem dX0_readBits_2 : decode cX0_readBits 2 = .ok (.iconst 0, 1) := by decide +kernel
theorem dX0_readBits_3 : decode cX0_readBits 3 = .ok (.istore_n 3, 1) := by decide +kernel
theorem dX0_readBits_4 : decode cX0_readBits 4 = .ok (.iload_n 3, 1) := by decide +kernel
theorem dX0_readBits_5 : decode cX0_readBits 5 = .ok (.sipush 160, 3) := by decide +kernel
theorem dX0_readBits_8 : decode cX0_readBits 8 = .ok (.if_icmp .gt 68, 3) := by decide +kernel
theorem dX0_readBits_11 : decode cX0_readBits 11 = .ok (.aload_n 0, 1) := by decide +kernel
theorem dX0_readBits_12 : decode cX0_readBits 12 = .ok (.invokevirtual 51, 3) := by decide +kernel
theorem dX0_readBits_15 : decode cX0_readBits 15 = .ok (.ifCond .eq 61, 3) := by decide +kernel
theorem dX0_readBits_18 : decode cX0_readBits 18 = .ok (.aload_n 0, 1) := by decide +kernel
theorem dX0_readBits_19 : decode cX0_readBits 19 = .ok (.getfield 55, 3) := by decide +kernel
theorem dX0_readBits_22 : decode cX0_readBits 22 = .ok (.iconst 3, 1) := by decide +kernel
theorem dX0_readBits_23 : decode cX0_readBits 23 = .ok (.if_icmp .eq 53, 3) := by decide +kernel
theorem dX0_readBits_26 : decode cX0_readBits 26 = .ok (.aload_n 0, 1) := by decide +kernel
theorem dX0_readBits_27 : decode cX0_readBits 27 = .ok (.iconst 0, 1) := by decide +kernel
theorem dX0_readBits_28 : decode cX0_readBits 28 = .ok (.iload_n 1, 1) := by decide +kernel
theorem dX0_readBits_29 : decode cX0_readBits 29 = .ok (.invokevirtual 160, 3) := by decide +kernel
theorem dX0_readBits_32 : decode cX0_readBits 32 = .ok (.ifCond .ne 5, 3) := by decide +kernel
theorem dX0_readBits_35 : decode cX0_readBits 35 = .ok (.iconst 0, 1) := by decide +kernel
theorem dX0_readBits_36 : decode cX0_readBits 36 = .ok (.ireturn, 1) := by decide +kernel
theorem dX0_readBits_37 : decode cX0_readBits 37 = .ok (.iload_n 2, 1) := by decide +kernel
theorem dX0_readBits_38 : decode cX0_readBits 38 = .ok (.aload_n 0, 1) := by decide +kernel
theorem dX0_readBits_39 : decode cX0_readBits 39 = .ok (.getfield 100, 3) := by decide +kernel
theorem dX0_readBits_42 : decode cX0_readBits 42 = .ok (.ishr, 1) := by decide +kernel
theorem dX0_readBits_43 : decode cX0_readBits 43 = .ok (.iconst 1, 1) := by decide +kernel
theorem dX0_readBits_44 : decode cX0_readBits 44 = .ok (.iand, 1) := by decide +kernel
theorem dX0_readBits_45 : decode cX0_readBits 45 = .ok (.iconst 1, 1) := by decide +kernel
theorem dX0_readBits_46 : decode cX0_readBits 46 = .ok (.if_icmp .ne 15, 3) := by decide +kernel
theorem dX0_readBits_49 : decode cX0_readBits 49 = .ok (.aload_n 0, 1) := by decide +kernel
theorem dX0_readBits_50 : decode cX0_readBits 50 = .ok (.iconst 4, 1) := by decide +kernel
theorem dX0_readBits_51 : decode cX0_readBits 51 = .ok (.aload_n 0, 1) := by decide +kernel
theorem dX0_readBits_52 : decode cX0_readBits 52 = .ok (.getfield 94, 3) := by decide +kernel
theorem dX0_readBits_55 : decode cX0_readBits 55 = .ok (.invokevirtual 67, 3) := by decide +kernel
theorem dX0_readBits_58 : decode cX0_readBits 58 = .ok (.pop, 1) := by decide +kernel
theorem dX0_readBits_59 : decode cX0_readBits 59 = .ok (.iconst 0, 1) := by decide +kernel
theorem dX0_readBits_60 : decode cX0_readBits 60 = .ok (.ireturn, 1) := by decide +kernel
theorem dX0_readBits_61 : decode cX0_readBits 61 = .ok (.iload_n 2, 1) := by decide +kernel
theorem dX0_readBits_62 : decode cX0_readBits 62 = .ok (.iconst 1, 1) := by decide +kernel
theorem dX0_readBits_63 : decode cX0_readBits 63 = .ok (.aload_n 0, 1) := by decide +kernel
theorem dX0_readBits_64 : decode cX0_readBits 64 = .ok (.getfield 100, 3) := by decide +kernel
theorem dX0_readBits_67 : decode cX0_readBits 67 = .ok (.ishl, 1) := by decide +kernel
theorem dX0_readBits_68 : decode cX0_readBits 68 = .ok (.ior, 1) := by decide +kernel
theorem dX0_readBits_69 : decode cX0_readBits 69 = .ok (.istore_n 2, 1) := by decide +kernel
theorem dX0_readBits_70 : decode cX0_readBits 70 = .ok (.iinc 3 1, 3) := by decide +kernel
theorem dX0_readBits_73 : decode cX0_readBits 73 = .ok (.goto (-69), 3) := by decide +kernel
theorem dX0_readBits_76 : decode cX0_readBits 76 = .ok (.iload_n 2, 1) := by decide +kernel
theorem dX0_readBits_77 : decode cX0_readBits 77 = .ok (.ireturn, 1) := by decide +kernel
theorem dX0_readToken_0 : decode cX0_readToken 0 = .ok (.aload_n 0, 1) := by decide +kernel
theorem dX0_readToken_1 : decode cX0_readToken 1 = .ok (.getfield 35, 3) := by decide +kernel
theorem dX0_readToken_4 : decode cX0_readToken 4 = .ok (.aload_n 0, 1) := by decide +kernel
theorem dX0_readToken_5 : decode cX0_readToken 5 = .ok (.getfield 15, 3) := by decide +kernel
theorem dX0_readToken_8 : decode cX0_readToken 8 = .ok (.if_icmp .ge 30, 3) := by decide +kernel
theorem dX0_readToken_11 : decode cX0_readToken 11 = .ok (.aload_n 0, 1) := by decide +kernel
theorem dX0_readToken_12 : decode cX0_readToken 12 = .ok (.getfield 9, 3) := by decide +kernel
theorem dX0_readToken_15 : decode cX0_readToken 15 = .ok (.aload_n 0, 1) := by decide +kernel
theorem dX0_readToken_16 : decode cX0_readToken 16 = .ok (.getfield 35, 3) := by decide +kernel
theorem dX0_readToken_19 : decode cX0_readToken 19 = .ok (.baload, 1) := by decide +kernel
theorem dX0_readToken_20 : decode cX0_readToken 20 = .ok (.bipush 32, 2) := by decide +kernel
theorem dX0_readToken_22 : decode cX0_readToken 22 = .ok (.if_icmp .ne 16, 3) := by decide +kernel
theorem dX0_readToken_25 : decode cX0_readToken 25 = .ok (.aload_n 0, 1) := by decide +kernel
theorem dX0_readToken_26 : decode cX0_readToken 26 = .ok (.dup, 1) := by decide +kernel
theorem dX0_readToken_27 : decode cX0_readToken 27 = .ok (.getfield 35, 3) := by decide +kernel
theorem dX0_readToken_30 : decode cX0_readToken 30 = .ok (.iconst 1, 1) := by decide +kernel
theorem dX0_readToken_31 : decode cX0_readToken 31 = .ok (.iadd, 1) := by decide +kernel
theorem dX0_readToken_32 : decode cX0_readToken 32 = .ok (.putfield 35, 3) := by decide +kernel
theorem dX0_readToken_35 : decode cX0_readToken 35 = .ok (.goto (-35), 3) := by decide +kernel
theorem dX0_readToken_38 : decode cX0_readToken 38 = .ok (.aload_n 0, 1) := by decide +kernel
theorem dX0_readToken_39 : decode cX0_readToken 39 = .ok (.aload_n 0, 1) := by decide +kernel
theorem dX0_readToken_40 : decode cX0_readToken 40 = .ok (.getfield 35, 3) := by decide +kernel
theorem dX0_readToken_43 : decode cX0_readToken 43 = .ok (.putfield 94, 3) := by decide +kernel
theorem dX0_readToken_46 : decode cX0_readToken 46 = .ok (.aload_n 0, 1) := by decide +kernel
theorem dX0_readToken_47 : decode cX0_readToken 47 = .ok (.getfield 35, 3) := by decide +kernel
theorem dX0_readToken_50 : decode cX0_readToken 50 = .ok (.aload_n 0, 1) := by decide +kernel
theorem dX0_readToken_51 : decode cX0_readToken 51 = .ok (.getfield 15, 3) := by decide +kernel
theorem dX0_readToken_54 : decode cX0_readToken 54 = .ok (.if_icmp .lt 10, 3) := by decide +kernel
theorem dX0_readToken_57 : decode cX0_readToken 57 = .ok (.aload_n 0, 1) := by decide +kernel
theorem dX0_readToken_58 : decode cX0_readToken 58 = .ok (.iconst 0, 1) := by decide +kernel
theorem dX0_readToken_59 : decode cX0_readToken 59 = .ok (.putfield 55, 3) := by decide +kernel
theorem dX0_readToken_62 : decode cX0_readToken 62 = .ok (.iconst 1, 1) := by decide +kernel
theorem dX0_readToken_63 : decode cX0_readToken 63 = .ok (.ireturn, 1) := by decide +kernel
theorem dX0_readToken_64 : decode cX0_readToken 64 = .ok (.aload_n 0, 1) := by decide +kernel
theorem dX0_readToken_65 : decode cX0_readToken 65 = .ok (.getfield 9, 3) := by decide +kernel
theorem dX0_readToken_68 : decode cX0_readToken 68 = .ok (.aload_n 0, 1) := by decide +kernel
theorem dX0_readToken_69 : decode cX0_readToken 69 = .ok (.getfield 35, 3) := by decide +kernel
theorem dX0_readToken_72 : decode cX0_readToken 72 = .ok (.baload, 1) := by decide +kernel
theorem dX0_readToken_73 : decode cX0_readToken 73 = .ok (.bipush 59, 2) := by decide +kernel
theorem dX0_readToken_75 : decode cX0_readToken 75 = .ok (.if_icmp .ne 20, 3) := by decide +kernel
theorem dX0_readToken_78 : decode cX0_readToken 78 = .ok (.aload_n 0, 1) := by decide +kernel
theorem dX0_readToken_79 : decode cX0_readToken 79 = .ok (.iconst 3, 1) := by decide +kernel
theorem dX0_readToken_80 : decode cX0_readToken 80 = .ok (.putfield 55, 3) := by decide +kernel
theorem dX0_readToken_83 : decode cX0_readToken 83 = .ok (.aload_n 0, 1) := by decide +kernel
theorem dX0_readToken_84 : decode cX0_readToken 84 = .ok (.dup, 1) := by decide +kernel
theorem dX0_readToken_85 : decode cX0_readToken 85 = .ok (.getfield 35, 3) := by decide +kernel
theorem dX0_readToken_88 : decode cX0_readToken 88 = .ok (.iconst 1, 1) := by decide +kernel
theorem dX0_readToken_89 : decode cX0_readToken 89 = .ok (.iadd, 1) := by decide +kernel
theorem dX0_readToken_90 : decode cX0_readToken 90 = .ok (.putfield 35, 3) := by decide +kernel
theorem dX0_readToken_93 : decode cX0_readToken 93 = .ok (.iconst 1, 1) := by decide +kernel
theorem dX0_readToken_94 : decode cX0_readToken 94 = .ok (.ireturn, 1) := by decide +kernel
theorem dX0_readToken_95 : decode cX0_readToken 95 = .ok (.aload_n 0, 1) := by decide +kernel
theorem dX0_readToken_96 : decode cX0_readToken 96 = .ok (.aload_n 0, 1) := by decide +kernel
theorem dX0_readToken_97 : decode cX0_readToken 97 = .ok (.bipush 97, 2) := by decide +kernel
theorem dX0_readToken_99 : decode cX0_readToken 99 = .ok (.bipush 122, 2) := by decide +kernel
theorem dX0_readToken_101 : decode cX0_readToken 101 = .ok (.invokevirtual 163, 3) := by decide +kernel
theorem dX0_readToken_104 : decode cX0_readToken 104 = .ok (.putfield 35, 3) := by decide +kernel
theorem dX0_readToken_107 : decode cX0_readToken 107 = .ok (.aload_n 0, 1) := by decide +kernel
theorem dX0_readToken_108 : decode cX0_readToken 108 = .ok (.getfield 35, 3) := by decide +kernel
theorem dX0_readToken_111 : decode cX0_readToken 111 = .ok (.aload_n 0, 1) := by decide +kernel
theorem dX0_readToken_112 : decode cX0_readToken 112 = .ok (.getfield 94, 3) := by decide +kernel
theorem dX0_readToken_115 : decode cX0_readToken 115 = .ok (.if_icmp .le 10, 3) := by decide +kernel
theorem dX0_readToken_118 : decode cX0_readToken 118 = .ok (.aload_n 0, 1) := by decide +kernel
theorem dX0_readToken_119 : decode cX0_readToken 119 = .ok (.iconst 1, 1) := by decide +kernel
theorem dX0_readToken_120 : decode cX0_readToken 120 = .ok (.putfield 55, 3) := by decide +kernel
theorem dX0_readToken_123 : decode cX0_readToken 123 = .ok (.iconst 1, 1) := by decide +kernel
theorem dX0_readToken_124 : decode cX0_readToken 124 = .ok (.ireturn, 1) := by decide +kernel
theorem dX0_readToken_125 : decode cX0_readToken 125 = .ok (.aload_n 0, 1) := by decide +kernel
theorem dX0_readToken_126 : decode cX0_readToken 126 = .ok (.aload_n 0, 1) := by decide +kernel
theorem dX0_readToken_127 : decode cX0_readToken 127 = .ok (.bipush 48, 2) := by decide +kernel
theorem dX0_readToken_129 : decode cX0_readToken 129 = .ok (.bipush 57, 2) := by decide +kernel
theorem dX0_readToken_131 : decode cX0_readToken 131 = .ok (.invokevirtual 163, 3) := by decide +kernel
theorem dX0_readToken_134 : decode cX0_readToken 134 = .ok (.putfield 35, 3) := by decide +kernel
theorem dX0_readToken_137 : decode cX0_readToken 137 = .ok (.aload_n 0, 1) := by decide +kernel
theorem dX0_readToken_138 : decode cX0_readToken 138 = .ok (.iconst 2, 1) := by decide +kernel
theorem dX0_readToken_139 : decode cX0_readToken 139 = .ok (.putfield 55, 3) := by decide +kernel
theorem dX0_readToken_142 : decode cX0_readToken 142 = .ok (.aload_n 0, 1) := by decide +kernel
theorem dX0_readToken_143 : decode cX0_readToken 143 = .ok (.getfield 35, 3) := by decide +kernel
theorem dX0_readToken_146 : decode cX0_readToken 146 = .ok (.aload_n 0, 1) := by decide +kernel
theorem dX0_readToken_147 : decode cX0_readToken 147 = .ok (.getfield 94, 3) := by decide +kernel
theorem dX0_readToken_150 : decode cX0_readToken 150 = .ok (.isub, 1) := by decide +kernel
theorem dX0_readToken_151 : decode cX0_readToken 151 = .ok (.istore_n 1, 1) := by decide +kernel
theorem dX0_readToken_152 : decode cX0_readToken 152 = .ok (.iload_n 1, 1) := by decide +kernel
theorem dX0_readToken_153 : decode cX0_readToken 153 = .ok (.iconst 1, 1) := by decide +kernel
theorem dX0_readToken_154 : decode cX0_readToken 154 = .ok (.if_icmp .lt 8, 3) := by decide +kernel
theorem dX0_readToken_157 : decode cX0_readToken 157 = .ok (.iload_n 1, 1) := by decide +kernel
theorem dX0_readToken_158 : decode cX0_readToken 158 = .ok (.iconst 2, 1) := by decide +kernel
theorem dX0_readToken_159 : decode cX0_readToken 159 = .ok (.if_icmp .le 13, 3) := by decide +kernel
theorem dX0_readToken_162 : decode cX0_readToken 162 = .ok (.aload_n 0, 1) := by decide +kernel
theorem dX0_readToken_163 : decode cX0_readToken 163 = .ok (.iconst 1, 1) := by decide +kernel
theorem dX0_readToken_164 : decode cX0_readToken 164 = .ok (.aload_n 0, 1) := by decide +kernel
theorem dX0_readToken_165 : decode cX0_readToken 165 = .ok (.getfield 94, 3) := by decide +kernel
theorem dX0_readToken_168 : decode cX0_readToken 168 = .ok (.invokevirtual 67, 3) := by decide +kernel
theorem dX0_readToken_171 : decode cX0_readToken 171 = .ok (.ireturn, 1) := by decide +kernel
theorem dX0_readToken_172 : decode cX0_readToken 172 = .ok (.aload_n 0, 1) := by decide +kernel
theorem dX0_readToken_173 : decode cX0_readToken 173 = .ok (.aload_n 0, 1) := by decide +kernel
theorem dX0_readToken_174 : decode cX0_readToken 174 = .ok (.getfield 9, 3) := by decide +kernel
theorem dX0_readToken_177 : decode cX0_readToken 177 = .ok (.aload_n 0, 1) := by decide +kernel
theorem dX0_readToken_178 : decode cX0_readToken 178 = .ok (.getfield 94, 3) := by decide +kernel
theorem dX0_readToken_181 : decode cX0_readToken 181 = .ok (.baload, 1) := by decide +kernel
theorem dX0_readToken_182 : decode cX0_readToken 182 = .ok (.bipush 48, 2) := by decide +kernel
theorem dX0_readToken_184 : decode cX0_readToken 184 = .ok (.isub, 1) := by decide +kernel
theorem dX0_readToken_185 : decode cX0_readToken 185 = .ok (.putfield 100, 3) := by decide +kernel
theorem dX0_readToken_188 : decode cX0_readToken 188 = .ok (.iload_n 1, 1) := by decide +kernel
theorem dX0_readToken_189 : decode cX0_readToken 189 = .ok (.iconst 2, 1) := by decide +kernel
theorem dX0_readToken_190 : decode cX0_readToken 190 = .ok (.if_icmp .ne 29, 3) := by decide +kernel
theorem dX0_readToken_193 : decode cX0_readToken 193 = .ok (.aload_n 0, 1) := by decide +kernel
theorem dX0_readToken_194 : decode cX0_readToken 194 = .ok (.bipush 10, 2) := by decide +kernel
theorem dX0_readToken_196 : decode cX0_readToken 196 = .ok (.aload_n 0, 1) := by decide +kernel
theorem dX0_readToken_197 : decode cX0_readToken 197 = .ok (.getfield 100, 3) := by decide +kernel
theorem dX0_readToken_200 : decode cX0_readToken 200 = .ok (.imul, 1) := by decide +kernel
theorem dX0_readToken_201 : decode cX0_readToken 201 = .ok (.aload_n 0, 1) := by decide +kernel
theorem dX0_readToken_202 : decode cX0_readToken 202 = .ok (.getfield 9, 3) := by decide +kernel
theorem dX0_readToken_205 : decode cX0_readToken 205 = .ok (.aload_n 0, 1) := by decide +kernel
theorem dX0_readToken_206 : decode cX0_readToken 206 = .ok (.getfield 94, 3) := by decide +kernel
theorem dX0_readToken_209 : decode cX0_readToken 209 = .ok (.iconst 1, 1) := by decide +kernel
theorem dX0_readToken_210 : decode cX0_readToken 210 = .ok (.iadd, 1) := by decide +kernel
theorem dX0_readToken_211 : decode cX0_readToken 211 = .ok (.baload, 1) := by decide +kernel
theorem dX0_readToken_212 : decode cX0_readToken 212 = .ok (.iadd, 1) := by decide +kernel
theorem dX0_readToken_213 : decode cX0_readToken 213 = .ok (.bipush 48, 2) := by decide +kernel
theorem dX0_readToken_215 : decode cX0_readToken 215 = .ok (.isub, 1) := by decide +kernel
theorem dX0_readToken_216 : decode cX0_readToken 216 = .ok (.putfield 100, 3) := by decide +kernel
theorem dX0_readToken_219 : decode cX0_readToken 219 = .ok (.iconst 1, 1) := by decide +kernel
theorem dX0_readToken_220 : decode cX0_readToken 220 = .ok (.ireturn, 1) := by decide +kernel
theorem dX0_runEnd_0 : decode cX0_runEnd 0 = .ok (.aload_n 0, 1) := by decide +kernel
theorem dX0_runEnd_1 : decode cX0_runEnd 1 = .ok (.getfield 35, 3) := by decide +kernel
theorem dX0_runEnd_4 : decode cX0_runEnd 4 = .ok (.istore_n 3, 1) := by decide +kernel
theorem dX0_runEnd_5 : decode cX0_runEnd 5 = .ok (.iload_n 3, 1) := by decide +kernel
theorem dX0_runEnd_6 : decode cX0_runEnd 6 = .ok (.aload_n 0, 1) := by decide +kernel
theorem dX0_runEnd_7 : decode cX0_runEnd 7 = .ok (.getfield 15, 3) := by decide +kernel
theorem dX0_runEnd_10 : decode cX0_runEnd 10 = .ok (.if_icmp .ge 29, 3) := by decide +kernel
theorem dX0_runEnd_13 : decode cX0_runEnd 13 = .ok (.aload_n 0, 1) := by decide +kernel
theorem dX0_runEnd_14 : decode cX0_runEnd 14 = .ok (.getfield 9, 3) := by decide +kernel
theorem dX0_runEnd_17 : decode cX0_runEnd 17 = .ok (.iload_n 3, 1) := by decide +kernel
theorem dX0_runEnd_18 : decode cX0_runEnd 18 = .ok (.baload, 1) := by decide +kernel
theorem dX0_runEnd_19 : decode cX0_runEnd 19 = .ok (.iload_n 1, 1) := by decide +kernel
theorem dX0_runEnd_20 : decode cX0_runEnd 20 = .ok (.if_icmp .lt 19, 3) := by decide +kernel
theorem dX0_runEnd_23 : decode cX0_runEnd 23 = .ok (.aload_n 0, 1) := by decide +kernel
theorem dX0_runEnd_24 : decode cX0_runEnd 24 = .ok (.getfield 9, 3) := by decide +kernel
theorem dX0_runEnd_27 : decode cX0_runEnd 27 = .ok (.iload_n 3, 1) := by decide +kernel
theorem dX0_runEnd_28 : decode cX0_runEnd 28 = .ok (.baload, 1) := by decide +kernel
theorem dX0_runEnd_29 : decode cX0_runEnd 29 = .ok (.iload_n 2, 1) := by decide +kernel
theorem dX0_runEnd_30 : decode cX0_runEnd 30 = .ok (.if_icmp .gt 9, 3) := by decide +kernel
theorem dX0_runEnd_33 : decode cX0_runEnd 33 = .ok (.iinc 3 1, 3) := by decide +kernel
theorem dX0_runEnd_36 : decode cX0_runEnd 36 = .ok (.goto (-31), 3) := by decide +kernel
theorem dX0_runEnd_39 : decode cX0_runEnd 39 = .ok (.iload_n 3, 1) := by decide +kernel
theorem dX0_runEnd_40 : decode cX0_runEnd 40 = .ok (.ireturn, 1) := by decide +kernel
theorem dX0_lineBegun_0 : decode cX0_lineBegun 0 = .ok (.iconst 0, 1) := by decide +kernel
theorem dX0_lineBegun_1 : decode cX0_lineBegun 1 = .ok (.istore_n 1, 1) := by decide +kernel
theorem dX0_lineBegun_2 : decode cX0_lineBegun 2 = .ok (.iload_n 1, 1) := by decide +kernel
theorem dX0_lineBegun_3 : decode cX0_lineBegun 3 = .ok (.bipush 9, 2) := by decide +kernel
theorem dX0_lineBegun_5 : decode cX0_lineBegun 5 = .ok (.if_icmp .ge 22, 3) := by decide +kernel
theorem dX0_lineBegun_8 : decode cX0_lineBegun 8 = .ok (.aload_n 0, 1) := by decide +kernel
theorem dX0_lineBegun_9 : decode cX0_lineBegun 9 = .ok (.iload_n 1, 1) := by decide +kernel
theorem dX0_lineBegun_10 : decode cX0_lineBegun 10 = .ok (.invokestatic 167, 3) := by decide +kernel
theorem dX0_lineBegun_13 : decode cX0_lineBegun 13 = .ok (.invokevirtual 171, 3) := by decide +kernel
theorem dX0_lineBegun_16 : decode cX0_lineBegun 16 = .ok (.ifCond .eq 5, 3) := by decide +kernel
theorem dX0_lineBegun_19 : decode cX0_lineBegun 19 = .ok (.iload_n 1, 1) := by decide +kernel
theorem dX0_lineBegun_20 : decode cX0_lineBegun 20 = .ok (.ireturn, 1) := by decide +kernel
theorem dX0_lineBegun_21 : decode cX0_lineBegun 21 = .ok (.iinc 1 1, 3) := by decide +kernel
theorem dX0_lineBegun_24 : decode cX0_lineBegun 24 = .ok (.goto (-22), 3) := by decide +kernel
theorem dX0_lineBegun_27 : decode cX0_lineBegun 27 = .ok (.bipush (-4), 2) := by decide +kernel
theorem dX0_lineBegun_29 : decode cX0_lineBegun 29 = .ok (.ireturn, 1) := by decide +kernel
theorem dX0_isName_0 : decode cX0_isName 0 = .ok (.aload_n 0, 1) := by decide +kernel
theorem dX0_isName_1 : decode cX0_isName 1 = .ok (.getfield 35, 3) := by decide +kernel
theorem dX0_isName_4 : decode cX0_isName 4 = .ok (.aload_n 0, 1) := by decide +kernel
theorem dX0_isName_5 : decode cX0_isName 5 = .ok (.getfield 94, 3) := by decide +kernel
theorem dX0_isName_8 : decode cX0_isName 8 = .ok (.isub, 1) := by decide +kernel
theorem dX0_isName_9 : decode cX0_isName 9 = .ok (.istore_n 2, 1) := by decide +kernel
theorem dX0_isName_10 : decode cX0_isName 10 = .ok (.aload_n 1, 1) := by decide +kernel
theorem dX0_isName_11 : decode cX0_isName 11 = .ok (.invokevirtual 175, 3) := by decide +kernel
theorem dX0_isName_14 : decode cX0_isName 14 = .ok (.iload_n 2, 1) := by decide +kernel
theorem dX0_isName_15 : decode cX0_isName 15 = .ok (.if_icmp .eq 5, 3) := by decide +kernel
theorem dX0_isName_18 : decode cX0_isName 18 = .ok (.iconst 0, 1) := by decide +kernel
theorem dX0_isName_19 : decode cX0_isName 19 = .ok (.ireturn, 1) := by decide +kernel
theorem dX0_isName_20 : decode cX0_isName 20 = .ok (.iconst 0, 1) := by decide +kernel
theorem dX0_isName_21 : decode cX0_isName 21 = .ok (.istore_n 3, 1) := by decide +kernel
theorem dX0_isName_22 : decode cX0_isName 22 = .ok (.iload_n 3, 1) := by decide +kernel
theorem dX0_isName_23 : decode cX0_isName 23 = .ok (.iload_n 2, 1) := by decide +kernel
theorem dX0_isName_24 : decode cX0_isName 24 = .ok (.if_icmp .ge 30, 3) := by decide +kernel
theorem dX0_isName_27 : decode cX0_isName 27 = .ok (.aload_n 1, 1) := by decide +kernel
theorem dX0_isName_28 : decode cX0_isName 28 = .ok (.iload_n 3, 1) := by decide +kernel
theorem dX0_isName_29 : decode cX0_isName 29 = .ok (.invokevirtual 179, 3) := by decide +kernel
theorem dX0_isName_32 : decode cX0_isName 32 = .ok (.aload_n 0, 1) := by decide +kernel
theorem dX0_isName_33 : decode cX0_isName 33 = .ok (.getfield 9, 3) := by decide +kernel
theorem dX0_isName_36 : decode cX0_isName 36 = .ok (.aload_n 0, 1) := by decide +kernel
theorem dX0_isName_37 : decode cX0_isName 37 = .ok (.getfield 94, 3) := by decide +kernel
theorem dX0_isName_40 : decode cX0_isName 40 = .ok (.iload_n 3, 1) := by decide +kernel
theorem dX0_isName_41 : decode cX0_isName 41 = .ok (.iadd, 1) := by decide +kernel
theorem dX0_isName_42 : decode cX0_isName 42 = .ok (.baload, 1) := by decide +kernel
theorem dX0_isName_43 : decode cX0_isName 43 = .ok (.if_icmp .eq 5, 3) := by decide +kernel
theorem dX0_isName_46 : decode cX0_isName 46 = .ok (.iconst 0, 1) := by decide +kernel
theorem dX0_isName_47 : decode cX0_isName 47 = .ok (.ireturn, 1) := by decide +kernel
theorem dX0_isName_48 : decode cX0_isName 48 = .ok (.iinc 3 1, 3) := by decide +kernel
theorem dX0_isName_51 : decode cX0_isName 51 = .ok (.goto (-29), 3) := by decide +kernel
theorem dX0_isName_54 : decode cX0_isName 54 = .ok (.iconst 1, 1) := by decide +kernel
theorem dX0_isName_55 : decode cX0_isName 55 = .ok (.ireturn, 1) := by decide +kernel
theorem dX0_nameOf_0 : decode cX0_nameOf 0 = .ok (.iload_n 0, 1) := by decide +kernel
theorem dX0_nameOf_1 : decode cX0_nameOf 1 = .ok (.tableswitch 71 0 7 #[47, 50, 53, 56, 59, 62, 65, 68], 47) := by decide +kernel
theorem dX0_nameOf_48 : decode cX0_nameOf 48 = .ok (.ldc 183, 2) := by decide +kernel
theorem dX0_nameOf_50 : decode cX0_nameOf 50 = .ok (.areturn, 1) := by decide +kernel
theorem dX0_nameOf_51 : decode cX0_nameOf 51 = .ok (.ldc 185, 2) := by decide +kernel
theorem dX0_nameOf_53 : decode cX0_nameOf 53 = .ok (.areturn, 1) := by decide +kernel
theorem dX0_nameOf_54 : decode cX0_nameOf 54 = .ok (.ldc 187, 2) := by decide +kernel
theorem dX0_nameOf_56 : decode cX0_nameOf 56 = .ok (.areturn, 1) := by decide +kernel
theorem dX0_nameOf_57 : decode cX0_nameOf 57 = .ok (.ldc 189, 2) := by decide +kernel
theorem dX0_nameOf_59 : decode cX0_nameOf 59 = .ok (.areturn, 1) := by decide +kernel
theorem dX0_nameOf_60 : decode cX0_nameOf 60 = .ok (.ldc 191, 2) := by decide +kernel
theorem dX0_nameOf_62 : decode cX0_nameOf 62 = .ok (.areturn, 1) := by decide +kernel
theorem dX0_nameOf_63 : decode cX0_nameOf 63 = .ok (.ldc 192, 2) := by decide +kernel
theorem dX0_nameOf_65 : decode cX0_nameOf 65 = .ok (.areturn, 1) := by decide +kernel
theorem dX0_nameOf_66 : decode cX0_nameOf 66 = .ok (.ldc 194, 2) := by decide +kernel
theorem dX0_nameOf_68 : decode cX0_nameOf 68 = .ok (.areturn, 1) := by decide +kernel
theorem dX0_nameOf_69 : decode cX0_nameOf 69 = .ok (.ldc 196, 2) := by decide +kernel
theorem dX0_nameOf_71 : decode cX0_nameOf 71 = .ok (.areturn, 1) := by decide +kernel
theorem dX0_nameOf_72 : decode cX0_nameOf 72 = .ok (.ldc 198, 2) := by decide +kernel
theorem dX0_nameOf_74 : decode cX0_nameOf 74 = .ok (.areturn, 1) := by decide +kernel
theorem dX1_init_0 : decode cX1_init 0 = .ok (.aload_n 0, 1) := by decide +kernel
theorem dX1_init_1 : decode cX1_init 1 = .ok (.invokespecial 3, 3) := by decide +kernel
theorem dX1_init_4 : decode cX1_init 4 = .ok (.aload_n 0, 1) := by decide +kernel
theorem dX1_init_5 : decode cX1_init 5 = .ok (.iconst 0, 1) := by decide +kernel
theorem dX1_init_6 : decode cX1_init 6 = .ok (.putfield 9, 3) := by decide +kernel
theorem dX1_init_9 : decode cX1_init 9 = .ok (.aload_n 0, 1) := by decide +kernel
theorem dX1_init_10 : decode cX1_init 10 = .ok (.bipush 6, 2) := by decide +kernel
theorem dX1_init_12 : decode cX1_init 12 = .ok (.newarray .int, 2) := by decide +kernel
theorem dX1_init_14 : decode cX1_init 14 = .ok (.putfield 15, 3) := by decide +kernel
theorem dX1_init_17 : decode cX1_init 17 = .ok (.aload_n 0, 1) := by decide +kernel
theorem dX1_init_18 : decode cX1_init 18 = .ok (.bipush 6, 2) := by decide +kernel
theorem dX1_init_20 : decode cX1_init 20 = .ok (.newarray .int, 2) := by decide +kernel
theorem dX1_init_22 : decode cX1_init 22 = .ok (.putfield 19, 3) := by decide +kernel
theorem dX1_init_25 : decode cX1_init 25 = .ok (.aload_n 0, 1) := by decide +kernel
theorem dX1_init_26 : decode cX1_init 26 = .ok (.bipush 6, 2) := by decide +kernel
theorem dX1_init_28 : decode cX1_init 28 = .ok (.newarray .boolean, 2) := by decide +kernel
theorem dX1_init_30 : decode cX1_init 30 = .ok (.putfield 22, 3) := by decide +kernel
theorem dX1_init_33 : decode cX1_init 33 = .ok (.return_, 1) := by decide +kernel
theorem dX1_add_0 : decode cX1_add 0 = .ok (.aload_n 0, 1) := by decide +kernel
theorem dX1_add_1 : decode cX1_add 1 = .ok (.getfield 9, 3) := by decide +kernel
theorem dX1_add_4 : decode cX1_add 4 = .ok (.bipush 6, 2) := by decide +kernel
theorem dX1_add_6 : decode cX1_add 6 = .ok (.if_icmp .lt 5, 3) := by decide +kernel
theorem dX1_add_9 : decode cX1_add 9 = .ok (.iconst 0, 1) := by decide +kernel
theorem dX1_add_10 : decode cX1_add 10 = .ok (.ireturn, 1) := by decide +kernel
theorem dX1_add_11 : decode cX1_add 11 = .ok (.aload_n 0, 1) := by decide +kernel
theorem dX1_add_12 : decode cX1_add 12 = .ok (.getfield 15, 3) := by decide +kernel
theorem dX1_add_15 : decode cX1_add 15 = .ok (.aload_n 0, 1) := by decide +kernel
theorem dX1_add_16 : decode cX1_add 16 = .ok (.getfield 9, 3) := by decide +kernel
theorem dX1_add_19 : decode cX1_add 19 = .ok (.iload_n 1, 1) := by decide +kernel
theorem dX1_add_20 : decode cX1_add 20 = .ok (.iastore, 1) := by decide +kernel
theorem dX1_add_21 : decode cX1_add 21 = .ok (.aload_n 0, 1) := by decide +kernel
theorem dX1_add_22 : decode cX1_add 22 = .ok (.getfield 19, 3) := by decide +kernel
theorem dX1_add_25 : decode cX1_add 25 = .ok (.aload_n 0, 1) := by decide +kernel
theorem dX1_add_26 : decode cX1_add 26 = .ok (.getfield 9, 3) := by decide +kernel
theorem dX1_add_29 : decode cX1_add 29 = .ok (.iload_n 2, 1) := by decide +kernel
theorem dX1_add_30 : decode cX1_add 30 = .ok (.iastore, 1) := by decide +kernel
theorem dX1_add_31 : decode cX1_add 31 = .ok (.aload_n 0, 1) := by decide +kernel
theorem dX1_add_32 : decode cX1_add 32 = .ok (.getfield 22, 3) := by decide +kernel
theorem dX1_add_35 : decode cX1_add 35 = .ok (.aload_n 0, 1) := by decide +kernel
theorem dX1_add_36 : decode cX1_add 36 = .ok (.getfield 9, 3) := by decide +kernel
theorem dX1_add_39 : decode cX1_add 39 = .ok (.iload_n 3, 1) := by decide +kernel
theorem dX1_add_40 : decode cX1_add 40 = .ok (.bastore, 1) := by decide +kernel
theorem dX1_add_41 : decode cX1_add 41 = .ok (.aload_n 0, 1) := by decide +kernel
theorem dX1_add_42 : decode cX1_add 42 = .ok (.dup, 1) := by decide +kernel
theorem dX1_add_43 : decode cX1_add 43 = .ok (.getfield 9, 3) := by decide +kernel
theorem dX1_add_46 : decode cX1_add 46 = .ok (.iconst 1, 1) := by decide +kernel
theorem dX1_add_47 : decode cX1_add 47 = .ok (.iadd, 1) := by decide +kernel
theorem dX1_add_48 : decode cX1_add 48 = .ok (.putfield 9, 3) := by decide +kernel
theorem dX1_add_51 : decode cX1_add 51 = .ok (.iconst 1, 1) := by decide +kernel
theorem dX1_add_52 : decode cX1_add 52 = .ok (.ireturn, 1) := by decide +kernel
theorem dX2_init_0 : decode cX2_init 0 = .ok (.aload_n 0, 1) := by decide +kernel
theorem dX2_init_1 : decode cX2_init 1 = .ok (.invokespecial 3, 3) := by decide +kernel
theorem dX2_init_4 : decode cX2_init 4 = .ok (.aload_n 0, 1) := by decide +kernel
theorem dX2_init_5 : decode cX2_init 5 = .ok (.iconst 0, 1) := by decide +kernel
theorem dX2_init_6 : decode cX2_init 6 = .ok (.putfield 9, 3) := by decide +kernel
theorem dX2_init_9 : decode cX2_init 9 = .ok (.aload_n 0, 1) := by decide +kernel
theorem dX2_init_10 : decode cX2_init 10 = .ok (.iconst (-1), 1) := by decide +kernel
theorem dX2_init_11 : decode cX2_init 11 = .ok (.putfield 15, 3) := by decide +kernel
theorem dX2_init_14 : decode cX2_init 14 = .ok (.aload_n 0, 1) := by decide +kernel
theorem dX2_init_15 : decode cX2_init 15 = .ok (.bipush 40, 2) := by decide +kernel
theorem dX2_init_17 : decode cX2_init 17 = .ok (.newarray .int, 2) := by decide +kernel
theorem dX2_init_19 : decode cX2_init 19 = .ok (.putfield 18, 3) := by decide +kernel
theorem dX2_init_22 : decode cX2_init 22 = .ok (.return_, 1) := by decide +kernel
theorem dX2_renew_0 : decode cX2_renew 0 = .ok (.aload_n 0, 1) := by decide +kernel
theorem dX2_renew_1 : decode cX2_renew 1 = .ok (.iload_n 1, 1) := by decide +kernel
theorem dX2_renew_2 : decode cX2_renew 2 = .ok (.putfield 9, 3) := by decide +kernel
theorem dX2_renew_5 : decode cX2_renew 5 = .ok (.aload_n 0, 1) := by decide +kernel
theorem dX2_renew_6 : decode cX2_renew 6 = .ok (.iload_n 2, 1) := by decide +kernel
theorem dX2_renew_7 : decode cX2_renew 7 = .ok (.putfield 15, 3) := by decide +kernel
theorem dX2_renew_10 : decode cX2_renew 10 = .ok (.aload_n 0, 1) := by decide +kernel
theorem dX2_renew_11 : decode cX2_renew 11 = .ok (.getfield 18, 3) := by decide +kernel
theorem dX2_renew_14 : decode cX2_renew 14 = .ok (.iconst 0, 1) := by decide +kernel
theorem dX2_renew_15 : decode cX2_renew 15 = .ok (.invokestatic 22, 3) := by decide +kernel
theorem dX2_renew_18 : decode cX2_renew 18 = .ok (.return_, 1) := by decide +kernel
theorem dX2_isThere_0 : decode cX2_isThere 0 = .ok (.aload_n 0, 1) := by decide +kernel
theorem dX2_isThere_1 : decode cX2_isThere 1 = .ok (.getfield 15, 3) := by decide +kernel
theorem dX2_isThere_4 : decode cX2_isThere 4 = .ok (.iconst (-1), 1) := by decide +kernel
theorem dX2_isThere_5 : decode cX2_isThere 5 = .ok (.if_icmp .eq 7, 3) := by decide +kernel
theorem dX2_isThere_8 : decode cX2_isThere 8 = .ok (.iconst 1, 1) := by decide +kernel
theorem dX2_isThere_9 : decode cX2_isThere 9 = .ok (.goto 4, 3) := by decide +kernel
theorem dX2_isThere_12 : decode cX2_isThere 12 = .ok (.iconst 0, 1) := by decide +kernel
theorem dX2_isThere_13 : decode cX2_isThere 13 = .ok (.ireturn, 1) := by decide +kernel
theorem dX2_hasCell_0 : decode cX2_hasCell 0 = .ok (.iload_n 1, 1) := by decide +kernel
theorem dX2_hasCell_1 : decode cX2_hasCell 1 = .ok (.ifCond .lt 15, 3) := by decide +kernel
theorem dX2_hasCell_4 : decode cX2_hasCell 4 = .ok (.iload_n 1, 1) := by decide +kernel
theorem dX2_hasCell_5 : decode cX2_hasCell 5 = .ok (.aload_n 0, 1) := by decide +kernel
theorem dX2_hasCell_6 : decode cX2_hasCell 6 = .ok (.getfield 15, 3) := by decide +kernel
theorem dX2_hasCell_9 : decode cX2_hasCell 9 = .ok (.if_icmp .ge 7, 3) := by decide +kernel
theorem dX2_hasCell_12 : decode cX2_hasCell 12 = .ok (.iconst 1, 1) := by decide +kernel
theorem dX2_hasCell_13 : decode cX2_hasCell 13 = .ok (.goto 4, 3) := by decide +kernel
theorem dX2_hasCell_16 : decode cX2_hasCell 16 = .ok (.iconst 0, 1) := by decide +kernel
theorem dX2_hasCell_17 : decode cX2_hasCell 17 = .ok (.ireturn, 1) := by decide +kernel
theorem dX2_write_0 : decode cX2_write 0 = .ok (.aload_n 0, 1) := by decide +kernel
theorem dX2_write_1 : decode cX2_write 1 = .ok (.getfield 9, 3) := by decide +kernel
theorem dX2_write_4 : decode cX2_write 4 = .ok (.ifCond .ne 14, 3) := by decide +kernel
theorem dX2_write_7 : decode cX2_write 7 = .ok (.aload_n 0, 1) := by decide +kernel
theorem dX2_write_8 : decode cX2_write 8 = .ok (.getfield 18, 3) := by decide +kernel
theorem dX2_write_11 : decode cX2_write 11 = .ok (.iload_n 1, 1) := by decide +kernel
theorem dX2_write_12 : decode cX2_write 12 = .ok (.iload_n 2, 1) := by decide +kernel
theorem dX2_write_13 : decode cX2_write 13 = .ok (.i2b, 1) := by decide +kernel
theorem dX2_write_14 : decode cX2_write 14 = .ok (.iastore, 1) := by decide +kernel
theorem dX2_write_15 : decode cX2_write 15 = .ok (.goto 29, 3) := by decide +kernel
theorem dX2_write_18 : decode cX2_write 18 = .ok (.aload_n 0, 1) := by decide +kernel
theorem dX2_write_19 : decode cX2_write 19 = .ok (.getfield 9, 3) := by decide +kernel
theorem dX2_write_22 : decode cX2_write 22 = .ok (.iconst 1, 1) := by decide +kernel
theorem dX2_write_23 : decode cX2_write 23 = .ok (.if_icmp .ne 14, 3) := by decide +kernel
theorem dX2_write_26 : decode cX2_write 26 = .ok (.aload_n 0, 1) := by decide +kernel
theorem dX2_write_27 : decode cX2_write 27 = .ok (.getfield 18, 3) := by decide +kernel
theorem dX2_write_30 : decode cX2_write 30 = .ok (.iload_n 1, 1) := by decide +kernel
theorem dX2_write_31 : decode cX2_write 31 = .ok (.iload_n 2, 1) := by decide +kernel
theorem dX2_write_32 : decode cX2_write 32 = .ok (.i2s, 1) := by decide +kernel
theorem dX2_write_33 : decode cX2_write 33 = .ok (.iastore, 1) := by decide +kernel
theorem dX2_write_34 : decode cX2_write 34 = .ok (.goto 10, 3) := by decide +kernel
theorem dX2_write_37 : decode cX2_write 37 = .ok (.aload_n 0, 1) := by decide +kernel
theorem dX2_write_38 : decode cX2_write 38 = .ok (.getfield 18, 3) := by decide +kernel
theorem dX2_write_41 : decode cX2_write 41 = .ok (.iload_n 1, 1) := by decide +kernel
theorem dX2_write_42 : decode cX2_write 42 = .ok (.iload_n 2, 1) := by decide +kernel
theorem dX2_write_43 : decode cX2_write 43 = .ok (.iastore, 1) := by decide +kernel
theorem dX2_write_44 : decode cX2_write 44 = .ok (.return_, 1) := by decide +kernel
theorem dX2_faultAs_0 : decode cX2_faultAs 0 = .ok (.aload_n 0, 1) := by decide +kernel
theorem dX2_faultAs_1 : decode cX2_faultAs 1 = .ok (.invokevirtual 28, 3) := by decide +kernel
theorem dX2_faultAs_4 : decode cX2_faultAs 4 = .ok (.ifCond .ne 5, 3) := by decide +kernel
theorem dX2_faultAs_7 : decode cX2_faultAs 7 = .ok (.iconst 1, 1) := by decide +kernel
theorem dX2_faultAs_8 : decode cX2_faultAs 8 = .ok (.ireturn, 1) := by decide +kernel
theorem dX2_faultAs_9 : decode cX2_faultAs 9 = .ok (.iload_n 1, 1) := by decide +kernel
theorem dX2_faultAs_10 : decode cX2_faultAs 10 = .ok (.aload_n 0, 1) := by decide +kernel
theorem dX2_faultAs_11 : decode cX2_faultAs 11 = .ok (.getfield 9, 3) := by decide +kernel
theorem dX2_faultAs_14 : decode cX2_faultAs 14 = .ok (.if_icmp .ne 7, 3) := by decide +kernel
theorem dX2_faultAs_17 : decode cX2_faultAs 17 = .ok (.iconst 0, 1) := by decide +kernel
theorem dX2_faultAs_18 : decode cX2_faultAs 18 = .ok (.goto 4, 3) := by decide +kernel
theorem dX2_faultAs_21 : decode cX2_faultAs 21 = .ok (.iconst 3, 1) := by decide +kernel
theorem dX2_faultAs_22 : decode cX2_faultAs 22 = .ok (.ireturn, 1) := by decide +kernel
theorem dX3_init_0 : decode cX3_init 0 = .ok (.aload_n 0, 1) := by decide +kernel
theorem dX3_init_1 : decode cX3_init 1 = .ok (.invokespecial 3, 3) := by decide +kernel
theorem dX3_init_4 : decode cX3_init 4 = .ok (.aload_n 0, 1) := by decide +kernel
theorem dX3_init_5 : decode cX3_init 5 = .ok (.bipush 6, 2) := by decide +kernel
theorem dX3_init_7 : decode cX3_init 7 = .ok (.newarray .int, 2) := by decide +kernel
theorem dX3_init_9 : decode cX3_init 9 = .ok (.putfield 9, 3) := by decide +kernel
theorem dX3_init_12 : decode cX3_init 12 = .ok (.aload_n 0, 1) := by decide +kernel
theorem dX3_init_13 : decode cX3_init 13 = .ok (.bipush 6, 2) := by decide +kernel
theorem dX3_init_15 : decode cX3_init 15 = .ok (.newarray .int, 2) := by decide +kernel
theorem dX3_init_17 : decode cX3_init 17 = .ok (.putfield 15, 3) := by decide +kernel
theorem dX3_init_20 : decode cX3_init 20 = .ok (.aload_n 0, 1) := by decide +kernel
theorem dX3_init_21 : decode cX3_init 21 = .ok (.bipush 24, 2) := by decide +kernel
theorem dX3_init_23 : decode cX3_init 23 = .ok (.newarray .int, 2) := by decide +kernel
theorem dX3_init_25 : decode cX3_init 25 = .ok (.putfield 18, 3) := by decide +kernel
theorem dX3_init_28 : decode cX3_init 28 = .ok (.aload_n 0, 1) := by decide +kernel
theorem dX3_init_29 : decode cX3_init 29 = .ok (.iconst 5, 1) := by decide +kernel
theorem dX3_init_30 : decode cX3_init 30 = .ok (.newarray .int, 2) := by decide +kernel
theorem dX3_init_32 : decode cX3_init 32 = .ok (.putfield 21, 3) := by decide +kernel
theorem dX3_init_35 : decode cX3_init 35 = .ok (.aload_n 0, 1) := by decide +kernel
theorem dX3_init_36 : decode cX3_init 36 = .ok (.iconst 5, 1) := by decide +kernel
theorem dX3_init_37 : decode cX3_init 37 = .ok (.newarray .int, 2) := by decide +kernel
theorem dX3_init_39 : decode cX3_init 39 = .ok (.putfield 24, 3) := by decide +kernel
theorem dX3_init_42 : decode cX3_init 42 = .ok (.aload_n 0, 1) := by decide +kernel
theorem dX3_init_43 : decode cX3_init 43 = .ok (.iconst 5, 1) := by decide +kernel
theorem dX3_init_44 : decode cX3_init 44 = .ok (.newarray .int, 2) := by decide +kernel
theorem dX3_init_46 : decode cX3_init 46 = .ok (.putfield 27, 3) := by decide +kernel
theorem dX3_init_49 : decode cX3_init 49 = .ok (.aload_n 0, 1) := by decide +kernel
theorem dX3_init_50 : decode cX3_init 50 = .ok (.iconst 5, 1) := by decide +kernel
theorem dX3_init_51 : decode cX3_init 51 = .ok (.newarray .int, 2) := by decide +kernel
theorem dX3_init_53 : decode cX3_init 53 = .ok (.putfield 30, 3) := by decide +kernel
theorem dX3_init_56 : decode cX3_init 56 = .ok (.aload_n 0, 1) := by decide +kernel
theorem dX3_init_57 : decode cX3_init 57 = .ok (.iconst 5, 1) := by decide +kernel
theorem dX3_init_58 : decode cX3_init 58 = .ok (.newarray .int, 2) := by decide +kernel
theorem dX3_init_60 : decode cX3_init 60 = .ok (.putfield 33, 3) := by decide +kernel
theorem dX3_init_63 : decode cX3_init 63 = .ok (.aload_n 0, 1) := by decide +kernel
theorem dX3_init_64 : decode cX3_init 64 = .ok (.iconst 5, 1) := by decide +kernel
theorem dX3_init_65 : decode cX3_init 65 = .ok (.newarray .int, 2) := by decide +kernel
theorem dX3_init_67 : decode cX3_init 67 = .ok (.putfield 36, 3) := by decide +kernel
theorem dX3_init_70 : decode cX3_init 70 = .ok (.aload_n 0, 1) := by decide +kernel
theorem dX3_init_71 : decode cX3_init 71 = .ok (.iconst 5, 1) := by decide +kernel
theorem dX3_init_72 : decode cX3_init 72 = .ok (.newarray .int, 2) := by decide +kernel
theorem dX3_init_74 : decode cX3_init 74 = .ok (.putfield 39, 3) := by decide +kernel
theorem dX3_init_77 : decode cX3_init 77 = .ok (.aload_n 0, 1) := by decide +kernel
theorem dX3_init_78 : decode cX3_init 78 = .ok (.iconst 4, 1) := by decide +kernel
theorem dX3_init_79 : decode cX3_init 79 = .ok (.newarray .int, 2) := by decide +kernel
theorem dX3_init_81 : decode cX3_init 81 = .ok (.putfield 42, 3) := by decide +kernel
theorem dX3_init_84 : decode cX3_init 84 = .ok (.aload_n 0, 1) := by decide +kernel
theorem dX3_init_85 : decode cX3_init 85 = .ok (.invokevirtual 45, 3) := by decide +kernel
theorem dX3_init_88 : decode cX3_init 88 = .ok (.return_, 1) := by decide +kernel
theorem dX3_clear_0 : decode cX3_clear 0 = .ok (.aload_n 0, 1) := by decide +kernel
theorem dX3_clear_1 : decode cX3_clear 1 = .ok (.iconst 4, 1) := by decide +kernel
theorem dX3_clear_2 : decode cX3_clear 2 = .ok (.putfield 48, 3) := by decide +kernel
theorem dX3_clear_5 : decode cX3_clear 5 = .ok (.aload_n 0, 1) := by decide +kernel
theorem dX3_clear_6 : decode cX3_clear 6 = .ok (.iconst 0, 1) := by decide +kernel
theorem dX3_clear_7 : decode cX3_clear 7 = .ok (.putfield 52, 3) := by decide +kernel
theorem dX3_clear_10 : decode cX3_clear 10 = .ok (.aload_n 0, 1) := by decide +kernel
theorem dX3_clear_11 : decode cX3_clear 11 = .ok (.iconst 0, 1) := by decide +kernel
theorem dX3_clear_12 : decode cX3_clear 12 = .ok (.putfield 55, 3) := by decide +kernel
theorem dX3_clear_15 : decode cX3_clear 15 = .ok (.aload_n 0, 1) := by decide +kernel
theorem dX3_clear_16 : decode cX3_clear 16 = .ok (.iconst 0, 1) := by decide +kernel
theorem dX3_clear_17 : decode cX3_clear 17 = .ok (.putfield 58, 3) := by decide +kernel
theorem dX3_clear_20 : decode cX3_clear 20 = .ok (.aload_n 0, 1) := by decide +kernel
theorem dX3_clear_21 : decode cX3_clear 21 = .ok (.iconst 0, 1) := by decide +kernel
theorem dX3_clear_22 : decode cX3_clear 22 = .ok (.putfield 61, 3) := by decide +kernel
theorem dX3_clear_25 : decode cX3_clear 25 = .ok (.aload_n 0, 1) := by decide +kernel
theorem dX3_clear_26 : decode cX3_clear 26 = .ok (.bipush (-4), 2) := by decide +kernel
theorem dX3_clear_28 : decode cX3_clear 28 = .ok (.putfield 64, 3) := by decide +kernel
theorem dX3_clear_31 : decode cX3_clear 31 = .ok (.aload_n 0, 1) := by decide +kernel
theorem dX3_clear_32 : decode cX3_clear 32 = .ok (.getfield 9, 3) := by decide +kernel
theorem dX3_clear_35 : decode cX3_clear 35 = .ok (.iconst 1, 1) := by decide +kernel
theorem dX3_clear_36 : decode cX3_clear 36 = .ok (.invokestatic 67, 3) := by decide +kernel
theorem dX3_clear_39 : decode cX3_clear 39 = .ok (.aload_n 0, 1) := by decide +kernel
theorem dX3_clear_40 : decode cX3_clear 40 = .ok (.getfield 15, 3) := by decide +kernel
theorem dX3_clear_43 : decode cX3_clear 43 = .ok (.iconst 0, 1) := by decide +kernel
theorem dX3_clear_44 : decode cX3_clear 44 = .ok (.invokestatic 67, 3) := by decide +kernel
theorem dX3_clear_47 : decode cX3_clear 47 = .ok (.return_, 1) := by decide +kernel
theorem dX3_becomes_0 : decode cX3_becomes 0 = .ok (.aload_n 0, 1) := by decide +kernel
theorem dX3_becomes_1 : decode cX3_becomes 1 = .ok (.aload_n 1, 1) := by decide +kernel
theorem dX3_becomes_2 : decode cX3_becomes 2 = .ok (.getfield 48, 3) := by decide +kernel
theorem dX3_becomes_5 : decode cX3_becomes 5 = .ok (.putfield 48, 3) := by decide +kernel
theorem dX3_becomes_8 : decode cX3_becomes 8 = .ok (.aload_n 0, 1) := by decide +kernel
theorem dX3_becomes_9 : decode cX3_becomes 9 = .ok (.aload_n 1, 1) := by decide +kernel
theorem dX3_becomes_10 : decode cX3_becomes 10 = .ok (.getfield 52, 3) := by decide +kernel
theorem dX3_becomes_13 : decode cX3_becomes 13 = .ok (.putfield 52, 3) := by decide +kernel
theorem dX3_becomes_16 : decode cX3_becomes 16 = .ok (.aload_n 0, 1) := by decide +kernel
theorem dX3_becomes_17 : decode cX3_becomes 17 = .ok (.aload_n 1, 1) := by decide +kernel
theorem dX3_becomes_18 : decode cX3_becomes 18 = .ok (.getfield 55, 3) := by decide +kernel
theorem dX3_becomes_21 : decode cX3_becomes 21 = .ok (.putfield 55, 3) := by decide +kernel
theorem dX3_becomes_24 : decode cX3_becomes 24 = .ok (.aload_n 0, 1) := by decide +kernel
theorem dX3_becomes_25 : decode cX3_becomes 25 = .ok (.aload_n 1, 1) := by decide +kernel
theorem dX3_becomes_26 : decode cX3_becomes 26 = .ok (.getfield 58, 3) := by decide +kernel
theorem dX3_becomes_29 : decode cX3_becomes 29 = .ok (.putfield 58, 3) := by decide +kernel
theorem dX3_becomes_32 : decode cX3_becomes 32 = .ok (.aload_n 0, 1) := by decide +kernel
theorem dX3_becomes_33 : decode cX3_becomes 33 = .ok (.aload_n 1, 1) := by decide +kernel
theorem dX3_becomes_34 : decode cX3_becomes 34 = .ok (.getfield 61, 3) := by decide +kernel
theorem dX3_becomes_37 : decode cX3_becomes 37 = .ok (.putfield 61, 3) := by decide +kernel
theorem dX3_becomes_40 : decode cX3_becomes 40 = .ok (.aload_n 0, 1) := by decide +kernel
theorem dX3_becomes_41 : decode cX3_becomes 41 = .ok (.aload_n 1, 1) := by decide +kernel
theorem dX3_becomes_42 : decode cX3_becomes 42 = .ok (.getfield 64, 3) := by decide +kernel
theorem dX3_becomes_45 : decode cX3_becomes 45 = .ok (.putfield 64, 3) := by decide +kernel
theorem dX3_becomes_48 : decode cX3_becomes 48 = .ok (.aload_n 1, 1) := by decide +kernel
theorem dX3_becomes_49 : decode cX3_becomes 49 = .ok (.getfield 9, 3) := by decide +kernel
theorem dX3_becomes_52 : decode cX3_becomes 52 = .ok (.aload_n 0, 1) := by decide +kernel
theorem dX3_becomes_53 : decode cX3_becomes 53 = .ok (.getfield 9, 3) := by decide +kernel
theorem dX3_becomes_56 : decode cX3_becomes 56 = .ok (.invokestatic 73, 3) := by decide +kernel
theorem dX3_becomes_59 : decode cX3_becomes 59 = .ok (.aload_n 1, 1) := by decide +kernel
theorem dX3_becomes_60 : decode cX3_becomes 60 = .ok (.getfield 15, 3) := by decide +kernel
theorem dX3_becomes_63 : decode cX3_becomes 63 = .ok (.aload_n 0, 1) := by decide +kernel
theorem dX3_becomes_64 : decode cX3_becomes 64 = .ok (.getfield 15, 3) := by decide +kernel
theorem dX3_becomes_67 : decode cX3_becomes 67 = .ok (.invokestatic 73, 3) := by decide +kernel
theorem dX3_becomes_70 : decode cX3_becomes 70 = .ok (.aload_n 1, 1) := by decide +kernel
theorem dX3_becomes_71 : decode cX3_becomes 71 = .ok (.getfield 18, 3) := by decide +kernel
theorem dX3_becomes_74 : decode cX3_becomes 74 = .ok (.aload_n 0, 1) := by decide +kernel
theorem dX3_becomes_75 : decode cX3_becomes 75 = .ok (.getfield 18, 3) := by decide +kernel
theorem dX3_becomes_78 : decode cX3_becomes 78 = .ok (.invokestatic 73, 3) := by decide +kernel
theorem dX3_becomes_81 : decode cX3_becomes 81 = .ok (.aload_n 1, 1) := by decide +kernel
theorem dX3_becomes_82 : decode cX3_becomes 82 = .ok (.getfield 21, 3) := by decide +kernel
theorem dX3_becomes_85 : decode cX3_becomes 85 = .ok (.aload_n 0, 1) := by decide +kernel
theorem dX3_becomes_86 : decode cX3_becomes 86 = .ok (.getfield 21, 3) := by decide +kernel
theorem dX3_becomes_89 : decode cX3_becomes 89 = .ok (.invokestatic 73, 3) := by decide +kernel
theorem dX3_becomes_92 : decode cX3_becomes 92 = .ok (.aload_n 1, 1) := by decide +kernel
theorem dX3_becomes_93 : decode cX3_becomes 93 = .ok (.getfield 24, 3) := by decide +kernel
theorem dX3_becomes_96 : decode cX3_becomes 96 = .ok (.aload_n 0, 1) := by decide +kernel
theorem dX3_becomes_97 : decode cX3_becomes 97 = .ok (.getfield 24, 3) := by decide +kernel
theorem dX3_becomes_100 : decode cX3_becomes 100 = .ok (.invokestatic 73, 3) := by decide +kernel
theorem dX3_becomes_103 : decode cX3_becomes 103 = .ok (.aload_n 1, 1) := by decide +kernel
theorem dX3_becomes_104 : decode cX3_becomes 104 = .ok (.getfield 27, 3) := by decide +kernel
theorem dX3_becomes_107 : decode cX3_becomes 107 = .ok (.aload_n 0, 1) := by decide +kernel
theorem dX3_becomes_108 : decode cX3_becomes 108 = .ok (.getfield 27, 3) := by decide +kernel
theorem dX3_becomes_111 : decode cX3_becomes 111 = .ok (.invokestatic 73, 3) := by decide +kernel
theorem dX3_becomes_114 : decode cX3_becomes 114 = .ok (.aload_n 1, 1) := by decide +kernel
theorem dX3_becomes_115 : decode cX3_becomes 115 = .ok (.getfield 30, 3) := by decide +kernel
theorem dX3_becomes_118 : decode cX3_becomes 118 = .ok (.aload_n 0, 1) := by decide +kernel
theorem dX3_becomes_119 : decode cX3_becomes 119 = .ok (.getfield 30, 3) := by decide +kernel
theorem dX3_becomes_122 : decode cX3_becomes 122 = .ok (.invokestatic 73, 3) := by decide +kernel
theorem dX3_becomes_125 : decode cX3_becomes 125 = .ok (.aload_n 1, 1) := by decide +kernel
theorem dX3_becomes_126 : decode cX3_becomes 126 = .ok (.getfield 33, 3) := by decide +kernel
theorem dX3_becomes_129 : decode cX3_becomes 129 = .ok (.aload_n 0, 1) := by decide +kernel
theorem dX3_becomes_130 : decode cX3_becomes 130 = .ok (.getfield 33, 3) := by decide +kernel
theorem dX3_becomes_133 : decode cX3_becomes 133 = .ok (.invokestatic 73, 3) := by decide +kernel
theorem dX3_becomes_136 : decode cX3_becomes 136 = .ok (.aload_n 1, 1) := by decide +kernel
theorem dX3_becomes_137 : decode cX3_becomes 137 = .ok (.getfield 36, 3) := by decide +kernel
theorem dX3_becomes_140 : decode cX3_becomes 140 = .ok (.aload_n 0, 1) := by decide +kernel
theorem dX3_becomes_141 : decode cX3_becomes 141 = .ok (.getfield 36, 3) := by decide +kernel
theorem dX3_becomes_144 : decode cX3_becomes 144 = .ok (.invokestatic 73, 3) := by decide +kernel
theorem dX3_becomes_147 : decode cX3_becomes 147 = .ok (.aload_n 1, 1) := by decide +kernel
theorem dX3_becomes_148 : decode cX3_becomes 148 = .ok (.getfield 39, 3) := by decide +kernel
theorem dX3_becomes_151 : decode cX3_becomes 151 = .ok (.aload_n 0, 1) := by decide +kernel
theorem dX3_becomes_152 : decode cX3_becomes 152 = .ok (.getfield 39, 3) := by decide +kernel
theorem dX3_becomes_155 : decode cX3_becomes 155 = .ok (.invokestatic 73, 3) := by decide +kernel
theorem dX3_becomes_158 : decode cX3_becomes 158 = .ok (.aload_n 1, 1) := by decide +kernel
theorem dX3_becomes_159 : decode cX3_becomes 159 = .ok (.getfield 42, 3) := by decide +kernel
theorem dX3_becomes_162 : decode cX3_becomes 162 = .ok (.aload_n 0, 1) := by decide +kernel
theorem dX3_becomes_163 : decode cX3_becomes 163 = .ok (.getfield 42, 3) := by decide +kernel
theorem dX3_becomes_166 : decode cX3_becomes 166 = .ok (.invokestatic 73, 3) := by decide +kernel
theorem dX3_becomes_169 : decode cX3_becomes 169 = .ok (.return_, 1) := by decide +kernel
theorem dX3_copyRow_0 : decode cX3_copyRow 0 = .ok (.aload_n 0, 1) := by decide +kernel
theorem dX3_copyRow_1 : decode cX3_copyRow 1 = .ok (.iconst 0, 1) := by decide +kernel
theorem dX3_copyRow_2 : decode cX3_copyRow 2 = .ok (.aload_n 1, 1) := by decide +kernel
theorem dX3_copyRow_3 : decode cX3_copyRow 3 = .ok (.iconst 0, 1) := by decide +kernel
theorem dX3_copyRow_4 : decode cX3_copyRow 4 = .ok (.aload_n 0, 1) := by decide +kernel
theorem dX3_copyRow_5 : decode cX3_copyRow 5 = .ok (.arraylength, 1) := by decide +kernel
theorem dX3_copyRow_6 : decode cX3_copyRow 6 = .ok (.aload_n 1, 1) := by decide +kernel
theorem dX3_copyRow_7 : decode cX3_copyRow 7 = .ok (.arraylength, 1) := by decide +kernel
theorem dX3_copyRow_8 : decode cX3_copyRow 8 = .ok (.invokestatic 77, 3) := by decide +kernel
theorem dX3_copyRow_11 : decode cX3_copyRow 11 = .ok (.invokestatic 83, 3) := by decide +kernel
theorem dX3_copyRow_14 : decode cX3_copyRow 14 = .ok (.return_, 1) := by decide +kernel
theorem dX3_remainder_0 : decode cX3_remainder 0 = .ok (.iload_n 1, 1) := by decide +kernel
theorem dX3_remainder_1 : decode cX3_remainder 1 = .ok (.ifCond .le 9, 3) := by decide +kernel
theorem dX3_remainder_4 : decode cX3_remainder 4 = .ok (.iload_n 0, 1) := by decide +kernel
theorem dX3_remainder_5 : decode cX3_remainder 5 = .ok (.iload_n 1, 1) := by decide +kernel
theorem dX3_remainder_6 : decode cX3_remainder 6 = .ok (.irem, 1) := by decide +kernel
theorem dX3_remainder_7 : decode cX3_remainder 7 = .ok (.goto 4, 3) := by decide +kernel
theorem dX3_remainder_10 : decode cX3_remainder 10 = .ok (.iconst 0, 1) := by decide +kernel
theorem dX3_remainder_11 : decode cX3_remainder 11 = .ok (.ireturn, 1) := by decide +kernel
theorem dX3_hasPart_0 : decode cX3_hasPart 0 = .ok (.iload_n 1, 1) := by decide +kernel
theorem dX3_hasPart_1 : decode cX3_hasPart 1 = .ok (.ifCond .lt 15, 3) := by decide +kernel
theorem dX3_hasPart_4 : decode cX3_hasPart 4 = .ok (.iload_n 1, 1) := by decide +kernel
theorem dX3_hasPart_5 : decode cX3_hasPart 5 = .ok (.aload_n 0, 1) := by decide +kernel
theorem dX3_hasPart_6 : decode cX3_hasPart 6 = .ok (.getfield 48, 3) := by decide +kernel
theorem dX3_hasPart_9 : decode cX3_hasPart 9 = .ok (.if_icmp .ge 7, 3) := by decide +kernel
theorem dX3_hasPart_12 : decode cX3_hasPart 12 = .ok (.iconst 1, 1) := by decide +kernel
theorem dX3_hasPart_13 : decode cX3_hasPart 13 = .ok (.goto 4, 3) := by decide +kernel
theorem dX3_hasPart_16 : decode cX3_hasPart 16 = .ok (.iconst 0, 1) := by decide +kernel
theorem dX3_hasPart_17 : decode cX3_hasPart 17 = .ok (.ireturn, 1) := by decide +kernel
theorem dX3_hasSitter_0 : decode cX3_hasSitter 0 = .ok (.iload_n 1, 1) := by decide +kernel
theorem dX3_hasSitter_1 : decode cX3_hasSitter 1 = .ok (.ifCond .lt 15, 3) := by decide +kernel
theorem dX3_hasSitter_4 : decode cX3_hasSitter 4 = .ok (.iload_n 1, 1) := by decide +kernel
theorem dX3_hasSitter_5 : decode cX3_hasSitter 5 = .ok (.aload_n 0, 1) := by decide +kernel
theorem dX3_hasSitter_6 : decode cX3_hasSitter 6 = .ok (.getfield 52, 3) := by decide +kernel
theorem dX3_hasSitter_9 : decode cX3_hasSitter 9 = .ok (.if_icmp .ge 7, 3) := by decide +kernel
theorem dX3_hasSitter_12 : decode cX3_hasSitter 12 = .ok (.iconst 1, 1) := by decide +kernel
theorem dX3_hasSitter_13 : decode cX3_hasSitter 13 = .ok (.goto 4, 3) := by decide +kernel
theorem dX3_hasSitter_16 : decode cX3_hasSitter 16 = .ok (.iconst 0, 1) := by decide +kernel
theorem dX3_hasSitter_17 : decode cX3_hasSitter 17 = .ok (.ireturn, 1) := by decide +kernel
theorem dX3_everybody_0 : decode cX3_everybody 0 = .ok (.iconst 1, 1) := by decide +kernel
theorem dX3_everybody_1 : decode cX3_everybody 1 = .ok (.aload_n 0, 1) := by decide +kernel
theorem dX3_everybody_2 : decode cX3_everybody 2 = .ok (.getfield 52, 3) := by decide +kernel
theorem dX3_everybody_5 : decode cX3_everybody 5 = .ok (.ishl, 1) := by decide +kernel
theorem dX3_everybody_6 : decode cX3_everybody 6 = .ok (.iconst 1, 1) := by decide +kernel
theorem dX3_everybody_7 : decode cX3_everybody 7 = .ok (.isub, 1) := by decide +kernel
theorem dX3_everybody_8 : decode cX3_everybody 8 = .ok (.ireturn, 1) := by decide +kernel
theorem dX3_top_0 : decode cX3_top 0 = .ok (.aload_n 0, 1) := by decide +kernel
theorem dX3_top_1 : decode cX3_top 1 = .ok (.iload_n 1, 1) := by decide +kernel
theorem dX3_top_2 : decode cX3_top 2 = .ok (.invokevirtual 89, 3) := by decide +kernel
theorem dX3_top_5 : decode cX3_top 5 = .ok (.ifCond .eq 12, 3) := by decide +kernel
theorem dX3_top_8 : decode cX3_top 8 = .ok (.aload_n 0, 1) := by decide +kernel
theorem dX3_top_9 : decode cX3_top 9 = .ok (.getfield 15, 3) := by decide +kernel
theorem dX3_top_12 : decode cX3_top 12 = .ok (.iload_n 1, 1) := by decide +kernel
theorem dX3_top_13 : decode cX3_top 13 = .ok (.iaload, 1) := by decide +kernel
theorem dX3_top_14 : decode cX3_top 14 = .ok (.ifCond .ne 6, 3) := by decide +kernel
theorem dX3_top_17 : decode cX3_top 17 = .ok (.bipush (-4), 2) := by decide +kernel
theorem dX3_top_19 : decode cX3_top 19 = .ok (.ireturn, 1) := by decide +kernel
theorem dX3_top_20 : decode cX3_top 20 = .ok (.aload_n 0, 1) := by decide +kernel
theorem dX3_top_21 : decode cX3_top 21 = .ok (.getfield 18, 3) := by decide +kernel
theorem dX3_top_24 : decode cX3_top 24 = .ok (.iload_n 1, 1) := by decide +kernel
theorem dX3_top_25 : decode cX3_top 25 = .ok (.iconst 4, 1) := by decide +kernel
theorem dX3_top_26 : decode cX3_top 26 = .ok (.imul, 1) := by decide +kernel
theorem dX3_top_27 : decode cX3_top 27 = .ok (.aload_n 0, 1) := by decide +kernel
theorem dX3_top_28 : decode cX3_top 28 = .ok (.getfield 15, 3) := by decide +kernel
theorem dX3_top_31 : decode cX3_top 31 = .ok (.iload_n 1, 1) := by decide +kernel
theorem dX3_top_32 : decode cX3_top 32 = .ok (.iaload, 1) := by decide +kernel
theorem dX3_top_33 : decode cX3_top 33 = .ok (.iadd, 1) := by decide +kernel
theorem dX3_top_34 : decode cX3_top 34 = .ok (.iconst 1, 1) := by decide +kernel
theorem dX3_top_35 : decode cX3_top 35 = .ok (.isub, 1) := by decide +kernel
theorem dX3_top_36 : decode cX3_top 36 = .ok (.iaload, 1) := by decide +kernel
theorem dX3_top_37 : decode cX3_top 37 = .ok (.ireturn, 1) := by decide +kernel
theorem dX3_showing_0 : decode cX3_showing 0 = .ok (.iconst 0, 1) := by decide +kernel
theorem dX3_showing_1 : decode cX3_showing 1 = .ok (.istore_n 2, 1) := by decide +kernel
theorem dX3_showing_2 : decode cX3_showing 2 = .ok (.iconst 0, 1) := by decide +kernel
theorem dX3_showing_3 : decode cX3_showing 3 = .ok (.istore_n 3, 1) := by decide +kernel
theorem dX3_showing_4 : decode cX3_showing 4 = .ok (.iload_n 3, 1) := by decide +kernel
theorem dX3_showing_5 : decode cX3_showing 5 = .ok (.aload_n 0, 1) := by decide +kernel
theorem dX3_showing_6 : decode cX3_showing 6 = .ok (.getfield 48, 3) := by decide +kernel
theorem dX3_showing_9 : decode cX3_showing 9 = .ok (.if_icmp .ge 24, 3) := by decide +kernel
theorem dX3_showing_12 : decode cX3_showing 12 = .ok (.aload_n 0, 1) := by decide +kernel
theorem dX3_showing_13 : decode cX3_showing 13 = .ok (.iload_n 3, 1) := by decide +kernel
theorem dX3_showing_14 : decode cX3_showing 14 = .ok (.invokevirtual 93, 3) := by decide +kernel
theorem dX3_showing_17 : decode cX3_showing 17 = .ok (.iload_n 1, 1) := by decide +kernel
theorem dX3_showing_18 : decode cX3_showing 18 = .ok (.if_icmp .ne 9, 3) := by decide +kernel
theorem dX3_showing_21 : decode cX3_showing 21 = .ok (.iload_n 2, 1) := by decide +kernel
theorem dX3_showing_22 : decode cX3_showing 22 = .ok (.iconst 1, 1) := by decide +kernel
theorem dX3_showing_23 : decode cX3_showing 23 = .ok (.iload_n 3, 1) := by decide +kernel
theorem dX3_showing_24 : decode cX3_showing 24 = .ok (.ishl, 1) := by decide +kernel
theorem dX3_showing_25 : decode cX3_showing 25 = .ok (.ior, 1) := by decide +kernel
theorem dX3_showing_26 : decode cX3_showing 26 = .ok (.istore_n 2, 1) := by decide +kernel
theorem dX3_showing_27 : decode cX3_showing 27 = .ok (.iinc 3 1, 3) := by decide +kernel
theorem dX3_showing_30 : decode cX3_showing 30 = .ok (.goto (-26), 3) := by decide +kernel
theorem dX3_showing_33 : decode cX3_showing 33 = .ok (.iload_n 2, 1) := by decide +kernel
theorem dX3_showing_34 : decode cX3_showing 34 = .ok (.ireturn, 1) := by decide +kernel
theorem dX3_sumOf_0 : decode cX3_sumOf 0 = .ok (.iconst 0, 1) := by decide +kernel
theorem dX3_sumOf_1 : decode cX3_sumOf 1 = .ok (.istore_n 2, 1) := by decide +kernel
theorem dX3_sumOf_2 : decode cX3_sumOf 2 = .ok (.iconst 0, 1) := by decide +kernel
theorem dX3_sumOf_3 : decode cX3_sumOf 3 = .ok (.istore_n 3, 1) := by decide +kernel
theorem dX3_sumOf_4 : decode cX3_sumOf 4 = .ok (.iload_n 3, 1) := by decide +kernel
theorem dX3_sumOf_5 : decode cX3_sumOf 5 = .ok (.aload_n 0, 1) := by decide +kernel
theorem dX3_sumOf_6 : decode cX3_sumOf 6 = .ok (.getfield 48, 3) := by decide +kernel
theorem dX3_sumOf_9 : decode cX3_sumOf 9 = .ok (.if_icmp .ge 21, 3) := by decide +kernel
theorem dX3_sumOf_12 : decode cX3_sumOf 12 = .ok (.iload_n 3, 1) := by decide +kernel
theorem dX3_sumOf_13 : decode cX3_sumOf 13 = .ok (.aload_n 1, 1) := by decide +kernel
theorem dX3_sumOf_14 : decode cX3_sumOf 14 = .ok (.arraylength, 1) := by decide +kernel
theorem dX3_sumOf_15 : decode cX3_sumOf 15 = .ok (.if_icmp .ge 15, 3) := by decide +kernel
theorem dX3_sumOf_18 : decode cX3_sumOf 18 = .ok (.iload_n 2, 1) := by decide +kernel
theorem dX3_sumOf_19 : decode cX3_sumOf 19 = .ok (.aload_n 1, 1) := by decide +kernel
theorem dX3_sumOf_20 : decode cX3_sumOf 20 = .ok (.iload_n 3, 1) := by decide +kernel
theorem dX3_sumOf_21 : decode cX3_sumOf 21 = .ok (.iaload, 1) := by decide +kernel
theorem dX3_sumOf_22 : decode cX3_sumOf 22 = .ok (.iadd, 1) := by decide +kernel
theorem dX3_sumOf_23 : decode cX3_sumOf 23 = .ok (.istore_n 2, 1) := by decide +kernel
theorem dX3_sumOf_24 : decode cX3_sumOf 24 = .ok (.iinc 3 1, 3) := by decide +kernel
theorem dX3_sumOf_27 : decode cX3_sumOf 27 = .ok (.goto (-23), 3) := by decide +kernel
theorem dX3_sumOf_30 : decode cX3_sumOf 30 = .ok (.iload_n 2, 1) := by decide +kernel
theorem dX3_sumOf_31 : decode cX3_sumOf 31 = .ok (.ireturn, 1) := by decide +kernel
theorem dX3_sit_0 : decode cX3_sit 0 = .ok (.aload_n 0, 1) := by decide +kernel
theorem dX3_sit_1 : decode cX3_sit 1 = .ok (.iload_n 1, 1) := by decide +kernel
theorem dX3_sit_2 : decode cX3_sit 2 = .ok (.invokevirtual 89, 3) := by decide +kernel
theorem dX3_sit_5 : decode cX3_sit 5 = .ok (.ifCond .eq 11, 3) := by decide +kernel
theorem dX3_sit_8 : decode cX3_sit 8 = .ok (.aload_n 0, 1) := by decide +kernel
theorem dX3_sit_9 : decode cX3_sit 9 = .ok (.iload_n 2, 1) := by decide +kernel
theorem dX3_sit_10 : decode cX3_sit 10 = .ok (.invokevirtual 97, 3) := by decide +kernel
theorem dX3_sit_13 : decode cX3_sit 13 = .ok (.ifCond .ne 5, 3) := by decide +kernel
theorem dX3_sit_16 : decode cX3_sit 16 = .ok (.iconst (-1), 1) := by decide +kernel
theorem dX3_sit_17 : decode cX3_sit 17 = .ok (.ireturn, 1) := by decide +kernel
theorem dX3_sit_18 : decode cX3_sit 18 = .ok (.aload_n 0, 1) := by decide +kernel
theorem dX3_sit_19 : decode cX3_sit 19 = .ok (.getfield 15, 3) := by decide +kernel
theorem dX3_sit_22 : decode cX3_sit 22 = .ok (.iload_n 1, 1) := by decide +kernel
theorem dX3_sit_23 : decode cX3_sit 23 = .ok (.iaload, 1) := by decide +kernel
theorem dX3_sit_24 : decode cX3_sit 24 = .ok (.iconst 4, 1) := by decide +kernel
theorem dX3_sit_25 : decode cX3_sit 25 = .ok (.if_icmp .ne 6, 3) := by decide +kernel
theorem dX3_sit_28 : decode cX3_sit 28 = .ok (.bipush (-3), 2) := by decide +kernel
theorem dX3_sit_30 : decode cX3_sit 30 = .ok (.ireturn, 1) := by decide +kernel
theorem dX3_sit_31 : decode cX3_sit 31 = .ok (.aload_n 0, 1) := by decide +kernel
theorem dX3_sit_32 : decode cX3_sit 32 = .ok (.iload_n 1, 1) := by decide +kernel
theorem dX3_sit_33 : decode cX3_sit 33 = .ok (.iload_n 2, 1) := by decide +kernel
theorem dX3_sit_34 : decode cX3_sit 34 = .ok (.invokevirtual 100, 3) := by decide +kernel
theorem dX3_sit_37 : decode cX3_sit 37 = .ok (.aload_n 0, 1) := by decide +kernel
theorem dX3_sit_38 : decode cX3_sit 38 = .ok (.getfield 15, 3) := by decide +kernel
theorem dX3_sit_41 : decode cX3_sit 41 = .ok (.iload_n 1, 1) := by decide +kernel
theorem dX3_sit_42 : decode cX3_sit 42 = .ok (.iaload, 1) := by decide +kernel
theorem dX3_sit_43 : decode cX3_sit 43 = .ok (.ireturn, 1) := by decide +kernel
theorem dX3_cover_0 : decode cX3_cover 0 = .ok (.iload_n 1, 1) := by decide +kernel
theorem dX3_cover_1 : decode cX3_cover 1 = .ok (.iconst 4, 1) := by decide +kernel
theorem dX3_cover_2 : decode cX3_cover 2 = .ok (.imul, 1) := by decide +kernel
theorem dX3_cover_3 : decode cX3_cover 3 = .ok (.istore_n 3, 1) := by decide +kernel
theorem dX3_cover_4 : decode cX3_cover 4 = .ok (.aload_n 0, 1) := by decide +kernel
theorem dX3_cover_5 : decode cX3_cover 5 = .ok (.getfield 15, 3) := by decide +kernel
theorem dX3_cover_8 : decode cX3_cover 8 = .ok (.iload_n 1, 1) := by decide +kernel
theorem dX3_cover_9 : decode cX3_cover 9 = .ok (.iaload, 1) := by decide +kernel
theorem dX3_cover_10 : decode cX3_cover 10 = .ok (.iconst 4, 1) := by decide +kernel
theorem dX3_cover_11 : decode cX3_cover 11 = .ok (.if_icmp .ne 29, 3) := by decide +kernel
theorem dX3_cover_14 : decode cX3_cover 14 = .ok (.aload_n 0, 1) := by decide +kernel
theorem dX3_cover_15 : decode cX3_cover 15 = .ok (.getfield 18, 3) := by decide +kernel
theorem dX3_cover_18 : decode cX3_cover 18 = .ok (.iload_n 3, 1) := by decide +kernel
theorem dX3_cover_19 : decode cX3_cover 19 = .ok (.iconst 1, 1) := by decide +kernel
theorem dX3_cover_20 : decode cX3_cover 20 = .ok (.iadd, 1) := by decide +kernel
theorem dX3_cover_21 : decode cX3_cover 21 = .ok (.aload_n 0, 1) := by decide +kernel
theorem dX3_cover_22 : decode cX3_cover 22 = .ok (.getfield 18, 3) := by decide +kernel
theorem dX3_cover_25 : decode cX3_cover 25 = .ok (.iload_n 3, 1) := by decide +kernel
theorem dX3_cover_26 : decode cX3_cover 26 = .ok (.iconst 3, 1) := by decide +kernel
theorem dX3_cover_27 : decode cX3_cover 27 = .ok (.invokestatic 83, 3) := by decide +kernel
theorem dX3_cover_30 : decode cX3_cover 30 = .ok (.aload_n 0, 1) := by decide +kernel
theorem dX3_cover_31 : decode cX3_cover 31 = .ok (.getfield 15, 3) := by decide +kernel
theorem dX3_cover_34 : decode cX3_cover 34 = .ok (.iload_n 1, 1) := by decide +kernel
theorem dX3_cover_35 : decode cX3_cover 35 = .ok (.dup2, 1) := by decide +kernel
theorem dX3_cover_36 : decode cX3_cover 36 = .ok (.iaload, 1) := by decide +kernel
theorem dX3_cover_37 : decode cX3_cover 37 = .ok (.iconst 1, 1) := by decide +kernel
theorem dX3_cover_38 : decode cX3_cover 38 = .ok (.isub, 1) := by decide +kernel
theorem dX3_cover_39 : decode cX3_cover 39 = .ok (.iastore, 1) := by decide +kernel
theorem dX3_cover_40 : decode cX3_cover 40 = .ok (.aload_n 0, 1) := by decide +kernel
theorem dX3_cover_41 : decode cX3_cover 41 = .ok (.getfield 18, 3) := by decide +kernel
theorem dX3_cover_44 : decode cX3_cover 44 = .ok (.iload_n 3, 1) := by decide +kernel
theorem dX3_cover_45 : decode cX3_cover 45 = .ok (.aload_n 0, 1) := by decide +kernel
theorem dX3_cover_46 : decode cX3_cover 46 = .ok (.getfield 15, 3) := by decide +kernel
theorem dX3_cover_49 : decode cX3_cover 49 = .ok (.iload_n 1, 1) := by decide +kernel
theorem dX3_cover_50 : decode cX3_cover 50 = .ok (.iaload, 1) := by decide +kernel
theorem dX3_cover_51 : decode cX3_cover 51 = .ok (.iadd, 1) := by decide +kernel
theorem dX3_cover_52 : decode cX3_cover 52 = .ok (.iload_n 2, 1) := by decide +kernel
theorem dX3_cover_53 : decode cX3_cover 53 = .ok (.iastore, 1) := by decide +kernel
theorem dX3_cover_54 : decode cX3_cover 54 = .ok (.aload_n 0, 1) := by decide +kernel
theorem dX3_cover_55 : decode cX3_cover 55 = .ok (.getfield 15, 3) := by decide +kernel
theorem dX3_cover_58 : decode cX3_cover 58 = .ok (.iload_n 1, 1) := by decide +kernel
theorem dX3_cover_59 : decode cX3_cover 59 = .ok (.dup2, 1) := by decide +kernel
theorem dX3_cover_60 : decode cX3_cover 60 = .ok (.iaload, 1) := by decide +kernel
theorem dX3_cover_61 : decode cX3_cover 61 = .ok (.iconst 1, 1) := by decide +kernel
theorem dX3_cover_62 : decode cX3_cover 62 = .ok (.iadd, 1) := by decide +kernel
theorem dX3_cover_63 : decode cX3_cover 63 = .ok (.iastore, 1) := by decide +kernel
theorem dX3_cover_64 : decode cX3_cover 64 = .ok (.return_, 1) := by decide +kernel
theorem dX3_areLike_0 : decode cX3_areLike 0 = .ok (.iload_n 1, 1) := by decide +kernel
theorem dX3_areLike_1 : decode cX3_areLike 1 = .ok (.iload_n 2, 1) := by decide +kernel
theorem dX3_areLike_2 : decode cX3_areLike 2 = .ok (.if_icmp .eq 21, 3) := by decide +kernel
theorem dX3_areLike_5 : decode cX3_areLike 5 = .ok (.aload_n 0, 1) := by decide +kernel
theorem dX3_areLike_6 : decode cX3_areLike 6 = .ok (.iload_n 1, 1) := by decide +kernel
theorem dX3_areLike_7 : decode cX3_areLike 7 = .ok (.iload_n 2, 1) := by decide +kernel
theorem dX3_areLike_8 : decode cX3_areLike 8 = .ok (.invokevirtual 104, 3) := by decide +kernel
theorem dX3_areLike_11 : decode cX3_areLike 11 = .ok (.ifCond .eq 16, 3) := by decide +kernel
theorem dX3_areLike_14 : decode cX3_areLike 14 = .ok (.aload_n 0, 1) := by decide +kernel
theorem dX3_areLike_15 : decode cX3_areLike 15 = .ok (.iload_n 2, 1) := by decide +kernel
theorem dX3_areLike_16 : decode cX3_areLike 16 = .ok (.iload_n 1, 1) := by decide +kernel
theorem dX3_areLike_17 : decode cX3_areLike 17 = .ok (.invokevirtual 104, 3) := by decide +kernel
theorem dX3_areLike_20 : decode cX3_areLike 20 = .ok (.ifCond .eq 7, 3) := by decide +kernel
theorem dX3_areLike_23 : decode cX3_areLike 23 = .ok (.iconst 1, 1) := by decide +kernel
theorem dX3_areLike_24 : decode cX3_areLike 24 = .ok (.goto 4, 3) := by decide +kernel
theorem dX3_areLike_27 : decode cX3_areLike 27 = .ok (.iconst 0, 1) := by decide +kernel
theorem dX3_areLike_28 : decode cX3_areLike 28 = .ok (.ireturn, 1) := by decide +kernel
theorem dX3_findsLike_0 : decode cX3_findsLike 0 = .ok (.aload_n 0, 1) := by decide +kernel
theorem dX3_findsLike_1 : decode cX3_findsLike 1 = .ok (.getfield 24, 3) := by decide +kernel
theorem dX3_findsLike_4 : decode cX3_findsLike 4 = .ok (.iload_n 1, 1) := by decide +kernel
theorem dX3_findsLike_5 : decode cX3_findsLike 5 = .ok (.iaload, 1) := by decide +kernel
theorem dX3_findsLike_6 : decode cX3_findsLike 6 = .ok (.aload_n 0, 1) := by decide +kernel
theorem dX3_findsLike_7 : decode cX3_findsLike 7 = .ok (.getfield 24, 3) := by decide +kernel
theorem dX3_findsLike_10 : decode cX3_findsLike 10 = .ok (.iload_n 2, 1) := by decide +kernel
theorem dX3_findsLike_11 : decode cX3_findsLike 11 = .ok (.iaload, 1) := by decide +kernel
theorem dX3_findsLike_12 : decode cX3_findsLike 12 = .ok (.isub, 1) := by decide +kernel
theorem dX3_findsLike_13 : decode cX3_findsLike 13 = .ok (.invokestatic 108, 3) := by decide +kernel
theorem dX3_findsLike_16 : decode cX3_findsLike 16 = .ok (.istore_n 3, 1) := by decide +kernel
theorem dX3_findsLike_17 : decode cX3_findsLike 17 = .ok (.aload_n 0, 1) := by decide +kernel
theorem dX3_findsLike_18 : decode cX3_findsLike 18 = .ok (.getfield 21, 3) := by decide +kernel
theorem dX3_findsLike_21 : decode cX3_findsLike 21 = .ok (.iload_n 1, 1) := by decide +kernel
theorem dX3_findsLike_22 : decode cX3_findsLike 22 = .ok (.iaload, 1) := by decide +kernel
theorem dX3_findsLike_23 : decode cX3_findsLike 23 = .ok (.tableswitch 67 0 2 #[25, 36, 57], 25) := by decide +kernel
theorem dX3_findsLike_48 : decode cX3_findsLike 48 = .ok (.iload_n 3, 1) := by decide +kernel
theorem dX3_findsLike_49 : decode cX3_findsLike 49 = .ok (.iconst 1, 1) := by decide +kernel
theorem dX3_findsLike_50 : decode cX3_findsLike 50 = .ok (.if_icmp .gt 7, 3) := by decide +kernel
theorem dX3_findsLike_53 : decode cX3_findsLike 53 = .ok (.iconst 1, 1) := by decide +kernel
theorem dX3_findsLike_54 : decode cX3_findsLike 54 = .ok (.goto 4, 3) := by decide +kernel
theorem dX3_findsLike_57 : decode cX3_findsLike 57 = .ok (.iconst 0, 1) := by decide +kernel
theorem dX3_findsLike_58 : decode cX3_findsLike 58 = .ok (.ireturn, 1) := by decide +kernel
theorem dX3_findsLike_59 : decode cX3_findsLike 59 = .ok (.iload_n 3, 1) := by decide +kernel
theorem dX3_findsLike_60 : decode cX3_findsLike 60 = .ok (.iconst 1, 1) := by decide +kernel
theorem dX3_findsLike_61 : decode cX3_findsLike 61 = .ok (.if_icmp .le 13, 3) := by decide +kernel
theorem dX3_findsLike_64 : decode cX3_findsLike 64 = .ok (.aload_n 0, 1) := by decide +kernel
theorem dX3_findsLike_65 : decode cX3_findsLike 65 = .ok (.getfield 21, 3) := by decide +kernel
theorem dX3_findsLike_68 : decode cX3_findsLike 68 = .ok (.iload_n 2, 1) := by decide +kernel
theorem dX3_findsLike_69 : decode cX3_findsLike 69 = .ok (.iaload, 1) := by decide +kernel
theorem dX3_findsLike_70 : decode cX3_findsLike 70 = .ok (.iconst 1, 1) := by decide +kernel
theorem dX3_findsLike_71 : decode cX3_findsLike 71 = .ok (.if_icmp .ne 7, 3) := by decide +kernel
theorem dX3_findsLike_74 : decode cX3_findsLike 74 = .ok (.iconst 1, 1) := by decide +kernel
theorem dX3_findsLike_75 : decode cX3_findsLike 75 = .ok (.goto 4, 3) := by decide +kernel
theorem dX3_findsLike_78 : decode cX3_findsLike 78 = .ok (.iconst 0, 1) := by decide +kernel
theorem dX3_findsLike_79 : decode cX3_findsLike 79 = .ok (.ireturn, 1) := by decide +kernel
theorem dX3_findsLike_80 : decode cX3_findsLike 80 = .ok (.iload_n 3, 1) := by decide +kernel
theorem dX3_findsLike_81 : decode cX3_findsLike 81 = .ok (.ifCond .ne 7, 3) := by decide +kernel
theorem dX3_findsLike_84 : decode cX3_findsLike 84 = .ok (.iconst 1, 1) := by decide +kernel
theorem dX3_findsLike_85 : decode cX3_findsLike 85 = .ok (.goto 4, 3) := by decide +kernel
theorem dX3_findsLike_88 : decode cX3_findsLike 88 = .ok (.iconst 0, 1) := by decide +kernel
theorem dX3_findsLike_89 : decode cX3_findsLike 89 = .ok (.ireturn, 1) := by decide +kernel
theorem dX3_findsLike_90 : decode cX3_findsLike 90 = .ok (.iconst 0, 1) := by decide +kernel
theorem dX3_findsLike_91 : decode cX3_findsLike 91 = .ok (.ireturn, 1) := by decide +kernel
theorem dX3_showsLike_0 : decode cX3_showsLike 0 = .ok (.aload_n 0, 1) := by decide +kernel
theorem dX3_showsLike_1 : decode cX3_showsLike 1 = .ok (.aload_n 0, 1) := by decide +kernel
theorem dX3_showsLike_2 : decode cX3_showsLike 2 = .ok (.getfield 36, 3) := by decide +kernel
theorem dX3_showsLike_5 : decode cX3_showsLike 5 = .ok (.iload_n 1, 1) := by decide +kernel
theorem dX3_showsLike_6 : decode cX3_showsLike 6 = .ok (.iaload, 1) := by decide +kernel
theorem dX3_showsLike_7 : decode cX3_showsLike 7 = .ok (.invokevirtual 93, 3) := by decide +kernel
theorem dX3_showsLike_10 : decode cX3_showsLike 10 = .ok (.istore_n 2, 1) := by decide +kernel
theorem dX3_showsLike_11 : decode cX3_showsLike 11 = .ok (.aload_n 0, 1) := by decide +kernel
theorem dX3_showsLike_12 : decode cX3_showsLike 12 = .ok (.aload_n 0, 1) := by decide +kernel
theorem dX3_showsLike_13 : decode cX3_showsLike 13 = .ok (.getfield 39, 3) := by decide +kernel
theorem dX3_showsLike_16 : decode cX3_showsLike 16 = .ok (.iload_n 1, 1) := by decide +kernel
theorem dX3_showsLike_17 : decode cX3_showsLike 17 = .ok (.iaload, 1) := by decide +kernel
theorem dX3_showsLike_18 : decode cX3_showsLike 18 = .ok (.invokevirtual 93, 3) := by decide +kernel
theorem dX3_showsLike_21 : decode cX3_showsLike 21 = .ok (.istore_n 3, 1) := by decide +kernel
theorem dX3_showsLike_22 : decode cX3_showsLike 22 = .ok (.iload_n 2, 1) := by decide +kernel
theorem dX3_showsLike_23 : decode cX3_showsLike 23 = .ok (.bipush (-4), 2) := by decide +kernel
theorem dX3_showsLike_25 : decode cX3_showsLike 25 = .ok (.if_icmp .eq 22, 3) := by decide +kernel
theorem dX3_showsLike_28 : decode cX3_showsLike 28 = .ok (.iload_n 3, 1) := by decide +kernel
theorem dX3_showsLike_29 : decode cX3_showsLike 29 = .ok (.bipush (-4), 2) := by decide +kernel
theorem dX3_showsLike_31 : decode cX3_showsLike 31 = .ok (.if_icmp .eq 16, 3) := by decide +kernel
theorem dX3_showsLike_34 : decode cX3_showsLike 34 = .ok (.aload_n 0, 1) := by decide +kernel
theorem dX3_showsLike_35 : decode cX3_showsLike 35 = .ok (.iload_n 2, 1) := by decide +kernel
theorem dX3_showsLike_36 : decode cX3_showsLike 36 = .ok (.iload_n 3, 1) := by decide +kernel
theorem dX3_showsLike_37 : decode cX3_showsLike 37 = .ok (.invokevirtual 111, 3) := by decide +kernel
theorem dX3_showsLike_40 : decode cX3_showsLike 40 = .ok (.ifCond .eq 7, 3) := by decide +kernel
theorem dX3_showsLike_43 : decode cX3_showsLike 43 = .ok (.iconst 1, 1) := by decide +kernel
theorem dX3_showsLike_44 : decode cX3_showsLike 44 = .ok (.goto 4, 3) := by decide +kernel
theorem dX3_showsLike_47 : decode cX3_showsLike 47 = .ok (.iconst 0, 1) := by decide +kernel
theorem dX3_showsLike_48 : decode cX3_showsLike 48 = .ok (.ireturn, 1) := by decide +kernel
theorem dX3_likeBonds_0 : decode cX3_likeBonds 0 = .ok (.iconst 0, 1) := by decide +kernel
theorem dX3_likeBonds_1 : decode cX3_likeBonds 1 = .ok (.istore_n 1, 1) := by decide +kernel
theorem dX3_likeBonds_2 : decode cX3_likeBonds 2 = .ok (.iconst 0, 1) := by decide +kernel
theorem dX3_likeBonds_3 : decode cX3_likeBonds 3 = .ok (.istore_n 2, 1) := by decide +kernel
theorem dX3_likeBonds_4 : decode cX3_likeBonds 4 = .ok (.iload_n 2, 1) := by decide +kernel
theorem dX3_likeBonds_5 : decode cX3_likeBonds 5 = .ok (.aload_n 0, 1) := by decide +kernel
theorem dX3_likeBonds_6 : decode cX3_likeBonds 6 = .ok (.getfield 55, 3) := by decide +kernel
theorem dX3_likeBonds_9 : decode cX3_likeBonds 9 = .ok (.if_icmp .ge 20, 3) := by decide +kernel
theorem dX3_likeBonds_12 : decode cX3_likeBonds 12 = .ok (.aload_n 0, 1) := by decide +kernel
theorem dX3_likeBonds_13 : decode cX3_likeBonds 13 = .ok (.iload_n 2, 1) := by decide +kernel
theorem dX3_likeBonds_14 : decode cX3_likeBonds 14 = .ok (.invokevirtual 114, 3) := by decide +kernel
theorem dX3_likeBonds_17 : decode cX3_likeBonds 17 = .ok (.ifCond .eq 6, 3) := by decide +kernel
theorem dX3_likeBonds_20 : decode cX3_likeBonds 20 = .ok (.iinc 1 1, 3) := by decide +kernel
theorem dX3_likeBonds_23 : decode cX3_likeBonds 23 = .ok (.iinc 2 1, 3) := by decide +kernel
theorem dX3_likeBonds_26 : decode cX3_likeBonds 26 = .ok (.goto (-22), 3) := by decide +kernel
theorem dX3_likeBonds_29 : decode cX3_likeBonds 29 = .ok (.iload_n 1, 1) := by decide +kernel
theorem dX3_likeBonds_30 : decode cX3_likeBonds 30 = .ok (.ireturn, 1) := by decide +kernel
theorem dX3_valueOf_0 : decode cX3_valueOf 0 = .ok (.iconst 0, 1) := by decide +kernel
theorem dX3_valueOf_1 : decode cX3_valueOf 1 = .ok (.istore_n 2, 1) := by decide +kernel
theorem dX3_valueOf_2 : decode cX3_valueOf 2 = .ok (.iconst 0, 1) := by decide +kernel
theorem dX3_valueOf_3 : decode cX3_valueOf 3 = .ok (.istore_n 3, 1) := by decide +kernel
theorem dX3_valueOf_4 : decode cX3_valueOf 4 = .ok (.iload_n 3, 1) := by decide +kernel
theorem dX3_valueOf_5 : decode cX3_valueOf 5 = .ok (.aload_n 0, 1) := by decide +kernel
theorem dX3_valueOf_6 : decode cX3_valueOf 6 = .ok (.getfield 48, 3) := by decide +kernel
theorem dX3_valueOf_9 : decode cX3_valueOf 9 = .ok (.if_icmp .ge 30, 3) := by decide +kernel
theorem dX3_valueOf_12 : decode cX3_valueOf 12 = .ok (.aload_n 0, 1) := by decide +kernel
theorem dX3_valueOf_13 : decode cX3_valueOf 13 = .ok (.iload_n 3, 1) := by decide +kernel
theorem dX3_valueOf_14 : decode cX3_valueOf 14 = .ok (.invokevirtual 93, 3) := by decide +kernel
theorem dX3_valueOf_17 : decode cX3_valueOf 17 = .ok (.iload_n 1, 1) := by decide +kernel
theorem dX3_valueOf_18 : decode cX3_valueOf 18 = .ok (.invokestatic 117, 3) := by decide +kernel
theorem dX3_valueOf_21 : decode cX3_valueOf 21 = .ok (.ifCond .eq 12, 3) := by decide +kernel
theorem dX3_valueOf_24 : decode cX3_valueOf 24 = .ok (.iload_n 2, 1) := by decide +kernel
theorem dX3_valueOf_25 : decode cX3_valueOf 25 = .ok (.aload_n 0, 1) := by decide +kernel
theorem dX3_valueOf_26 : decode cX3_valueOf 26 = .ok (.getfield 9, 3) := by decide +kernel
theorem dX3_valueOf_29 : decode cX3_valueOf 29 = .ok (.iload_n 3, 1) := by decide +kernel
theorem dX3_valueOf_30 : decode cX3_valueOf 30 = .ok (.iaload, 1) := by decide +kernel
theorem dX3_valueOf_31 : decode cX3_valueOf 31 = .ok (.iadd, 1) := by decide +kernel
theorem dX3_valueOf_32 : decode cX3_valueOf 32 = .ok (.istore_n 2, 1) := by decide +kernel
theorem dX3_valueOf_33 : decode cX3_valueOf 33 = .ok (.iinc 3 1, 3) := by decide +kernel
theorem dX3_valueOf_36 : decode cX3_valueOf 36 = .ok (.goto (-32), 3) := by decide +kernel
theorem dX3_valueOf_39 : decode cX3_valueOf 39 = .ok (.iconst 0, 1) := by decide +kernel
theorem dX3_valueOf_40 : decode cX3_valueOf 40 = .ok (.istore_n 3, 1) := by decide +kernel
theorem dX3_valueOf_41 : decode cX3_valueOf 41 = .ok (.iload_n 3, 1) := by decide +kernel
theorem dX3_valueOf_42 : decode cX3_valueOf 42 = .ok (.aload_n 0, 1) := by decide +kernel
theorem dX3_valueOf_43 : decode cX3_valueOf 43 = .ok (.getfield 55, 3) := by decide +kernel
theorem dX3_valueOf_46 : decode cX3_valueOf 46 = .ok (.if_icmp .ge 91, 3) := by decide +kernel
theorem dX3_valueOf_49 : decode cX3_valueOf 49 = .ok (.aload_n 0, 1) := by decide +kernel
theorem dX3_valueOf_50 : decode cX3_valueOf 50 = .ok (.aload_n 0, 1) := by decide +kernel
theorem dX3_valueOf_51 : decode cX3_valueOf 51 = .ok (.getfield 36, 3) := by decide +kernel
theorem dX3_valueOf_54 : decode cX3_valueOf 54 = .ok (.iload_n 3, 1) := by decide +kernel
theorem dX3_valueOf_55 : decode cX3_valueOf 55 = .ok (.iaload, 1) := by decide +kernel
theorem dX3_valueOf_56 : decode cX3_valueOf 56 = .ok (.invokevirtual 93, 3) := by decide +kernel
theorem dX3_valueOf_59 : decode cX3_valueOf 59 = .ok (.iload_n 1, 1) := by decide +kernel
theorem dX3_valueOf_60 : decode cX3_valueOf 60 = .ok (.invokestatic 117, 3) := by decide +kernel
theorem dX3_valueOf_63 : decode cX3_valueOf 63 = .ok (.ifCond .eq 24, 3) := by decide +kernel
theorem dX3_valueOf_66 : decode cX3_valueOf 66 = .ok (.aload_n 0, 1) := by decide +kernel
theorem dX3_valueOf_67 : decode cX3_valueOf 67 = .ok (.aload_n 0, 1) := by decide +kernel
theorem dX3_valueOf_68 : decode cX3_valueOf 68 = .ok (.getfield 39, 3) := by decide +kernel
theorem dX3_valueOf_71 : decode cX3_valueOf 71 = .ok (.iload_n 3, 1) := by decide +kernel
theorem dX3_valueOf_72 : decode cX3_valueOf 72 = .ok (.iaload, 1) := by decide +kernel
theorem dX3_valueOf_73 : decode cX3_valueOf 73 = .ok (.invokevirtual 93, 3) := by decide +kernel
theorem dX3_valueOf_76 : decode cX3_valueOf 76 = .ok (.iload_n 1, 1) := by decide +kernel
theorem dX3_valueOf_77 : decode cX3_valueOf 77 = .ok (.invokestatic 117, 3) := by decide +kernel
theorem dX3_valueOf_80 : decode cX3_valueOf 80 = .ok (.ifCond .eq 7, 3) := by decide +kernel
theorem dX3_valueOf_83 : decode cX3_valueOf 83 = .ok (.iconst 1, 1) := by decide +kernel
theorem dX3_valueOf_84 : decode cX3_valueOf 84 = .ok (.goto 4, 3) := by decide +kernel
theorem dX3_valueOf_87 : decode cX3_valueOf 87 = .ok (.iconst 0, 1) := by decide +kernel
theorem dX3_valueOf_88 : decode cX3_valueOf 88 = .ok (.istore 4, 2) := by decide +kernel
theorem dX3_valueOf_90 : decode cX3_valueOf 90 = .ok (.iload 4, 2) := by decide +kernel
theorem dX3_valueOf_92 : decode cX3_valueOf 92 = .ok (.ifCond .eq 39, 3) := by decide +kernel
theorem dX3_valueOf_95 : decode cX3_valueOf 95 = .ok (.aload_n 0, 1) := by decide +kernel
theorem dX3_valueOf_96 : decode cX3_valueOf 96 = .ok (.iload_n 3, 1) := by decide +kernel
theorem dX3_valueOf_97 : decode cX3_valueOf 97 = .ok (.invokevirtual 114, 3) := by decide +kernel
theorem dX3_valueOf_100 : decode cX3_valueOf 100 = .ok (.ifCond .eq 31, 3) := by decide +kernel
theorem dX3_valueOf_103 : decode cX3_valueOf 103 = .ok (.iload_n 2, 1) := by decide +kernel
theorem dX3_valueOf_104 : decode cX3_valueOf 104 = .ok (.aload_n 0, 1) := by decide +kernel
theorem dX3_valueOf_105 : decode cX3_valueOf 105 = .ok (.getfield 9, 3) := by decide +kernel
theorem dX3_valueOf_108 : decode cX3_valueOf 108 = .ok (.aload_n 0, 1) := by decide +kernel
theorem dX3_valueOf_109 : decode cX3_valueOf 109 = .ok (.getfield 36, 3) := by decide +kernel
theorem dX3_valueOf_112 : decode cX3_valueOf 112 = .ok (.iload_n 3, 1) := by decide +kernel
theorem dX3_valueOf_113 : decode cX3_valueOf 113 = .ok (.iaload, 1) := by decide +kernel
theorem dX3_valueOf_114 : decode cX3_valueOf 114 = .ok (.iaload, 1) := by decide +kernel
theorem dX3_valueOf_115 : decode cX3_valueOf 115 = .ok (.aload_n 0, 1) := by decide +kernel
theorem dX3_valueOf_116 : decode cX3_valueOf 116 = .ok (.getfield 9, 3) := by decide +kernel
theorem dX3_valueOf_119 : decode cX3_valueOf 119 = .ok (.aload_n 0, 1) := by decide +kernel
theorem dX3_valueOf_120 : decode cX3_valueOf 120 = .ok (.getfield 39, 3) := by decide +kernel
theorem dX3_valueOf_123 : decode cX3_valueOf 123 = .ok (.iload_n 3, 1) := by decide +kernel
theorem dX3_valueOf_124 : decode cX3_valueOf 124 = .ok (.iaload, 1) := by decide +kernel
theorem dX3_valueOf_125 : decode cX3_valueOf 125 = .ok (.iaload, 1) := by decide +kernel
theorem dX3_valueOf_126 : decode cX3_valueOf 126 = .ok (.invokestatic 77, 3) := by decide +kernel
theorem dX3_valueOf_129 : decode cX3_valueOf 129 = .ok (.iadd, 1) := by decide +kernel
theorem dX3_valueOf_130 : decode cX3_valueOf 130 = .ok (.istore_n 2, 1) := by decide +kernel
theorem dX3_valueOf_131 : decode cX3_valueOf 131 = .ok (.iinc 3 1, 3) := by decide +kernel
theorem dX3_valueOf_134 : decode cX3_valueOf 134 = .ok (.goto (-93), 3) := by decide +kernel
theorem dX3_valueOf_137 : decode cX3_valueOf 137 = .ok (.iload_n 2, 1) := by decide +kernel
theorem dX3_valueOf_138 : decode cX3_valueOf 138 = .ok (.ireturn, 1) := by decide +kernel
theorem dX3_isAmong_0 : decode cX3_isAmong 0 = .ok (.iload_n 0, 1) := by decide +kernel
theorem dX3_isAmong_1 : decode cX3_isAmong 1 = .ok (.bipush (-4), 2) := by decide +kernel
theorem dX3_isAmong_3 : decode cX3_isAmong 3 = .ok (.if_icmp .eq 16, 3) := by decide +kernel
theorem dX3_isAmong_6 : decode cX3_isAmong 6 = .ok (.iload_n 1, 1) := by decide +kernel
theorem dX3_isAmong_7 : decode cX3_isAmong 7 = .ok (.iload_n 0, 1) := by decide +kernel
theorem dX3_isAmong_8 : decode cX3_isAmong 8 = .ok (.ishr, 1) := by decide +kernel
theorem dX3_isAmong_9 : decode cX3_isAmong 9 = .ok (.iconst 1, 1) := by decide +kernel
theorem dX3_isAmong_10 : decode cX3_isAmong 10 = .ok (.iand, 1) := by decide +kernel
theorem dX3_isAmong_11 : decode cX3_isAmong 11 = .ok (.iconst 1, 1) := by decide +kernel
theorem dX3_isAmong_12 : decode cX3_isAmong 12 = .ok (.if_icmp .ne 7, 3) := by decide +kernel
theorem dX3_isAmong_15 : decode cX3_isAmong 15 = .ok (.iconst 1, 1) := by decide +kernel
theorem dX3_isAmong_16 : decode cX3_isAmong 16 = .ok (.goto 4, 3) := by decide +kernel
theorem dX3_isAmong_19 : decode cX3_isAmong 19 = .ok (.iconst 0, 1) := by decide +kernel
theorem dX3_isAmong_20 : decode cX3_isAmong 20 = .ok (.ireturn, 1) := by decide +kernel
theorem dX3_exposesAll_0 : decode cX3_exposesAll 0 = .ok (.iconst 0, 1) := by decide +kernel
theorem dX3_exposesAll_1 : decode cX3_exposesAll 1 = .ok (.istore_n 2, 1) := by decide +kernel
theorem dX3_exposesAll_2 : decode cX3_exposesAll 2 = .ok (.iload_n 2, 1) := by decide +kernel
theorem dX3_exposesAll_3 : decode cX3_exposesAll 3 = .ok (.aload_n 0, 1) := by decide +kernel
theorem dX3_exposesAll_4 : decode cX3_exposesAll 4 = .ok (.getfield 58, 3) := by decide +kernel
theorem dX3_exposesAll_7 : decode cX3_exposesAll 7 = .ok (.if_icmp .ge 73, 3) := by decide +kernel
theorem dX3_exposesAll_10 : decode cX3_exposesAll 10 = .ok (.iconst 0, 1) := by decide +kernel
theorem dX3_exposesAll_11 : decode cX3_exposesAll 11 = .ok (.istore_n 3, 1) := by decide +kernel
theorem dX3_exposesAll_12 : decode cX3_exposesAll 12 = .ok (.iconst 0, 1) := by decide +kernel
theorem dX3_exposesAll_13 : decode cX3_exposesAll 13 = .ok (.istore 4, 2) := by decide +kernel
theorem dX3_exposesAll_15 : decode cX3_exposesAll 15 = .ok (.iload 4, 2) := by decide +kernel
theorem dX3_exposesAll_17 : decode cX3_exposesAll 17 = .ok (.aload_n 0, 1) := by decide +kernel
theorem dX3_exposesAll_18 : decode cX3_exposesAll 18 = .ok (.getfield 48, 3) := by decide +kernel
theorem dX3_exposesAll_21 : decode cX3_exposesAll 21 = .ok (.if_icmp .ge 47, 3) := by decide +kernel
theorem dX3_exposesAll_24 : decode cX3_exposesAll 24 = .ok (.iload_n 3, 1) := by decide +kernel
theorem dX3_exposesAll_25 : decode cX3_exposesAll 25 = .ok (.ifCond .ne 31, 3) := by decide +kernel
theorem dX3_exposesAll_28 : decode cX3_exposesAll 28 = .ok (.iload_n 1, 1) := by decide +kernel
theorem dX3_exposesAll_29 : decode cX3_exposesAll 29 = .ok (.iload 4, 2) := by decide +kernel
theorem dX3_exposesAll_31 : decode cX3_exposesAll 31 = .ok (.ishr, 1) := by decide +kernel
theorem dX3_exposesAll_32 : decode cX3_exposesAll 32 = .ok (.iconst 1, 1) := by decide +kernel
theorem dX3_exposesAll_33 : decode cX3_exposesAll 33 = .ok (.iand, 1) := by decide +kernel
theorem dX3_exposesAll_34 : decode cX3_exposesAll 34 = .ok (.iconst 1, 1) := by decide +kernel
theorem dX3_exposesAll_35 : decode cX3_exposesAll 35 = .ok (.if_icmp .ne 25, 3) := by decide +kernel
theorem dX3_exposesAll_38 : decode cX3_exposesAll 38 = .ok (.aload_n 0, 1) := by decide +kernel
theorem dX3_exposesAll_39 : decode cX3_exposesAll 39 = .ok (.iload 4, 2) := by decide +kernel
theorem dX3_exposesAll_41 : decode cX3_exposesAll 41 = .ok (.invokevirtual 93, 3) := by decide +kernel
theorem dX3_exposesAll_44 : decode cX3_exposesAll 44 = .ok (.aload_n 0, 1) := by decide +kernel
theorem dX3_exposesAll_45 : decode cX3_exposesAll 45 = .ok (.getfield 42, 3) := by decide +kernel
theorem dX3_exposesAll_48 : decode cX3_exposesAll 48 = .ok (.iload_n 2, 1) := by decide +kernel
theorem dX3_exposesAll_49 : decode cX3_exposesAll 49 = .ok (.iaload, 1) := by decide +kernel
theorem dX3_exposesAll_50 : decode cX3_exposesAll 50 = .ok (.invokestatic 117, 3) := by decide +kernel
theorem dX3_exposesAll_53 : decode cX3_exposesAll 53 = .ok (.ifCond .eq 7, 3) := by decide +kernel
theorem dX3_exposesAll_56 : decode cX3_exposesAll 56 = .ok (.iconst 1, 1) := by decide +kernel
theorem dX3_exposesAll_57 : decode cX3_exposesAll 57 = .ok (.goto 4, 3) := by decide +kernel
theorem dX3_exposesAll_60 : decode cX3_exposesAll 60 = .ok (.iconst 0, 1) := by decide +kernel
theorem dX3_exposesAll_61 : decode cX3_exposesAll 61 = .ok (.istore_n 3, 1) := by decide +kernel
theorem dX3_exposesAll_62 : decode cX3_exposesAll 62 = .ok (.iinc 4 1, 3) := by decide +kernel
theorem dX3_exposesAll_65 : decode cX3_exposesAll 65 = .ok (.goto (-50), 3) := by decide +kernel
theorem dX3_exposesAll_68 : decode cX3_exposesAll 68 = .ok (.iload_n 3, 1) := by decide +kernel
theorem dX3_exposesAll_69 : decode cX3_exposesAll 69 = .ok (.ifCond .ne 5, 3) := by decide +kernel
theorem dX3_exposesAll_72 : decode cX3_exposesAll 72 = .ok (.iconst 0, 1) := by decide +kernel
theorem dX3_exposesAll_73 : decode cX3_exposesAll 73 = .ok (.ireturn, 1) := by decide +kernel
theorem dX3_exposesAll_74 : decode cX3_exposesAll 74 = .ok (.iinc 2 1, 3) := by decide +kernel
theorem dX3_exposesAll_77 : decode cX3_exposesAll 77 = .ok (.goto (-75), 3) := by decide +kernel
theorem dX3_exposesAll_80 : decode cX3_exposesAll 80 = .ok (.iconst 1, 1) := by decide +kernel
theorem dX3_exposesAll_81 : decode cX3_exposesAll 81 = .ok (.ireturn, 1) := by decide +kernel
theorem dX3_passDay_0 : decode cX3_passDay 0 = .ok (.iconst 0, 1) := by decide +kernel
theorem dX3_passDay_1 : decode cX3_passDay 1 = .ok (.istore_n 1, 1) := by decide +kernel
theorem dX3_passDay_2 : decode cX3_passDay 2 = .ok (.aload_n 0, 1) := by decide +kernel
theorem dX3_passDay_3 : decode cX3_passDay 3 = .ok (.invokevirtual 120, 3) := by decide +kernel
theorem dX3_passDay_6 : decode cX3_passDay 6 = .ok (.istore_n 2, 1) := by decide +kernel
theorem dX3_passDay_7 : decode cX3_passDay 7 = .ok (.iload_n 2, 1) := by decide +kernel
theorem dX3_passDay_8 : decode cX3_passDay 8 = .ok (.bipush (-4), 2) := by decide +kernel
theorem dX3_passDay_10 : decode cX3_passDay 10 = .ok (.if_icmp .eq 26, 3) := by decide +kernel
theorem dX3_passDay_13 : decode cX3_passDay 13 = .ok (.aload_n 0, 1) := by decide +kernel
theorem dX3_passDay_14 : decode cX3_passDay 14 = .ok (.aload_n 0, 1) := by decide +kernel
theorem dX3_passDay_15 : decode cX3_passDay 15 = .ok (.getfield 61, 3) := by decide +kernel
theorem dX3_passDay_18 : decode cX3_passDay 18 = .ok (.aload_n 0, 1) := by decide +kernel
theorem dX3_passDay_19 : decode cX3_passDay 19 = .ok (.getfield 48, 3) := by decide +kernel
theorem dX3_passDay_22 : decode cX3_passDay 22 = .ok (.invokestatic 124, 3) := by decide +kernel
theorem dX3_passDay_25 : decode cX3_passDay 25 = .ok (.iload_n 2, 1) := by decide +kernel
theorem dX3_passDay_26 : decode cX3_passDay 26 = .ok (.invokevirtual 100, 3) := by decide +kernel
theorem dX3_passDay_29 : decode cX3_passDay 29 = .ok (.aload_n 0, 1) := by decide +kernel
theorem dX3_passDay_30 : decode cX3_passDay 30 = .ok (.iload_n 2, 1) := by decide +kernel
theorem dX3_passDay_31 : decode cX3_passDay 31 = .ok (.putfield 64, 3) := by decide +kernel
theorem dX3_passDay_34 : decode cX3_passDay 34 = .ok (.iconst 1, 1) := by decide +kernel
theorem dX3_passDay_35 : decode cX3_passDay 35 = .ok (.istore_n 1, 1) := by decide +kernel
theorem dX3_passDay_36 : decode cX3_passDay 36 = .ok (.iconst 0, 1) := by decide +kernel
theorem dX3_passDay_37 : decode cX3_passDay 37 = .ok (.istore_n 3, 1) := by decide +kernel
theorem dX3_passDay_38 : decode cX3_passDay 38 = .ok (.iload_n 3, 1) := by decide +kernel
theorem dX3_passDay_39 : decode cX3_passDay 39 = .ok (.aload_n 0, 1) := by decide +kernel
theorem dX3_passDay_40 : decode cX3_passDay 40 = .ok (.getfield 52, 3) := by decide +kernel
theorem dX3_passDay_43 : decode cX3_passDay 43 = .ok (.if_icmp .ge 33, 3) := by decide +kernel
theorem dX3_passDay_46 : decode cX3_passDay 46 = .ok (.aload_n 0, 1) := by decide +kernel
theorem dX3_passDay_47 : decode cX3_passDay 47 = .ok (.getfield 33, 3) := by decide +kernel
theorem dX3_passDay_50 : decode cX3_passDay 50 = .ok (.iload_n 3, 1) := by decide +kernel
theorem dX3_passDay_51 : decode cX3_passDay 51 = .ok (.sipush 999, 3) := by decide +kernel
theorem dX3_passDay_54 : decode cX3_passDay 54 = .ok (.aload_n 0, 1) := by decide +kernel
theorem dX3_passDay_55 : decode cX3_passDay 55 = .ok (.getfield 33, 3) := by decide +kernel
theorem dX3_passDay_58 : decode cX3_passDay 58 = .ok (.iload_n 3, 1) := by decide +kernel
theorem dX3_passDay_59 : decode cX3_passDay 59 = .ok (.iaload, 1) := by decide +kernel
theorem dX3_passDay_60 : decode cX3_passDay 60 = .ok (.aload_n 0, 1) := by decide +kernel
theorem dX3_passDay_61 : decode cX3_passDay 61 = .ok (.iload_n 3, 1) := by decide +kernel
theorem dX3_passDay_62 : decode cX3_passDay 62 = .ok (.invokevirtual 127, 3) := by decide +kernel
theorem dX3_passDay_65 : decode cX3_passDay 65 = .ok (.iadd, 1) := by decide +kernel
theorem dX3_passDay_66 : decode cX3_passDay 66 = .ok (.invokestatic 77, 3) := by decide +kernel
theorem dX3_passDay_69 : decode cX3_passDay 69 = .ok (.iastore, 1) := by decide +kernel
theorem dX3_passDay_70 : decode cX3_passDay 70 = .ok (.iinc 3 1, 3) := by decide +kernel
theorem dX3_passDay_73 : decode cX3_passDay 73 = .ok (.goto (-35), 3) := by decide +kernel
theorem dX3_passDay_76 : decode cX3_passDay 76 = .ok (.aload_n 0, 1) := by decide +kernel
theorem dX3_passDay_77 : decode cX3_passDay 77 = .ok (.dup, 1) := by decide +kernel
theorem dX3_passDay_78 : decode cX3_passDay 78 = .ok (.getfield 61, 3) := by decide +kernel
theorem dX3_passDay_81 : decode cX3_passDay 81 = .ok (.iconst 1, 1) := by decide +kernel
theorem dX3_passDay_82 : decode cX3_passDay 82 = .ok (.iadd, 1) := by decide +kernel
theorem dX3_passDay_83 : decode cX3_passDay 83 = .ok (.putfield 61, 3) := by decide +kernel
theorem dX3_passDay_86 : decode cX3_passDay 86 = .ok (.iload_n 1, 1) := by decide +kernel
theorem dX3_passDay_87 : decode cX3_passDay 87 = .ok (.ireturn, 1) := by decide +kernel
theorem dX3_comes_0 : decode cX3_comes 0 = .ok (.aload_n 0, 1) := by decide +kernel
theorem dX3_comes_1 : decode cX3_comes 1 = .ok (.getfield 64, 3) := by decide +kernel
theorem dX3_comes_4 : decode cX3_comes 4 = .ok (.bipush (-4), 2) := by decide +kernel
theorem dX3_comes_6 : decode cX3_comes 6 = .ok (.if_icmp .ne 7, 3) := by decide +kernel
theorem dX3_comes_9 : decode cX3_comes 9 = .ok (.iconst (-1), 1) := by decide +kernel
theorem dX3_comes_10 : decode cX3_comes 10 = .ok (.goto 7, 3) := by decide +kernel
theorem dX3_comes_13 : decode cX3_comes 13 = .ok (.aload_n 0, 1) := by decide +kernel
theorem dX3_comes_14 : decode cX3_comes 14 = .ok (.getfield 64, 3) := by decide +kernel
theorem dX3_comes_17 : decode cX3_comes 17 = .ok (.istore_n 1, 1) := by decide +kernel
theorem dX3_comes_18 : decode cX3_comes 18 = .ok (.aload_n 0, 1) := by decide +kernel
theorem dX3_comes_19 : decode cX3_comes 19 = .ok (.getfield 61, 3) := by decide +kernel
theorem dX3_comes_22 : decode cX3_comes 22 = .ok (.bipush 7, 2) := by decide +kernel
theorem dX3_comes_24 : decode cX3_comes 24 = .ok (.invokestatic 124, 3) := by decide +kernel
theorem dX3_comes_27 : decode cX3_comes 27 = .ok (.istore_n 2, 1) := by decide +kernel
theorem dX3_comes_28 : decode cX3_comes 28 = .ok (.iconst 1, 1) := by decide +kernel
theorem dX3_comes_29 : decode cX3_comes 29 = .ok (.istore_n 3, 1) := by decide +kernel
theorem dX3_comes_30 : decode cX3_comes 30 = .ok (.iload_n 3, 1) := by decide +kernel
theorem dX3_comes_31 : decode cX3_comes 31 = .ok (.aload_n 0, 1) := by decide +kernel
theorem dX3_comes_32 : decode cX3_comes 32 = .ok (.getfield 52, 3) := by decide +kernel
theorem dX3_comes_35 : decode cX3_comes 35 = .ok (.if_icmp .gt 39, 3) := by decide +kernel
theorem dX3_comes_38 : decode cX3_comes 38 = .ok (.iload_n 1, 1) := by decide +kernel
theorem dX3_comes_39 : decode cX3_comes 39 = .ok (.iload_n 3, 1) := by decide +kernel
theorem dX3_comes_40 : decode cX3_comes 40 = .ok (.iadd, 1) := by decide +kernel
theorem dX3_comes_41 : decode cX3_comes 41 = .ok (.aload_n 0, 1) := by decide +kernel
theorem dX3_comes_42 : decode cX3_comes 42 = .ok (.getfield 52, 3) := by decide +kernel
theorem dX3_comes_45 : decode cX3_comes 45 = .ok (.invokestatic 124, 3) := by decide +kernel
theorem dX3_comes_48 : decode cX3_comes 48 = .ok (.istore 4, 2) := by decide +kernel
theorem dX3_comes_50 : decode cX3_comes 50 = .ok (.aload_n 0, 1) := by decide +kernel
theorem dX3_comes_51 : decode cX3_comes 51 = .ok (.getfield 30, 3) := by decide +kernel
theorem dX3_comes_54 : decode cX3_comes 54 = .ok (.iload 4, 2) := by decide +kernel
theorem dX3_comes_56 : decode cX3_comes 56 = .ok (.iaload, 1) := by decide +kernel
theorem dX3_comes_57 : decode cX3_comes 57 = .ok (.iload_n 2, 1) := by decide +kernel
theorem dX3_comes_58 : decode cX3_comes 58 = .ok (.ishr, 1) := by decide +kernel
theorem dX3_comes_59 : decode cX3_comes 59 = .ok (.iconst 1, 1) := by decide +kernel
theorem dX3_comes_60 : decode cX3_comes 60 = .ok (.iand, 1) := by decide +kernel
theorem dX3_comes_61 : decode cX3_comes 61 = .ok (.iconst 1, 1) := by decide +kernel
theorem dX3_comes_62 : decode cX3_comes 62 = .ok (.if_icmp .ne 6, 3) := by decide +kernel
theorem dX3_comes_65 : decode cX3_comes 65 = .ok (.iload 4, 2) := by decide +kernel
theorem dX3_comes_67 : decode cX3_comes 67 = .ok (.ireturn, 1) := by decide +kernel
theorem dX3_comes_68 : decode cX3_comes 68 = .ok (.iinc 3 1, 3) := by decide +kernel
theorem dX3_comes_71 : decode cX3_comes 71 = .ok (.goto (-41), 3) := by decide +kernel
theorem dX3_comes_74 : decode cX3_comes 74 = .ok (.bipush (-4), 2) := by decide +kernel
theorem dX3_comes_76 : decode cX3_comes 76 = .ok (.ireturn, 1) := by decide +kernel
theorem dX3_income_0 : decode cX3_income 0 = .ok (.iconst 0, 1) := by decide +kernel
theorem dX3_income_1 : decode cX3_income 1 = .ok (.istore_n 2, 1) := by decide +kernel
theorem dX3_income_2 : decode cX3_income 2 = .ok (.iconst 0, 1) := by decide +kernel
theorem dX3_income_3 : decode cX3_income 3 = .ok (.istore_n 3, 1) := by decide +kernel
theorem dX3_income_4 : decode cX3_income 4 = .ok (.iload_n 3, 1) := by decide +kernel
theorem dX3_income_5 : decode cX3_income 5 = .ok (.aload_n 0, 1) := by decide +kernel
theorem dX3_income_6 : decode cX3_income 6 = .ok (.getfield 48, 3) := by decide +kernel
theorem dX3_income_9 : decode cX3_income 9 = .ok (.if_icmp .ge 27, 3) := by decide +kernel
theorem dX3_income_12 : decode cX3_income 12 = .ok (.aload_n 0, 1) := by decide +kernel
theorem dX3_income_13 : decode cX3_income 13 = .ok (.iload_n 3, 1) := by decide +kernel
theorem dX3_income_14 : decode cX3_income 14 = .ok (.invokevirtual 93, 3) := by decide +kernel
theorem dX3_income_17 : decode cX3_income 17 = .ok (.iload_n 1, 1) := by decide +kernel
theorem dX3_income_18 : decode cX3_income 18 = .ok (.if_icmp .ne 12, 3) := by decide +kernel
theorem dX3_income_21 : decode cX3_income 21 = .ok (.iload_n 2, 1) := by decide +kernel
theorem dX3_income_22 : decode cX3_income 22 = .ok (.aload_n 0, 1) := by decide +kernel
theorem dX3_income_23 : decode cX3_income 23 = .ok (.getfield 9, 3) := by decide +kernel
theorem dX3_income_26 : decode cX3_income 26 = .ok (.iload_n 3, 1) := by decide +kernel
theorem dX3_income_27 : decode cX3_income 27 = .ok (.iaload, 1) := by decide +kernel
theorem dX3_income_28 : decode cX3_income 28 = .ok (.iadd, 1) := by decide +kernel
theorem dX3_income_29 : decode cX3_income 29 = .ok (.istore_n 2, 1) := by decide +kernel
theorem dX3_income_30 : decode cX3_income 30 = .ok (.iinc 3 1, 3) := by decide +kernel
theorem dX3_income_33 : decode cX3_income 33 = .ok (.goto (-29), 3) := by decide +kernel
theorem dX3_income_36 : decode cX3_income 36 = .ok (.aload_n 0, 1) := by decide +kernel
theorem dX3_income_37 : decode cX3_income 37 = .ok (.getfield 21, 3) := by decide +kernel
theorem dX3_income_40 : decode cX3_income 40 = .ok (.iload_n 1, 1) := by decide +kernel
theorem dX3_income_41 : decode cX3_income 41 = .ok (.iaload, 1) := by decide +kernel
theorem dX3_income_42 : decode cX3_income 42 = .ok (.iconst 2, 1) := by decide +kernel
theorem dX3_income_43 : decode cX3_income 43 = .ok (.if_icmp .ne 9, 3) := by decide +kernel
theorem dX3_income_46 : decode cX3_income 46 = .ok (.iload_n 2, 1) := by decide +kernel
theorem dX3_income_47 : decode cX3_income 47 = .ok (.iconst 2, 1) := by decide +kernel
theorem dX3_income_48 : decode cX3_income 48 = .ok (.idiv, 1) := by decide +kernel
theorem dX3_income_49 : decode cX3_income 49 = .ok (.goto 4, 3) := by decide +kernel
theorem dX3_income_52 : decode cX3_income 52 = .ok (.iload_n 2, 1) := by decide +kernel
theorem dX3_income_53 : decode cX3_income 53 = .ok (.ireturn, 1) := by decide +kernel
theorem dX4_init_0 : decode cX4_init 0 = .ok (.aload_n 0, 1) := by decide +kernel
theorem dX4_init_1 : decode cX4_init 1 = .ok (.invokespecial 3, 3) := by decide +kernel
theorem dX4_init_4 : decode cX4_init 4 = .ok (.aload_n 0, 1) := by decide +kernel
theorem dX4_init_5 : decode cX4_init 5 = .ok (.iconst 5, 1) := by decide +kernel
theorem dX4_init_6 : decode cX4_init 6 = .ok (.newarray .int, 2) := by decide +kernel
theorem dX4_init_8 : decode cX4_init 8 = .ok (.putfield 9, 3) := by decide +kernel
theorem dX4_init_11 : decode cX4_init 11 = .ok (.aload_n 0, 1) := by decide +kernel
theorem dX4_init_12 : decode cX4_init 12 = .ok (.bipush 6, 2) := by decide +kernel
theorem dX4_init_14 : decode cX4_init 14 = .ok (.newarray .int, 2) := by decide +kernel
theorem dX4_init_16 : decode cX4_init 16 = .ok (.putfield 15, 3) := by decide +kernel
theorem dX4_init_19 : decode cX4_init 19 = .ok (.aload_n 0, 1) := by decide +kernel
theorem dX4_init_20 : decode cX4_init 20 = .ok (.bipush 6, 2) := by decide +kernel
theorem dX4_init_22 : decode cX4_init 22 = .ok (.newarray .int, 2) := by decide +kernel
theorem dX4_init_24 : decode cX4_init 24 = .ok (.putfield 18, 3) := by decide +kernel
theorem dX4_init_27 : decode cX4_init 27 = .ok (.aload_n 0, 1) := by decide +kernel
theorem dX4_init_28 : decode cX4_init 28 = .ok (.bipush 7, 2) := by decide +kernel
theorem dX4_init_30 : decode cX4_init 30 = .ok (.newarray .int, 2) := by decide +kernel
theorem dX4_init_32 : decode cX4_init 32 = .ok (.putfield 21, 3) := by decide +kernel
theorem dX4_init_35 : decode cX4_init 35 = .ok (.aload_n 0, 1) := by decide +kernel
theorem dX4_init_36 : decode cX4_init 36 = .ok (.bipush 30, 2) := by decide +kernel
theorem dX4_init_38 : decode cX4_init 38 = .ok (.newarray .int, 2) := by decide +kernel
theorem dX4_init_40 : decode cX4_init 40 = .ok (.putfield 24, 3) := by decide +kernel
theorem dX4_init_43 : decode cX4_init 43 = .ok (.aload_n 0, 1) := by decide +kernel
theorem dX4_init_44 : decode cX4_init 44 = .ok (.aload_n 1, 1) := by decide +kernel
theorem dX4_init_45 : decode cX4_init 45 = .ok (.putfield 27, 3) := by decide +kernel
theorem dX4_init_48 : decode cX4_init 48 = .ok (.aload_n 0, 1) := by decide +kernel
theorem dX4_init_49 : decode cX4_init 49 = .ok (.aload_n 2, 1) := by decide +kernel
theorem dX4_init_50 : decode cX4_init 50 = .ok (.putfield 31, 3) := by decide +kernel
theorem dX4_init_53 : decode cX4_init 53 = .ok (.return_, 1) := by decide +kernel
theorem dX4_begin_0 : decode cX4_begin 0 = .ok (.aload_n 0, 1) := by decide +kernel
theorem dX4_begin_1 : decode cX4_begin 1 = .ok (.iload_n 1, 1) := by decide +kernel
theorem dX4_begin_2 : decode cX4_begin 2 = .ok (.ifCond .eq 13, 3) := by decide +kernel
theorem dX4_begin_5 : decode cX4_begin 5 = .ok (.aload_n 0, 1) := by decide +kernel
theorem dX4_begin_6 : decode cX4_begin 6 = .ok (.getfield 31, 3) := by decide +kernel
theorem dX4_begin_9 : decode cX4_begin 9 = .ok (.getfield 35, 3) := by decide +kernel
theorem dX4_begin_12 : decode cX4_begin 12 = .ok (.goto 4, 3) := by decide +kernel
theorem dX4_begin_15 : decode cX4_begin 15 = .ok (.iconst 0, 1) := by decide +kernel
theorem dX4_begin_16 : decode cX4_begin 16 = .ok (.putfield 41, 3) := by decide +kernel
theorem dX4_begin_19 : decode cX4_begin 19 = .ok (.aload_n 0, 1) := by decide +kernel
theorem dX4_begin_20 : decode cX4_begin 20 = .ok (.bipush 6, 2) := by decide +kernel
theorem dX4_begin_22 : decode cX4_begin 22 = .ok (.putfield 44, 3) := by decide +kernel
theorem dX4_begin_25 : decode cX4_begin 25 = .ok (.aload_n 0, 1) := by decide +kernel
theorem dX4_begin_26 : decode cX4_begin 26 = .ok (.sipush 1000, 3) := by decide +kernel
theorem dX4_begin_29 : decode cX4_begin 29 = .ok (.putfield 47, 3) := by decide +kernel
theorem dX4_begin_32 : decode cX4_begin 32 = .ok (.aload_n 0, 1) := by decide +kernel
theorem dX4_begin_33 : decode cX4_begin 33 = .ok (.aload_n 0, 1) := by decide +kernel
theorem dX4_begin_34 : decode cX4_begin 34 = .ok (.getfield 27, 3) := by decide +kernel
theorem dX4_begin_37 : decode cX4_begin 37 = .ok (.getfield 50, 3) := by decide +kernel
theorem dX4_begin_40 : decode cX4_begin 40 = .ok (.putfield 55, 3) := by decide +kernel
theorem dX4_begin_43 : decode cX4_begin 43 = .ok (.aload_n 0, 1) := by decide +kernel
theorem dX4_begin_44 : decode cX4_begin 44 = .ok (.getfield 24, 3) := by decide +kernel
theorem dX4_begin_47 : decode cX4_begin 47 = .ok (.iconst 0, 1) := by decide +kernel
theorem dX4_begin_48 : decode cX4_begin 48 = .ok (.invokestatic 58, 3) := by decide +kernel
theorem dX4_begin_51 : decode cX4_begin 51 = .ok (.iconst 0, 1) := by decide +kernel
theorem dX4_begin_52 : decode cX4_begin 52 = .ok (.istore_n 2, 1) := by decide +kernel
theorem dX4_begin_53 : decode cX4_begin 53 = .ok (.iload_n 2, 1) := by decide +kernel
theorem dX4_begin_54 : decode cX4_begin 54 = .ok (.aload_n 0, 1) := by decide +kernel
theorem dX4_begin_55 : decode cX4_begin 55 = .ok (.getfield 27, 3) := by decide +kernel
theorem dX4_begin_58 : decode cX4_begin 58 = .ok (.getfield 64, 3) := by decide +kernel
theorem dX4_begin_61 : decode cX4_begin 61 = .ok (.if_icmp .ge 59, 3) := by decide +kernel
theorem dX4_begin_64 : decode cX4_begin 64 = .ok (.aload_n 0, 1) := by decide +kernel
theorem dX4_begin_65 : decode cX4_begin 65 = .ok (.getfield 9, 3) := by decide +kernel
theorem dX4_begin_68 : decode cX4_begin 68 = .ok (.iload_n 2, 1) := by decide +kernel
theorem dX4_begin_69 : decode cX4_begin 69 = .ok (.iconst 0, 1) := by decide +kernel
theorem dX4_begin_70 : decode cX4_begin 70 = .ok (.iastore, 1) := by decide +kernel
theorem dX4_begin_71 : decode cX4_begin 71 = .ok (.iconst 0, 1) := by decide +kernel
theorem dX4_begin_72 : decode cX4_begin 72 = .ok (.istore_n 3, 1) := by decide +kernel
theorem dX4_begin_73 : decode cX4_begin 73 = .ok (.iload_n 3, 1) := by decide +kernel
theorem dX4_begin_74 : decode cX4_begin 74 = .ok (.aload_n 0, 1) := by decide +kernel
theorem dX4_begin_75 : decode cX4_begin 75 = .ok (.getfield 27, 3) := by decide +kernel
theorem dX4_begin_78 : decode cX4_begin 78 = .ok (.getfield 64, 3) := by decide +kernel
theorem dX4_begin_81 : decode cX4_begin 81 = .ok (.if_icmp .ge 33, 3) := by decide +kernel
theorem dX4_begin_84 : decode cX4_begin 84 = .ok (.aload_n 0, 1) := by decide +kernel
theorem dX4_begin_85 : decode cX4_begin 85 = .ok (.getfield 27, 3) := by decide +kernel
theorem dX4_begin_88 : decode cX4_begin 88 = .ok (.iload_n 2, 1) := by decide +kernel
theorem dX4_begin_89 : decode cX4_begin 89 = .ok (.iload_n 3, 1) := by decide +kernel
theorem dX4_begin_90 : decode cX4_begin 90 = .ok (.invokevirtual 67, 3) := by decide +kernel
theorem dX4_begin_93 : decode cX4_begin 93 = .ok (.ifCond .eq 15, 3) := by decide +kernel
theorem dX4_begin_96 : decode cX4_begin 96 = .ok (.aload_n 0, 1) := by decide +kernel
theorem dX4_begin_97 : decode cX4_begin 97 = .ok (.getfield 9, 3) := by decide +kernel
theorem dX4_begin_100 : decode cX4_begin 100 = .ok (.iload_n 2, 1) := by decide +kernel
theorem dX4_begin_101 : decode cX4_begin 101 = .ok (.dup2, 1) := by decide +kernel
theorem dX4_begin_102 : decode cX4_begin 102 = .ok (.iaload, 1) := by decide +kernel
theorem dX4_begin_103 : decode cX4_begin 103 = .ok (.iconst 1, 1) := by decide +kernel
theorem dX4_begin_104 : decode cX4_begin 104 = .ok (.iload_n 3, 1) := by decide +kernel
theorem dX4_begin_105 : decode cX4_begin 105 = .ok (.ishl, 1) := by decide +kernel
theorem dX4_begin_106 : decode cX4_begin 106 = .ok (.ior, 1) := by decide +kernel
theorem dX4_begin_107 : decode cX4_begin 107 = .ok (.iastore, 1) := by decide +kernel
theorem dX4_begin_108 : decode cX4_begin 108 = .ok (.iinc 3 1, 3) := by decide +kernel
theorem dX4_begin_111 : decode cX4_begin 111 = .ok (.goto (-38), 3) := by decide +kernel
theorem dX4_begin_114 : decode cX4_begin 114 = .ok (.iinc 2 1, 3) := by decide +kernel
theorem dX4_begin_117 : decode cX4_begin 117 = .ok (.goto (-64), 3) := by decide +kernel
theorem dX4_begin_120 : decode cX4_begin 120 = .ok (.aload_n 0, 1) := by decide +kernel
theorem dX4_begin_121 : decode cX4_begin 121 = .ok (.iconst 0, 1) := by decide +kernel
theorem dX4_begin_122 : decode cX4_begin 122 = .ok (.invokevirtual 71, 3) := by decide +kernel
theorem dX4_begin_125 : decode cX4_begin 125 = .ok (.return_, 1) := by decide +kernel
theorem dX4_priceChanges_0 : decode cX4_priceChanges 0 = .ok (.iconst 0, 1) := by decide +kernel
theorem dX4_priceChanges_1 : decode cX4_priceChanges 1 = .ok (.istore_n 1, 1) := by decide +kernel
theorem dX4_priceChanges_2 : decode cX4_priceChanges 2 = .ok (.iload_n 1, 1) := by decide +kernel
theorem dX4_priceChanges_3 : decode cX4_priceChanges 3 = .ok (.aload_n 0, 1) := by decide +kernel
theorem dX4_priceChanges_4 : decode cX4_priceChanges 4 = .ok (.getfield 27, 3) := by decide +kernel
theorem dX4_priceChanges_7 : decode cX4_priceChanges 7 = .ok (.getfield 50, 3) := by decide +kernel
theorem dX4_priceChanges_10 : decode cX4_priceChanges 10 = .ok (.if_icmp .ge 55, 3) := by decide +kernel
theorem dX4_priceChanges_13 : decode cX4_priceChanges 13 = .ok (.iconst 0, 1) := by decide +kernel
theorem dX4_priceChanges_14 : decode cX4_priceChanges 14 = .ok (.istore_n 2, 1) := by decide +kernel
theorem dX4_priceChanges_15 : decode cX4_priceChanges 15 = .ok (.iload_n 2, 1) := by decide +kernel
theorem dX4_priceChanges_16 : decode cX4_priceChanges 16 = .ok (.aload_n 0, 1) := by decide +kernel
theorem dX4_priceChanges_17 : decode cX4_priceChanges 17 = .ok (.getfield 27, 3) := by decide +kernel
theorem dX4_priceChanges_20 : decode cX4_priceChanges 20 = .ok (.getfield 64, 3) := by decide +kernel
theorem dX4_priceChanges_23 : decode cX4_priceChanges 23 = .ok (.if_icmp .ge 36, 3) := by decide +kernel
theorem dX4_priceChanges_26 : decode cX4_priceChanges 26 = .ok (.aload_n 0, 1) := by decide +kernel
theorem dX4_priceChanges_27 : decode cX4_priceChanges 27 = .ok (.getfield 24, 3) := by decide +kernel
theorem dX4_priceChanges_30 : decode cX4_priceChanges 30 = .ok (.iload_n 1, 1) := by decide +kernel
theorem dX4_priceChanges_31 : decode cX4_priceChanges 31 = .ok (.iconst 5, 1) := by decide +kernel
theorem dX4_priceChanges_32 : decode cX4_priceChanges 32 = .ok (.imul, 1) := by decide +kernel
theorem dX4_priceChanges_33 : decode cX4_priceChanges 33 = .ok (.iload_n 2, 1) := by decide +kernel
theorem dX4_priceChanges_34 : decode cX4_priceChanges 34 = .ok (.iadd, 1) := by decide +kernel
theorem dX4_priceChanges_35 : decode cX4_priceChanges 35 = .ok (.aload_n 0, 1) := by decide +kernel
theorem dX4_priceChanges_36 : decode cX4_priceChanges 36 = .ok (.getfield 27, 3) := by decide +kernel
theorem dX4_priceChanges_39 : decode cX4_priceChanges 39 = .ok (.iload_n 1, 1) := by decide +kernel
theorem dX4_priceChanges_40 : decode cX4_priceChanges 40 = .ok (.invokevirtual 75, 3) := by decide +kernel
theorem dX4_priceChanges_43 : decode cX4_priceChanges 43 = .ok (.iload_n 2, 1) := by decide +kernel
theorem dX4_priceChanges_44 : decode cX4_priceChanges 44 = .ok (.if_icmp .ne 7, 3) := by decide +kernel
theorem dX4_priceChanges_47 : decode cX4_priceChanges 47 = .ok (.iconst 0, 1) := by decide +kernel
theorem dX4_priceChanges_48 : decode cX4_priceChanges 48 = .ok (.goto 4, 3) := by decide +kernel
theorem dX4_priceChanges_51 : decode cX4_priceChanges 51 = .ok (.iconst 1, 1) := by decide +kernel
theorem dX4_priceChanges_52 : decode cX4_priceChanges 52 = .ok (.iastore, 1) := by decide +kernel
theorem dX4_priceChanges_53 : decode cX4_priceChanges 53 = .ok (.iinc 2 1, 3) := by decide +kernel
theorem dX4_priceChanges_56 : decode cX4_priceChanges 56 = .ok (.goto (-41), 3) := by decide +kernel
theorem dX4_priceChanges_59 : decode cX4_priceChanges 59 = .ok (.iinc 1 1, 3) := by decide +kernel
theorem dX4_priceChanges_62 : decode cX4_priceChanges 62 = .ok (.goto (-60), 3) := by decide +kernel
theorem dX4_priceChanges_65 : decode cX4_priceChanges 65 = .ok (.return_, 1) := by decide +kernel
theorem dX4_priceSittings_0 : decode cX4_priceSittings 0 = .ok (.iconst 0, 1) := by decide +kernel
theorem dX4_priceSittings_1 : decode cX4_priceSittings 1 = .ok (.istore_n 1, 1) := by decide +kernel
theorem dX4_priceSittings_2 : decode cX4_priceSittings 2 = .ok (.iload_n 1, 1) := by decide +kernel
theorem dX4_priceSittings_3 : decode cX4_priceSittings 3 = .ok (.aload_n 0, 1) := by decide +kernel
theorem dX4_priceSittings_4 : decode cX4_priceSittings 4 = .ok (.getfield 27, 3) := by decide +kernel
theorem dX4_priceSittings_7 : decode cX4_priceSittings 7 = .ok (.getfield 50, 3) := by decide +kernel
theorem dX4_priceSittings_10 : decode cX4_priceSittings 10 = .ok (.if_icmp .ge 57, 3) := by decide +kernel
theorem dX4_priceSittings_13 : decode cX4_priceSittings 13 = .ok (.iconst 0, 1) := by decide +kernel
theorem dX4_priceSittings_14 : decode cX4_priceSittings 14 = .ok (.istore_n 2, 1) := by decide +kernel
theorem dX4_priceSittings_15 : decode cX4_priceSittings 15 = .ok (.iload_n 2, 1) := by decide +kernel
theorem dX4_priceSittings_16 : decode cX4_priceSittings 16 = .ok (.aload_n 0, 1) := by decide +kernel
theorem dX4_priceSittings_17 : decode cX4_priceSittings 17 = .ok (.getfield 27, 3) := by decide +kernel
theorem dX4_priceSittings_20 : decode cX4_priceSittings 20 = .ok (.getfield 64, 3) := by decide +kernel
theorem dX4_priceSittings_23 : decode cX4_priceSittings 23 = .ok (.if_icmp .ge 38, 3) := by decide +kernel
theorem dX4_priceSittings_26 : decode cX4_priceSittings 26 = .ok (.aload_n 0, 1) := by decide +kernel
theorem dX4_priceSittings_27 : decode cX4_priceSittings 27 = .ok (.getfield 24, 3) := by decide +kernel
theorem dX4_priceSittings_30 : decode cX4_priceSittings 30 = .ok (.iload_n 1, 1) := by decide +kernel
theorem dX4_priceSittings_31 : decode cX4_priceSittings 31 = .ok (.iconst 5, 1) := by decide +kernel
theorem dX4_priceSittings_32 : decode cX4_priceSittings 32 = .ok (.imul, 1) := by decide +kernel
theorem dX4_priceSittings_33 : decode cX4_priceSittings 33 = .ok (.iload_n 2, 1) := by decide +kernel
theorem dX4_priceSittings_34 : decode cX4_priceSittings 34 = .ok (.iadd, 1) := by decide +kernel
theorem dX4_priceSittings_35 : decode cX4_priceSittings 35 = .ok (.aload_n 0, 1) := by decide +kernel
theorem dX4_priceSittings_36 : decode cX4_priceSittings 36 = .ok (.getfield 27, 3) := by decide +kernel
theorem dX4_priceSittings_39 : decode cX4_priceSittings 39 = .ok (.getfield 79, 3) := by decide +kernel
theorem dX4_priceSittings_42 : decode cX4_priceSittings 42 = .ok (.iload_n 2, 1) := by decide +kernel
theorem dX4_priceSittings_43 : decode cX4_priceSittings 43 = .ok (.iaload, 1) := by decide +kernel
theorem dX4_priceSittings_44 : decode cX4_priceSittings 44 = .ok (.aload_n 0, 1) := by decide +kernel
theorem dX4_priceSittings_45 : decode cX4_priceSittings 45 = .ok (.getfield 27, 3) := by decide +kernel
theorem dX4_priceSittings_48 : decode cX4_priceSittings 48 = .ok (.getfield 82, 3) := by decide +kernel
theorem dX4_priceSittings_51 : decode cX4_priceSittings 51 = .ok (.iload_n 1, 1) := by decide +kernel
theorem dX4_priceSittings_52 : decode cX4_priceSittings 52 = .ok (.iaload, 1) := by decide +kernel
theorem dX4_priceSittings_53 : decode cX4_priceSittings 53 = .ok (.imul, 1) := by decide +kernel
theorem dX4_priceSittings_54 : decode cX4_priceSittings 54 = .ok (.iastore, 1) := by decide +kernel
theorem dX4_priceSittings_55 : decode cX4_priceSittings 55 = .ok (.iinc 2 1, 3) := by decide +kernel
theorem dX4_priceSittings_58 : decode cX4_priceSittings 58 = .ok (.goto (-43), 3) := by decide +kernel
theorem dX4_priceSittings_61 : decode cX4_priceSittings 61 = .ok (.iinc 1 1, 3) := by decide +kernel
theorem dX4_priceSittings_64 : decode cX4_priceSittings 64 = .ok (.goto (-62), 3) := by decide +kernel
theorem dX4_priceSittings_67 : decode cX4_priceSittings 67 = .ok (.return_, 1) := by decide +kernel
theorem dX4_cheapest_0 : decode cX4_cheapest 0 = .ok (.bipush (-4), 2) := by decide +kernel
theorem dX4_cheapest_2 : decode cX4_cheapest 2 = .ok (.istore_n 2, 1) := by decide +kernel
theorem dX4_cheapest_3 : decode cX4_cheapest 3 = .ok (.iconst 0, 1) := by decide +kernel
theorem dX4_cheapest_4 : decode cX4_cheapest 4 = .ok (.istore_n 3, 1) := by decide +kernel
theorem dX4_cheapest_5 : decode cX4_cheapest 5 = .ok (.iload_n 3, 1) := by decide +kernel
theorem dX4_cheapest_6 : decode cX4_cheapest 6 = .ok (.ldc 85, 2) := by decide +kernel
theorem dX4_cheapest_8 : decode cX4_cheapest 8 = .ok (.if_icmp .ge 37, 3) := by decide +kernel
theorem dX4_cheapest_11 : decode cX4_cheapest 11 = .ok (.aload_n 0, 1) := by decide +kernel
theorem dX4_cheapest_12 : decode cX4_cheapest 12 = .ok (.invokevirtual 86, 3) := by decide +kernel
theorem dX4_cheapest_15 : decode cX4_cheapest 15 = .ok (.ifCond .eq 30, 3) := by decide +kernel
theorem dX4_cheapest_18 : decode cX4_cheapest 18 = .ok (.aload_n 0, 1) := by decide +kernel
theorem dX4_cheapest_19 : decode cX4_cheapest 19 = .ok (.aload_n 0, 1) := by decide +kernel
theorem dX4_cheapest_20 : decode cX4_cheapest 20 = .ok (.getfield 21, 3) := by decide +kernel
theorem dX4_cheapest_23 : decode cX4_cheapest 23 = .ok (.aload_n 0, 1) := by decide +kernel
theorem dX4_cheapest_24 : decode cX4_cheapest 24 = .ok (.getfield 27, 3) := by decide +kernel
theorem dX4_cheapest_27 : decode cX4_cheapest 27 = .ok (.getfield 50, 3) := by decide +kernel
theorem dX4_cheapest_30 : decode cX4_cheapest 30 = .ok (.iaload, 1) := by decide +kernel
theorem dX4_cheapest_31 : decode cX4_cheapest 31 = .ok (.putfield 47, 3) := by decide +kernel
theorem dX4_cheapest_34 : decode cX4_cheapest 34 = .ok (.aload_n 0, 1) := by decide +kernel
theorem dX4_cheapest_35 : decode cX4_cheapest 35 = .ok (.invokevirtual 90, 3) := by decide +kernel
theorem dX4_cheapest_38 : decode cX4_cheapest 38 = .ok (.istore_n 2, 1) := by decide +kernel
theorem dX4_cheapest_39 : decode cX4_cheapest 39 = .ok (.iinc 3 1, 3) := by decide +kernel
theorem dX4_cheapest_42 : decode cX4_cheapest 42 = .ok (.goto (-37), 3) := by decide +kernel
theorem dX4_cheapest_45 : decode cX4_cheapest 45 = .ok (.iload_n 2, 1) := by decide +kernel
theorem dX4_cheapest_46 : decode cX4_cheapest 46 = .ok (.bipush (-4), 2) := by decide +kernel
theorem dX4_cheapest_48 : decode cX4_cheapest 48 = .ok (.if_icmp .eq 8, 3) := by decide +kernel
theorem dX4_cheapest_51 : decode cX4_cheapest 51 = .ok (.iload_n 1, 1) := by decide +kernel
theorem dX4_cheapest_52 : decode cX4_cheapest 52 = .ok (.iconst 1, 1) := by decide +kernel
theorem dX4_cheapest_53 : decode cX4_cheapest 53 = .ok (.if_icmp .ne 7, 3) := by decide +kernel
theorem dX4_cheapest_56 : decode cX4_cheapest 56 = .ok (.iload_n 2, 1) := by decide +kernel
theorem dX4_cheapest_57 : decode cX4_cheapest 57 = .ok (.goto 7, 3) := by decide +kernel
theorem dX4_cheapest_60 : decode cX4_cheapest 60 = .ok (.aload_n 0, 1) := by decide +kernel
theorem dX4_cheapest_61 : decode cX4_cheapest 61 = .ok (.getfield 47, 3) := by decide +kernel
theorem dX4_cheapest_64 : decode cX4_cheapest 64 = .ok (.ireturn, 1) := by decide +kernel
theorem dX4_howMany_0 : decode cX4_howMany 0 = .ok (.aload_n 0, 1) := by decide +kernel
theorem dX4_howMany_1 : decode cX4_howMany 1 = .ok (.aload_n 0, 1) := by decide +kernel
theorem dX4_howMany_2 : decode cX4_howMany 2 = .ok (.getfield 27, 3) := by decide +kernel
theorem dX4_howMany_5 : decode cX4_howMany 5 = .ok (.getfield 50, 3) := by decide +kernel
theorem dX4_howMany_8 : decode cX4_howMany 8 = .ok (.iconst 1, 1) := by decide +kernel
theorem dX4_howMany_9 : decode cX4_howMany 9 = .ok (.isub, 1) := by decide +kernel
theorem dX4_howMany_10 : decode cX4_howMany 10 = .ok (.putfield 55, 3) := by decide +kernel
theorem dX4_howMany_13 : decode cX4_howMany 13 = .ok (.iconst 0, 1) := by decide +kernel
theorem dX4_howMany_14 : decode cX4_howMany 14 = .ok (.istore_n 1, 1) := by decide +kernel
theorem dX4_howMany_15 : decode cX4_howMany 15 = .ok (.iconst 0, 1) := by decide +kernel
theorem dX4_howMany_16 : decode cX4_howMany 16 = .ok (.istore_n 2, 1) := by decide +kernel
theorem dX4_howMany_17 : decode cX4_howMany 17 = .ok (.iload_n 2, 1) := by decide +kernel
theorem dX4_howMany_18 : decode cX4_howMany 18 = .ok (.ldc 85, 2) := by decide +kernel
theorem dX4_howMany_20 : decode cX4_howMany 20 = .ok (.if_icmp .ge 30, 3) := by decide +kernel
theorem dX4_howMany_23 : decode cX4_howMany 23 = .ok (.aload_n 0, 1) := by decide +kernel
theorem dX4_howMany_24 : decode cX4_howMany 24 = .ok (.invokevirtual 86, 3) := by decide +kernel
theorem dX4_howMany_27 : decode cX4_howMany 27 = .ok (.ifCond .eq 23, 3) := by decide +kernel
theorem dX4_howMany_30 : decode cX4_howMany 30 = .ok (.iload_n 1, 1) := by decide +kernel
theorem dX4_howMany_31 : decode cX4_howMany 31 = .ok (.aload_n 0, 1) := by decide +kernel
theorem dX4_howMany_32 : decode cX4_howMany 32 = .ok (.aload_n 0, 1) := by decide +kernel
theorem dX4_howMany_33 : decode cX4_howMany 33 = .ok (.getfield 55, 3) := by decide +kernel
theorem dX4_howMany_36 : decode cX4_howMany 36 = .ok (.invokevirtual 94, 3) := by decide +kernel
theorem dX4_howMany_39 : decode cX4_howMany 39 = .ok (.invokestatic 97, 3) := by decide +kernel
theorem dX4_howMany_42 : decode cX4_howMany 42 = .ok (.iadd, 1) := by decide +kernel
theorem dX4_howMany_43 : decode cX4_howMany 43 = .ok (.istore_n 1, 1) := by decide +kernel
theorem dX4_howMany_44 : decode cX4_howMany 44 = .ok (.iinc 2 1, 3) := by decide +kernel
theorem dX4_howMany_47 : decode cX4_howMany 47 = .ok (.goto (-30), 3) := by decide +kernel
theorem dX4_howMany_50 : decode cX4_howMany 50 = .ok (.iload_n 1, 1) := by decide +kernel
theorem dX4_howMany_51 : decode cX4_howMany 51 = .ok (.ireturn, 1) := by decide +kernel
theorem dX4_countSame_0 : decode cX4_countSame 0 = .ok (.aload_n 1, 1) := by decide +kernel
theorem dX4_countSame_1 : decode cX4_countSame 1 = .ok (.iconst 0, 1) := by decide +kernel
theorem dX4_countSame_2 : decode cX4_countSame 2 = .ok (.invokestatic 58, 3) := by decide +kernel
theorem dX4_countSame_5 : decode cX4_countSame 5 = .ok (.aload_n 0, 1) := by decide +kernel
theorem dX4_countSame_6 : decode cX4_countSame 6 = .ok (.aload_n 0, 1) := by decide +kernel
theorem dX4_countSame_7 : decode cX4_countSame 7 = .ok (.getfield 27, 3) := by decide +kernel
theorem dX4_countSame_10 : decode cX4_countSame 10 = .ok (.getfield 50, 3) := by decide +kernel
theorem dX4_countSame_13 : decode cX4_countSame 13 = .ok (.iconst 1, 1) := by decide +kernel
theorem dX4_countSame_14 : decode cX4_countSame 14 = .ok (.isub, 1) := by decide +kernel
theorem dX4_countSame_15 : decode cX4_countSame 15 = .ok (.putfield 55, 3) := by decide +kernel
theorem dX4_countSame_18 : decode cX4_countSame 18 = .ok (.iconst 0, 1) := by decide +kernel
theorem dX4_countSame_19 : decode cX4_countSame 19 = .ok (.istore_n 2, 1) := by decide +kernel
theorem dX4_countSame_20 : decode cX4_countSame 20 = .ok (.iconst 0, 1) := by decide +kernel
theorem dX4_countSame_21 : decode cX4_countSame 21 = .ok (.istore_n 3, 1) := by decide +kernel
theorem dX4_countSame_22 : decode cX4_countSame 22 = .ok (.iload_n 3, 1) := by decide +kernel
theorem dX4_countSame_23 : decode cX4_countSame 23 = .ok (.ldc 85, 2) := by decide +kernel
theorem dX4_countSame_25 : decode cX4_countSame 25 = .ok (.if_icmp .ge 41, 3) := by decide +kernel
theorem dX4_countSame_28 : decode cX4_countSame 28 = .ok (.aload_n 0, 1) := by decide +kernel
theorem dX4_countSame_29 : decode cX4_countSame 29 = .ok (.invokevirtual 86, 3) := by decide +kernel
theorem dX4_countSame_32 : decode cX4_countSame 32 = .ok (.ifCond .eq 34, 3) := by decide +kernel
theorem dX4_countSame_35 : decode cX4_countSame 35 = .ok (.aload_n 0, 1) := by decide +kernel
theorem dX4_countSame_36 : decode cX4_countSame 36 = .ok (.aload_n 0, 1) := by decide +kernel
theorem dX4_countSame_37 : decode cX4_countSame 37 = .ok (.getfield 55, 3) := by decide +kernel
theorem dX4_countSame_40 : decode cX4_countSame 40 = .ok (.invokevirtual 94, 3) := by decide +kernel
theorem dX4_countSame_43 : decode cX4_countSame 43 = .ok (.istore 4, 2) := by decide +kernel
theorem dX4_countSame_45 : decode cX4_countSame 45 = .ok (.iload_n 2, 1) := by decide +kernel
theorem dX4_countSame_46 : decode cX4_countSame 46 = .ok (.iload 4, 2) := by decide +kernel
theorem dX4_countSame_48 : decode cX4_countSame 48 = .ok (.invokestatic 97, 3) := by decide +kernel
theorem dX4_countSame_51 : decode cX4_countSame 51 = .ok (.iadd, 1) := by decide +kernel
theorem dX4_countSame_52 : decode cX4_countSame 52 = .ok (.istore_n 2, 1) := by decide +kernel
theorem dX4_countSame_53 : decode cX4_countSame 53 = .ok (.aload_n 0, 1) := by decide +kernel
theorem dX4_countSame_54 : decode cX4_countSame 54 = .ok (.aload_n 1, 1) := by decide +kernel
theorem dX4_countSame_55 : decode cX4_countSame 55 = .ok (.iload 4, 2) := by decide +kernel
theorem dX4_countSame_57 : decode cX4_countSame 57 = .ok (.invokevirtual 102, 3) := by decide +kernel
theorem dX4_countSame_60 : decode cX4_countSame 60 = .ok (.iinc 3 1, 3) := by decide +kernel
theorem dX4_countSame_63 : decode cX4_countSame 63 = .ok (.goto (-41), 3) := by decide +kernel
theorem dX4_countSame_66 : decode cX4_countSame 66 = .ok (.iload_n 2, 1) := by decide +kernel
theorem dX4_countSame_67 : decode cX4_countSame 67 = .ok (.ireturn, 1) := by decide +kernel
theorem dX4_markSame_0 : decode cX4_markSame 0 = .ok (.iload_n 2, 1) := by decide +kernel
theorem dX4_markSame_1 : decode cX4_markSame 1 = .ok (.invokestatic 97, 3) := by decide +kernel
theorem dX4_markSame_4 : decode cX4_markSame 4 = .ok (.istore_n 3, 1) := by decide +kernel
theorem dX4_markSame_5 : decode cX4_markSame 5 = .ok (.iconst 0, 1) := by decide +kernel
theorem dX4_markSame_6 : decode cX4_markSame 6 = .ok (.istore 4, 2) := by decide +kernel
theorem dX4_markSame_8 : decode cX4_markSame 8 = .ok (.iload 4, 2) := by decide +kernel
theorem dX4_markSame_10 : decode cX4_markSame 10 = .ok (.aload_n 0, 1) := by decide +kernel
theorem dX4_markSame_11 : decode cX4_markSame 11 = .ok (.getfield 55, 3) := by decide +kernel
theorem dX4_markSame_14 : decode cX4_markSame 14 = .ok (.if_icmp .ge 87, 3) := by decide +kernel
theorem dX4_markSame_17 : decode cX4_markSame 17 = .ok (.iload 4, 2) := by decide +kernel
theorem dX4_markSame_19 : decode cX4_markSame 19 = .ok (.iconst 1, 1) := by decide +kernel
theorem dX4_markSame_20 : decode cX4_markSame 20 = .ok (.iadd, 1) := by decide +kernel
theorem dX4_markSame_21 : decode cX4_markSame 21 = .ok (.istore 5, 2) := by decide +kernel
theorem dX4_markSame_23 : decode cX4_markSame 23 = .ok (.iload 5, 2) := by decide +kernel
theorem dX4_markSame_25 : decode cX4_markSame 25 = .ok (.aload_n 0, 1) := by decide +kernel
theorem dX4_markSame_26 : decode cX4_markSame 26 = .ok (.getfield 55, 3) := by decide +kernel
theorem dX4_markSame_29 : decode cX4_markSame 29 = .ok (.if_icmp .ge 40, 3) := by decide +kernel
theorem dX4_markSame_32 : decode cX4_markSame 32 = .ok (.aload_n 0, 1) := by decide +kernel
theorem dX4_markSame_33 : decode cX4_markSame 33 = .ok (.getfield 15, 3) := by decide +kernel
theorem dX4_markSame_36 : decode cX4_markSame 36 = .ok (.iload 4, 2) := by decide +kernel
theorem dX4_markSame_38 : decode cX4_markSame 38 = .ok (.iaload, 1) := by decide +kernel
theorem dX4_markSame_39 : decode cX4_markSame 39 = .ok (.aload_n 0, 1) := by decide +kernel
theorem dX4_markSame_40 : decode cX4_markSame 40 = .ok (.getfield 15, 3) := by decide +kernel
theorem dX4_markSame_43 : decode cX4_markSame 43 = .ok (.iload 5, 2) := by decide +kernel
theorem dX4_markSame_45 : decode cX4_markSame 45 = .ok (.iaload, 1) := by decide +kernel
theorem dX4_markSame_46 : decode cX4_markSame 46 = .ok (.if_icmp .ne 17, 3) := by decide +kernel
theorem dX4_markSame_49 : decode cX4_markSame 49 = .ok (.aload_n 1, 1) := by decide +kernel
theorem dX4_markSame_50 : decode cX4_markSame 50 = .ok (.iload 4, 2) := by decide +kernel
theorem dX4_markSame_52 : decode cX4_markSame 52 = .ok (.bipush 6, 2) := by decide +kernel
theorem dX4_markSame_54 : decode cX4_markSame 54 = .ok (.imul, 1) := by decide +kernel
theorem dX4_markSame_55 : decode cX4_markSame 55 = .ok (.iload 5, 2) := by decide +kernel
theorem dX4_markSame_57 : decode cX4_markSame 57 = .ok (.iadd, 1) := by decide +kernel
theorem dX4_markSame_58 : decode cX4_markSame 58 = .ok (.dup2, 1) := by decide +kernel
theorem dX4_markSame_59 : decode cX4_markSame 59 = .ok (.iaload, 1) := by decide +kernel
theorem dX4_markSame_60 : decode cX4_markSame 60 = .ok (.iload_n 3, 1) := by decide +kernel
theorem dX4_markSame_61 : decode cX4_markSame 61 = .ok (.iadd, 1) := by decide +kernel
theorem dX4_markSame_62 : decode cX4_markSame 62 = .ok (.iastore, 1) := by decide +kernel
theorem dX4_markSame_63 : decode cX4_markSame 63 = .ok (.iinc 5 1, 3) := by decide +kernel
theorem dX4_markSame_66 : decode cX4_markSame 66 = .ok (.goto (-43), 3) := by decide +kernel
theorem dX4_markSame_69 : decode cX4_markSame 69 = .ok (.aload_n 1, 1) := by decide +kernel
theorem dX4_markSame_70 : decode cX4_markSame 70 = .ok (.iload 4, 2) := by decide +kernel
theorem dX4_markSame_72 : decode cX4_markSame 72 = .ok (.bipush 6, 2) := by decide +kernel
theorem dX4_markSame_74 : decode cX4_markSame 74 = .ok (.imul, 1) := by decide +kernel
theorem dX4_markSame_75 : decode cX4_markSame 75 = .ok (.aload_n 0, 1) := by decide +kernel
theorem dX4_markSame_76 : decode cX4_markSame 76 = .ok (.getfield 55, 3) := by decide +kernel
theorem dX4_markSame_79 : decode cX4_markSame 79 = .ok (.iadd, 1) := by decide +kernel
theorem dX4_markSame_80 : decode cX4_markSame 80 = .ok (.dup2, 1) := by decide +kernel
theorem dX4_markSame_81 : decode cX4_markSame 81 = .ok (.iaload, 1) := by decide +kernel
theorem dX4_markSame_82 : decode cX4_markSame 82 = .ok (.iload_n 2, 1) := by decide +kernel
theorem dX4_markSame_83 : decode cX4_markSame 83 = .ok (.aload_n 0, 1) := by decide +kernel
theorem dX4_markSame_84 : decode cX4_markSame 84 = .ok (.getfield 15, 3) := by decide +kernel
theorem dX4_markSame_87 : decode cX4_markSame 87 = .ok (.iload 4, 2) := by decide +kernel
theorem dX4_markSame_89 : decode cX4_markSame 89 = .ok (.iaload, 1) := by decide +kernel
theorem dX4_markSame_90 : decode cX4_markSame 90 = .ok (.ishr, 1) := by decide +kernel
theorem dX4_markSame_91 : decode cX4_markSame 91 = .ok (.iconst 1, 1) := by decide +kernel
theorem dX4_markSame_92 : decode cX4_markSame 92 = .ok (.iand, 1) := by decide +kernel
theorem dX4_markSame_93 : decode cX4_markSame 93 = .ok (.iadd, 1) := by decide +kernel
theorem dX4_markSame_94 : decode cX4_markSame 94 = .ok (.iastore, 1) := by decide +kernel
theorem dX4_markSame_95 : decode cX4_markSame 95 = .ok (.iinc 4 1, 3) := by decide +kernel
theorem dX4_markSame_98 : decode cX4_markSame 98 = .ok (.goto (-90), 3) := by decide +kernel
theorem dX4_markSame_101 : decode cX4_markSame 101 = .ok (.return_, 1) := by decide +kernel
theorem dX4_advance_0 : decode cX4_advance 0 = .ok (.iconst 0, 1) := by decide +kernel
theorem dX4_advance_1 : decode cX4_advance 1 = .ok (.istore_n 1, 1) := by decide +kernel
theorem dX4_advance_2 : decode cX4_advance 2 = .ok (.iload_n 1, 1) := by decide +kernel
theorem dX4_advance_3 : decode cX4_advance 3 = .ok (.ldc 85, 2) := by decide +kernel
theorem dX4_advance_5 : decode cX4_advance 5 = .ok (.if_icmp .ge 109, 3) := by decide +kernel
theorem dX4_advance_8 : decode cX4_advance 8 = .ok (.aload_n 0, 1) := by decide +kernel
theorem dX4_advance_9 : decode cX4_advance 9 = .ok (.getfield 105, 3) := by decide +kernel
theorem dX4_advance_12 : decode cX4_advance 12 = .ok (.ifCond .lt 102, 3) := by decide +kernel
theorem dX4_advance_15 : decode cX4_advance 15 = .ok (.aload_n 0, 1) := by decide +kernel
theorem dX4_advance_16 : decode cX4_advance 16 = .ok (.invokevirtual 108, 3) := by decide +kernel
theorem dX4_advance_19 : decode cX4_advance 19 = .ok (.istore_n 2, 1) := by decide +kernel
theorem dX4_advance_20 : decode cX4_advance 20 = .ok (.iload_n 2, 1) := by decide +kernel
theorem dX4_advance_21 : decode cX4_advance 21 = .ok (.bipush (-4), 2) := by decide +kernel
theorem dX4_advance_23 : decode cX4_advance 23 = .ok (.if_icmp .ne 16, 3) := by decide +kernel
theorem dX4_advance_26 : decode cX4_advance 26 = .ok (.aload_n 0, 1) := by decide +kernel
theorem dX4_advance_27 : decode cX4_advance 27 = .ok (.dup, 1) := by decide +kernel
theorem dX4_advance_28 : decode cX4_advance 28 = .ok (.getfield 105, 3) := by decide +kernel
theorem dX4_advance_31 : decode cX4_advance 31 = .ok (.iconst 1, 1) := by decide +kernel
theorem dX4_advance_32 : decode cX4_advance 32 = .ok (.isub, 1) := by decide +kernel
theorem dX4_advance_33 : decode cX4_advance 33 = .ok (.putfield 105, 3) := by decide +kernel
theorem dX4_advance_36 : decode cX4_advance 36 = .ok (.goto 72, 3) := by decide +kernel
theorem dX4_advance_39 : decode cX4_advance 39 = .ok (.aload_n 0, 1) := by decide +kernel
theorem dX4_advance_40 : decode cX4_advance 40 = .ok (.getfield 15, 3) := by decide +kernel
theorem dX4_advance_43 : decode cX4_advance 43 = .ok (.aload_n 0, 1) := by decide +kernel
theorem dX4_advance_44 : decode cX4_advance 44 = .ok (.getfield 105, 3) := by decide +kernel
theorem dX4_advance_47 : decode cX4_advance 47 = .ok (.iload_n 2, 1) := by decide +kernel
theorem dX4_advance_48 : decode cX4_advance 48 = .ok (.iastore, 1) := by decide +kernel
theorem dX4_advance_49 : decode cX4_advance 49 = .ok (.aload_n 0, 1) := by decide +kernel
theorem dX4_advance_50 : decode cX4_advance 50 = .ok (.getfield 21, 3) := by decide +kernel
theorem dX4_advance_53 : decode cX4_advance 53 = .ok (.aload_n 0, 1) := by decide +kernel
theorem dX4_advance_54 : decode cX4_advance 54 = .ok (.getfield 105, 3) := by decide +kernel
theorem dX4_advance_57 : decode cX4_advance 57 = .ok (.iconst 1, 1) := by decide +kernel
theorem dX4_advance_58 : decode cX4_advance 58 = .ok (.iadd, 1) := by decide +kernel
theorem dX4_advance_59 : decode cX4_advance 59 = .ok (.aload_n 0, 1) := by decide +kernel
theorem dX4_advance_60 : decode cX4_advance 60 = .ok (.getfield 21, 3) := by decide +kernel
theorem dX4_advance_63 : decode cX4_advance 63 = .ok (.aload_n 0, 1) := by decide +kernel
theorem dX4_advance_64 : decode cX4_advance 64 = .ok (.getfield 105, 3) := by decide +kernel
theorem dX4_advance_67 : decode cX4_advance 67 = .ok (.iaload, 1) := by decide +kernel
theorem dX4_advance_68 : decode cX4_advance 68 = .ok (.aload_n 0, 1) := by decide +kernel
theorem dX4_advance_69 : decode cX4_advance 69 = .ok (.getfield 24, 3) := by decide +kernel
theorem dX4_advance_72 : decode cX4_advance 72 = .ok (.aload_n 0, 1) := by decide +kernel
theorem dX4_advance_73 : decode cX4_advance 73 = .ok (.getfield 105, 3) := by decide +kernel
theorem dX4_advance_76 : decode cX4_advance 76 = .ok (.iconst 5, 1) := by decide +kernel
theorem dX4_advance_77 : decode cX4_advance 77 = .ok (.imul, 1) := by decide +kernel
theorem dX4_advance_78 : decode cX4_advance 78 = .ok (.iload_n 2, 1) := by decide +kernel
theorem dX4_advance_79 : decode cX4_advance 79 = .ok (.iadd, 1) := by decide +kernel
theorem dX4_advance_80 : decode cX4_advance 80 = .ok (.iaload, 1) := by decide +kernel
theorem dX4_advance_81 : decode cX4_advance 81 = .ok (.iadd, 1) := by decide +kernel
theorem dX4_advance_82 : decode cX4_advance 82 = .ok (.iastore, 1) := by decide +kernel
theorem dX4_advance_83 : decode cX4_advance 83 = .ok (.aload_n 0, 1) := by decide +kernel
theorem dX4_advance_84 : decode cX4_advance 84 = .ok (.getfield 105, 3) := by decide +kernel
theorem dX4_advance_87 : decode cX4_advance 87 = .ok (.aload_n 0, 1) := by decide +kernel
theorem dX4_advance_88 : decode cX4_advance 88 = .ok (.getfield 55, 3) := by decide +kernel
theorem dX4_advance_91 : decode cX4_advance 91 = .ok (.iconst 1, 1) := by decide +kernel
theorem dX4_advance_92 : decode cX4_advance 92 = .ok (.isub, 1) := by decide +kernel
theorem dX4_advance_93 : decode cX4_advance 93 = .ok (.if_icmp .ne 5, 3) := by decide +kernel
theorem dX4_advance_96 : decode cX4_advance 96 = .ok (.iconst 1, 1) := by decide +kernel
theorem dX4_advance_97 : decode cX4_advance 97 = .ok (.ireturn, 1) := by decide +kernel
theorem dX4_advance_98 : decode cX4_advance 98 = .ok (.aload_n 0, 1) := by decide +kernel
theorem dX4_advance_99 : decode cX4_advance 99 = .ok (.aload_n 0, 1) := by decide +kernel
theorem dX4_advance_100 : decode cX4_advance 100 = .ok (.getfield 105, 3) := by decide +kernel
theorem dX4_advance_103 : decode cX4_advance 103 = .ok (.iconst 1, 1) := by decide +kernel
theorem dX4_advance_104 : decode cX4_advance 104 = .ok (.iadd, 1) := by decide +kernel
theorem dX4_advance_105 : decode cX4_advance 105 = .ok (.invokevirtual 71, 3) := by decide +kernel
theorem dX4_advance_108 : decode cX4_advance 108 = .ok (.iinc 1 1, 3) := by decide +kernel
theorem dX4_advance_111 : decode cX4_advance 111 = .ok (.goto (-109), 3) := by decide +kernel
theorem dX4_advance_114 : decode cX4_advance 114 = .ok (.iconst 0, 1) := by decide +kernel
theorem dX4_advance_115 : decode cX4_advance 115 = .ok (.ireturn, 1) := by decide +kernel
theorem dX4_open_0 : decode cX4_open 0 = .ok (.aload_n 0, 1) := by decide +kernel
theorem dX4_open_1 : decode cX4_open 1 = .ok (.iload_n 1, 1) := by decide +kernel
theorem dX4_open_2 : decode cX4_open 2 = .ok (.putfield 105, 3) := by decide +kernel
theorem dX4_open_5 : decode cX4_open 5 = .ok (.aload_n 0, 1) := by decide +kernel
theorem dX4_open_6 : decode cX4_open 6 = .ok (.getfield 15, 3) := by decide +kernel
theorem dX4_open_9 : decode cX4_open 9 = .ok (.iload_n 1, 1) := by decide +kernel
theorem dX4_open_10 : decode cX4_open 10 = .ok (.iconst (-1), 1) := by decide +kernel
theorem dX4_open_11 : decode cX4_open 11 = .ok (.iastore, 1) := by decide +kernel
theorem dX4_open_12 : decode cX4_open 12 = .ok (.aload_n 0, 1) := by decide +kernel
theorem dX4_open_13 : decode cX4_open 13 = .ok (.getfield 18, 3) := by decide +kernel
theorem dX4_open_16 : decode cX4_open 16 = .ok (.iload_n 1, 1) := by decide +kernel
theorem dX4_open_17 : decode cX4_open 17 = .ok (.aload_n 0, 1) := by decide +kernel
theorem dX4_open_18 : decode cX4_open 18 = .ok (.iload_n 1, 1) := by decide +kernel
theorem dX4_open_19 : decode cX4_open 19 = .ok (.invokevirtual 94, 3) := by decide +kernel
theorem dX4_open_22 : decode cX4_open 22 = .ok (.iastore, 1) := by decide +kernel
theorem dX4_open_23 : decode cX4_open 23 = .ok (.return_, 1) := by decide +kernel
theorem dX4_allowedAt_0 : decode cX4_allowedAt 0 = .ok (.aload_n 0, 1) := by decide +kernel
theorem dX4_allowedAt_1 : decode cX4_allowedAt 1 = .ok (.getfield 27, 3) := by decide +kernel
theorem dX4_allowedAt_4 : decode cX4_allowedAt 4 = .ok (.invokevirtual 111, 3) := by decide +kernel
theorem dX4_allowedAt_7 : decode cX4_allowedAt 7 = .ok (.istore_n 2, 1) := by decide +kernel
theorem dX4_allowedAt_8 : decode cX4_allowedAt 8 = .ok (.iconst 0, 1) := by decide +kernel
theorem dX4_allowedAt_9 : decode cX4_allowedAt 9 = .ok (.istore_n 3, 1) := by decide +kernel
theorem dX4_allowedAt_10 : decode cX4_allowedAt 10 = .ok (.iload_n 3, 1) := by decide +kernel
theorem dX4_allowedAt_11 : decode cX4_allowedAt 11 = .ok (.aload_n 0, 1) := by decide +kernel
theorem dX4_allowedAt_12 : decode cX4_allowedAt 12 = .ok (.getfield 27, 3) := by decide +kernel
theorem dX4_allowedAt_15 : decode cX4_allowedAt 15 = .ok (.getfield 114, 3) := by decide +kernel
theorem dX4_allowedAt_18 : decode cX4_allowedAt 18 = .ok (.if_icmp .ge 68, 3) := by decide +kernel
theorem dX4_allowedAt_21 : decode cX4_allowedAt 21 = .ok (.aload_n 0, 1) := by decide +kernel
theorem dX4_allowedAt_22 : decode cX4_allowedAt 22 = .ok (.getfield 27, 3) := by decide +kernel
theorem dX4_allowedAt_25 : decode cX4_allowedAt 25 = .ok (.getfield 117, 3) := by decide +kernel
theorem dX4_allowedAt_28 : decode cX4_allowedAt 28 = .ok (.iload_n 3, 1) := by decide +kernel
theorem dX4_allowedAt_29 : decode cX4_allowedAt 29 = .ok (.iaload, 1) := by decide +kernel
theorem dX4_allowedAt_30 : decode cX4_allowedAt 30 = .ok (.aload_n 0, 1) := by decide +kernel
theorem dX4_allowedAt_31 : decode cX4_allowedAt 31 = .ok (.getfield 27, 3) := by decide +kernel
theorem dX4_allowedAt_34 : decode cX4_allowedAt 34 = .ok (.getfield 120, 3) := by decide +kernel
theorem dX4_allowedAt_37 : decode cX4_allowedAt 37 = .ok (.iload_n 3, 1) := by decide +kernel
theorem dX4_allowedAt_38 : decode cX4_allowedAt 38 = .ok (.iaload, 1) := by decide +kernel
theorem dX4_allowedAt_39 : decode cX4_allowedAt 39 = .ok (.invokestatic 123, 3) := by decide +kernel
theorem dX4_allowedAt_42 : decode cX4_allowedAt 42 = .ok (.iload_n 1, 1) := by decide +kernel
theorem dX4_allowedAt_43 : decode cX4_allowedAt 43 = .ok (.if_icmp .ne 37, 3) := by decide +kernel
theorem dX4_allowedAt_46 : decode cX4_allowedAt 46 = .ok (.iload_n 2, 1) := by decide +kernel
theorem dX4_allowedAt_47 : decode cX4_allowedAt 47 = .ok (.aload_n 0, 1) := by decide +kernel
theorem dX4_allowedAt_48 : decode cX4_allowedAt 48 = .ok (.getfield 9, 3) := by decide +kernel
theorem dX4_allowedAt_51 : decode cX4_allowedAt 51 = .ok (.aload_n 0, 1) := by decide +kernel
theorem dX4_allowedAt_52 : decode cX4_allowedAt 52 = .ok (.getfield 15, 3) := by decide +kernel
theorem dX4_allowedAt_55 : decode cX4_allowedAt 55 = .ok (.aload_n 0, 1) := by decide +kernel
theorem dX4_allowedAt_56 : decode cX4_allowedAt 56 = .ok (.getfield 27, 3) := by decide +kernel
theorem dX4_allowedAt_59 : decode cX4_allowedAt 59 = .ok (.getfield 117, 3) := by decide +kernel
theorem dX4_allowedAt_62 : decode cX4_allowedAt 62 = .ok (.iload_n 3, 1) := by decide +kernel
theorem dX4_allowedAt_63 : decode cX4_allowedAt 63 = .ok (.iaload, 1) := by decide +kernel
theorem dX4_allowedAt_64 : decode cX4_allowedAt 64 = .ok (.aload_n 0, 1) := by decide +kernel
theorem dX4_allowedAt_65 : decode cX4_allowedAt 65 = .ok (.getfield 27, 3) := by decide +kernel
theorem dX4_allowedAt_68 : decode cX4_allowedAt 68 = .ok (.getfield 120, 3) := by decide +kernel
theorem dX4_allowedAt_71 : decode cX4_allowedAt 71 = .ok (.iload_n 3, 1) := by decide +kernel
theorem dX4_allowedAt_72 : decode cX4_allowedAt 72 = .ok (.iaload, 1) := by decide +kernel
theorem dX4_allowedAt_73 : decode cX4_allowedAt 73 = .ok (.invokestatic 129, 3) := by decide +kernel
theorem dX4_allowedAt_76 : decode cX4_allowedAt 76 = .ok (.iaload, 1) := by decide +kernel
theorem dX4_allowedAt_77 : decode cX4_allowedAt 77 = .ok (.iaload, 1) := by decide +kernel
theorem dX4_allowedAt_78 : decode cX4_allowedAt 78 = .ok (.iand, 1) := by decide +kernel
theorem dX4_allowedAt_79 : decode cX4_allowedAt 79 = .ok (.istore_n 2, 1) := by decide +kernel
theorem dX4_allowedAt_80 : decode cX4_allowedAt 80 = .ok (.iinc 3 1, 3) := by decide +kernel
theorem dX4_allowedAt_83 : decode cX4_allowedAt 83 = .ok (.goto (-73), 3) := by decide +kernel
theorem dX4_allowedAt_86 : decode cX4_allowedAt 86 = .ok (.iconst 0, 1) := by decide +kernel
theorem dX4_allowedAt_87 : decode cX4_allowedAt 87 = .ok (.istore_n 3, 1) := by decide +kernel
theorem dX4_allowedAt_88 : decode cX4_allowedAt 88 = .ok (.iload_n 3, 1) := by decide +kernel
theorem dX4_allowedAt_89 : decode cX4_allowedAt 89 = .ok (.aload_n 0, 1) := by decide +kernel
theorem dX4_allowedAt_90 : decode cX4_allowedAt 90 = .ok (.getfield 41, 3) := by decide +kernel
theorem dX4_allowedAt_93 : decode cX4_allowedAt 93 = .ok (.if_icmp .ge 88, 3) := by decide +kernel
theorem dX4_allowedAt_96 : decode cX4_allowedAt 96 = .ok (.aload_n 0, 1) := by decide +kernel
theorem dX4_allowedAt_97 : decode cX4_allowedAt 97 = .ok (.getfield 31, 3) := by decide +kernel
theorem dX4_allowedAt_100 : decode cX4_allowedAt 100 = .ok (.getfield 132, 3) := by decide +kernel
theorem dX4_allowedAt_103 : decode cX4_allowedAt 103 = .ok (.iload_n 3, 1) := by decide +kernel
theorem dX4_allowedAt_104 : decode cX4_allowedAt 104 = .ok (.iaload, 1) := by decide +kernel
theorem dX4_allowedAt_105 : decode cX4_allowedAt 105 = .ok (.aload_n 0, 1) := by decide +kernel
theorem dX4_allowedAt_106 : decode cX4_allowedAt 106 = .ok (.getfield 31, 3) := by decide +kernel
theorem dX4_allowedAt_109 : decode cX4_allowedAt 109 = .ok (.getfield 133, 3) := by decide +kernel
theorem dX4_allowedAt_112 : decode cX4_allowedAt 112 = .ok (.iload_n 3, 1) := by decide +kernel
theorem dX4_allowedAt_113 : decode cX4_allowedAt 113 = .ok (.iaload, 1) := by decide +kernel
theorem dX4_allowedAt_114 : decode cX4_allowedAt 114 = .ok (.invokestatic 123, 3) := by decide +kernel
theorem dX4_allowedAt_117 : decode cX4_allowedAt 117 = .ok (.iload_n 1, 1) := by decide +kernel
theorem dX4_allowedAt_118 : decode cX4_allowedAt 118 = .ok (.if_icmp .ne 57, 3) := by decide +kernel
theorem dX4_allowedAt_121 : decode cX4_allowedAt 121 = .ok (.iconst 1, 1) := by decide +kernel
theorem dX4_allowedAt_122 : decode cX4_allowedAt 122 = .ok (.aload_n 0, 1) := by decide +kernel
theorem dX4_allowedAt_123 : decode cX4_allowedAt 123 = .ok (.getfield 15, 3) := by decide +kernel
theorem dX4_allowedAt_126 : decode cX4_allowedAt 126 = .ok (.aload_n 0, 1) := by decide +kernel
theorem dX4_allowedAt_127 : decode cX4_allowedAt 127 = .ok (.getfield 31, 3) := by decide +kernel
theorem dX4_allowedAt_130 : decode cX4_allowedAt 130 = .ok (.getfield 132, 3) := by decide +kernel
theorem dX4_allowedAt_133 : decode cX4_allowedAt 133 = .ok (.iload_n 3, 1) := by decide +kernel
theorem dX4_allowedAt_134 : decode cX4_allowedAt 134 = .ok (.iaload, 1) := by decide +kernel
theorem dX4_allowedAt_135 : decode cX4_allowedAt 135 = .ok (.aload_n 0, 1) := by decide +kernel
theorem dX4_allowedAt_136 : decode cX4_allowedAt 136 = .ok (.getfield 31, 3) := by decide +kernel
theorem dX4_allowedAt_139 : decode cX4_allowedAt 139 = .ok (.getfield 133, 3) := by decide +kernel
theorem dX4_allowedAt_142 : decode cX4_allowedAt 142 = .ok (.iload_n 3, 1) := by decide +kernel
theorem dX4_allowedAt_143 : decode cX4_allowedAt 143 = .ok (.iaload, 1) := by decide +kernel
theorem dX4_allowedAt_144 : decode cX4_allowedAt 144 = .ok (.invokestatic 129, 3) := by decide +kernel
theorem dX4_allowedAt_147 : decode cX4_allowedAt 147 = .ok (.iaload, 1) := by decide +kernel
theorem dX4_allowedAt_148 : decode cX4_allowedAt 148 = .ok (.ishl, 1) := by decide +kernel
theorem dX4_allowedAt_149 : decode cX4_allowedAt 149 = .ok (.istore 4, 2) := by decide +kernel
theorem dX4_allowedAt_151 : decode cX4_allowedAt 151 = .ok (.iload_n 2, 1) := by decide +kernel
theorem dX4_allowedAt_152 : decode cX4_allowedAt 152 = .ok (.aload_n 0, 1) := by decide +kernel
theorem dX4_allowedAt_153 : decode cX4_allowedAt 153 = .ok (.getfield 31, 3) := by decide +kernel
theorem dX4_allowedAt_156 : decode cX4_allowedAt 156 = .ok (.getfield 134, 3) := by decide +kernel
theorem dX4_allowedAt_159 : decode cX4_allowedAt 159 = .ok (.iload_n 3, 1) := by decide +kernel
theorem dX4_allowedAt_160 : decode cX4_allowedAt 160 = .ok (.baload, 1) := by decide +kernel
theorem dX4_allowedAt_161 : decode cX4_allowedAt 161 = .ok (.ifCond .eq 8, 3) := by decide +kernel
theorem dX4_allowedAt_164 : decode cX4_allowedAt 164 = .ok (.iload 4, 2) := by decide +kernel
theorem dX4_allowedAt_166 : decode cX4_allowedAt 166 = .ok (.goto 7, 3) := by decide +kernel
theorem dX4_allowedAt_169 : decode cX4_allowedAt 169 = .ok (.iload 4, 2) := by decide +kernel
theorem dX4_allowedAt_171 : decode cX4_allowedAt 171 = .ok (.iconst (-1), 1) := by decide +kernel
theorem dX4_allowedAt_172 : decode cX4_allowedAt 172 = .ok (.ixor, 1) := by decide +kernel
theorem dX4_allowedAt_173 : decode cX4_allowedAt 173 = .ok (.iand, 1) := by decide +kernel
theorem dX4_allowedAt_174 : decode cX4_allowedAt 174 = .ok (.istore_n 2, 1) := by decide +kernel
theorem dX4_allowedAt_175 : decode cX4_allowedAt 175 = .ok (.iinc 3 1, 3) := by decide +kernel
theorem dX4_allowedAt_178 : decode cX4_allowedAt 178 = .ok (.goto (-90), 3) := by decide +kernel
theorem dX4_allowedAt_181 : decode cX4_allowedAt 181 = .ok (.iload_n 2, 1) := by decide +kernel
theorem dX4_allowedAt_182 : decode cX4_allowedAt 182 = .ok (.ireturn, 1) := by decide +kernel
theorem dX4_followingFigure_0 : decode cX4_followingFigure 0 = .ok (.aload_n 0, 1) := by decide +kernel
theorem dX4_followingFigure_1 : decode cX4_followingFigure 1 = .ok (.getfield 15, 3) := by decide +kernel
theorem dX4_followingFigure_4 : decode cX4_followingFigure 4 = .ok (.aload_n 0, 1) := by decide +kernel
theorem dX4_followingFigure_5 : decode cX4_followingFigure 5 = .ok (.getfield 105, 3) := by decide +kernel
theorem dX4_followingFigure_8 : decode cX4_followingFigure 8 = .ok (.iaload, 1) := by decide +kernel
theorem dX4_followingFigure_9 : decode cX4_followingFigure 9 = .ok (.iconst 1, 1) := by decide +kernel
theorem dX4_followingFigure_10 : decode cX4_followingFigure 10 = .ok (.iadd, 1) := by decide +kernel
theorem dX4_followingFigure_11 : decode cX4_followingFigure 11 = .ok (.istore_n 1, 1) := by decide +kernel
theorem dX4_followingFigure_12 : decode cX4_followingFigure 12 = .ok (.iload_n 1, 1) := by decide +kernel
theorem dX4_followingFigure_13 : decode cX4_followingFigure 13 = .ok (.aload_n 0, 1) := by decide +kernel
theorem dX4_followingFigure_14 : decode cX4_followingFigure 14 = .ok (.getfield 27, 3) := by decide +kernel
theorem dX4_followingFigure_17 : decode cX4_followingFigure 17 = .ok (.getfield 64, 3) := by decide +kernel
theorem dX4_followingFigure_20 : decode cX4_followingFigure 20 = .ok (.if_icmp .ge 94, 3) := by decide +kernel
theorem dX4_followingFigure_23 : decode cX4_followingFigure 23 = .ok (.aload_n 0, 1) := by decide +kernel
theorem dX4_followingFigure_24 : decode cX4_followingFigure 24 = .ok (.getfield 18, 3) := by decide +kernel
theorem dX4_followingFigure_27 : decode cX4_followingFigure 27 = .ok (.aload_n 0, 1) := by decide +kernel
theorem dX4_followingFigure_28 : decode cX4_followingFigure 28 = .ok (.getfield 105, 3) := by decide +kernel
theorem dX4_followingFigure_31 : decode cX4_followingFigure 31 = .ok (.iaload, 1) := by decide +kernel
theorem dX4_followingFigure_32 : decode cX4_followingFigure 32 = .ok (.iload_n 1, 1) := by decide +kernel
theorem dX4_followingFigure_33 : decode cX4_followingFigure 33 = .ok (.ishr, 1) := by decide +kernel
theorem dX4_followingFigure_34 : decode cX4_followingFigure 34 = .ok (.iconst 1, 1) := by decide +kernel
theorem dX4_followingFigure_35 : decode cX4_followingFigure 35 = .ok (.iand, 1) := by decide +kernel
theorem dX4_followingFigure_36 : decode cX4_followingFigure 36 = .ok (.iconst 1, 1) := by decide +kernel
theorem dX4_followingFigure_37 : decode cX4_followingFigure 37 = .ok (.if_icmp .ne 37, 3) := by decide +kernel
theorem dX4_followingFigure_40 : decode cX4_followingFigure 40 = .ok (.aload_n 0, 1) := by decide +kernel
theorem dX4_followingFigure_41 : decode cX4_followingFigure 41 = .ok (.getfield 21, 3) := by decide +kernel
theorem dX4_followingFigure_44 : decode cX4_followingFigure 44 = .ok (.aload_n 0, 1) := by decide +kernel
theorem dX4_followingFigure_45 : decode cX4_followingFigure 45 = .ok (.getfield 105, 3) := by decide +kernel
theorem dX4_followingFigure_48 : decode cX4_followingFigure 48 = .ok (.iaload, 1) := by decide +kernel
theorem dX4_followingFigure_49 : decode cX4_followingFigure 49 = .ok (.aload_n 0, 1) := by decide +kernel
theorem dX4_followingFigure_50 : decode cX4_followingFigure 50 = .ok (.getfield 24, 3) := by decide +kernel
theorem dX4_followingFigure_53 : decode cX4_followingFigure 53 = .ok (.aload_n 0, 1) := by decide +kernel
theorem dX4_followingFigure_54 : decode cX4_followingFigure 54 = .ok (.getfield 105, 3) := by decide +kernel
theorem dX4_followingFigure_57 : decode cX4_followingFigure 57 = .ok (.iconst 5, 1) := by decide +kernel
theorem dX4_followingFigure_58 : decode cX4_followingFigure 58 = .ok (.imul, 1) := by decide +kernel
theorem dX4_followingFigure_59 : decode cX4_followingFigure 59 = .ok (.iload_n 1, 1) := by decide +kernel
theorem dX4_followingFigure_60 : decode cX4_followingFigure 60 = .ok (.iadd, 1) := by decide +kernel
theorem dX4_followingFigure_61 : decode cX4_followingFigure 61 = .ok (.iaload, 1) := by decide +kernel
theorem dX4_followingFigure_62 : decode cX4_followingFigure 62 = .ok (.iadd, 1) := by decide +kernel
theorem dX4_followingFigure_63 : decode cX4_followingFigure 63 = .ok (.aload_n 0, 1) := by decide +kernel
theorem dX4_followingFigure_64 : decode cX4_followingFigure 64 = .ok (.getfield 47, 3) := by decide +kernel
theorem dX4_followingFigure_67 : decode cX4_followingFigure 67 = .ok (.if_icmp .ge 7, 3) := by decide +kernel
theorem dX4_followingFigure_70 : decode cX4_followingFigure 70 = .ok (.iconst 1, 1) := by decide +kernel
theorem dX4_followingFigure_71 : decode cX4_followingFigure 71 = .ok (.goto 4, 3) := by decide +kernel
theorem dX4_followingFigure_74 : decode cX4_followingFigure 74 = .ok (.iconst 0, 1) := by decide +kernel
theorem dX4_followingFigure_75 : decode cX4_followingFigure 75 = .ok (.istore_n 2, 1) := by decide +kernel
theorem dX4_followingFigure_76 : decode cX4_followingFigure 76 = .ok (.iload_n 2, 1) := by decide +kernel
theorem dX4_followingFigure_77 : decode cX4_followingFigure 77 = .ok (.ifCond .eq 31, 3) := by decide +kernel
theorem dX4_followingFigure_80 : decode cX4_followingFigure 80 = .ok (.aload_n 0, 1) := by decide +kernel
theorem dX4_followingFigure_81 : decode cX4_followingFigure 81 = .ok (.getfield 44, 3) := by decide +kernel
theorem dX4_followingFigure_84 : decode cX4_followingFigure 84 = .ok (.aload_n 0, 1) := by decide +kernel
theorem dX4_followingFigure_85 : decode cX4_followingFigure 85 = .ok (.getfield 27, 3) := by decide +kernel
theorem dX4_followingFigure_88 : decode cX4_followingFigure 88 = .ok (.getfield 50, 3) := by decide +kernel
theorem dX4_followingFigure_91 : decode cX4_followingFigure 91 = .ok (.if_icmp .ge 15, 3) := by decide +kernel
theorem dX4_followingFigure_94 : decode cX4_followingFigure 94 = .ok (.aload_n 0, 1) := by decide +kernel
theorem dX4_followingFigure_95 : decode cX4_followingFigure 95 = .ok (.iload_n 1, 1) := by decide +kernel
theorem dX4_followingFigure_96 : decode cX4_followingFigure 96 = .ok (.invokevirtual 138, 3) := by decide +kernel
theorem dX4_followingFigure_99 : decode cX4_followingFigure 99 = .ok (.aload_n 0, 1) := by decide +kernel
theorem dX4_followingFigure_100 : decode cX4_followingFigure 100 = .ok (.getfield 44, 3) := by decide +kernel
theorem dX4_followingFigure_103 : decode cX4_followingFigure 103 = .ok (.if_icmp .ge 5, 3) := by decide +kernel
theorem dX4_followingFigure_106 : decode cX4_followingFigure 106 = .ok (.iload_n 1, 1) := by decide +kernel
theorem dX4_followingFigure_107 : decode cX4_followingFigure 107 = .ok (.ireturn, 1) := by decide +kernel
theorem dX4_followingFigure_108 : decode cX4_followingFigure 108 = .ok (.iinc 1 1, 3) := by decide +kernel
theorem dX4_followingFigure_111 : decode cX4_followingFigure 111 = .ok (.goto (-99), 3) := by decide +kernel
theorem dX4_followingFigure_114 : decode cX4_followingFigure 114 = .ok (.bipush (-4), 2) := by decide +kernel
theorem dX4_followingFigure_116 : decode cX4_followingFigure 116 = .ok (.ireturn, 1) := by decide +kernel
theorem dX4_timesAhead_0 : decode cX4_timesAhead 0 = .ok (.iconst 0, 1) := by decide +kernel
theorem dX4_timesAhead_1 : decode cX4_timesAhead 1 = .ok (.istore_n 2, 1) := by decide +kernel
theorem dX4_timesAhead_2 : decode cX4_timesAhead 2 = .ok (.iconst 0, 1) := by decide +kernel
theorem dX4_timesAhead_3 : decode cX4_timesAhead 3 = .ok (.istore_n 3, 1) := by decide +kernel
theorem dX4_timesAhead_4 : decode cX4_timesAhead 4 = .ok (.iload_n 3, 1) := by decide +kernel
theorem dX4_timesAhead_5 : decode cX4_timesAhead 5 = .ok (.aload_n 0, 1) := by decide +kernel
theorem dX4_timesAhead_6 : decode cX4_timesAhead 6 = .ok (.getfield 105, 3) := by decide +kernel
theorem dX4_timesAhead_9 : decode cX4_timesAhead 9 = .ok (.if_icmp .ge 22, 3) := by decide +kernel
theorem dX4_timesAhead_12 : decode cX4_timesAhead 12 = .ok (.aload_n 0, 1) := by decide +kernel
theorem dX4_timesAhead_13 : decode cX4_timesAhead 13 = .ok (.getfield 15, 3) := by decide +kernel
theorem dX4_timesAhead_16 : decode cX4_timesAhead 16 = .ok (.iload_n 3, 1) := by decide +kernel
theorem dX4_timesAhead_17 : decode cX4_timesAhead 17 = .ok (.iaload, 1) := by decide +kernel
theorem dX4_timesAhead_18 : decode cX4_timesAhead 18 = .ok (.iload_n 1, 1) := by decide +kernel
theorem dX4_timesAhead_19 : decode cX4_timesAhead 19 = .ok (.if_icmp .ne 6, 3) := by decide +kernel
theorem dX4_timesAhead_22 : decode cX4_timesAhead 22 = .ok (.iinc 2 1, 3) := by decide +kernel
theorem dX4_timesAhead_25 : decode cX4_timesAhead 25 = .ok (.iinc 3 1, 3) := by decide +kernel
theorem dX4_timesAhead_28 : decode cX4_timesAhead 28 = .ok (.goto (-24), 3) := by decide +kernel
theorem dX4_timesAhead_31 : decode cX4_timesAhead 31 = .ok (.iload_n 2, 1) := by decide +kernel
theorem dX4_timesAhead_32 : decode cX4_timesAhead 32 = .ok (.ireturn, 1) := by decide +kernel
theorem dX4_number_0 : decode cX4_number 0 = .ok (.iconst 0, 1) := by decide +kernel
theorem dX4_number_1 : decode cX4_number 1 = .ok (.istore_n 1, 1) := by decide +kernel
theorem dX4_number_2 : decode cX4_number 2 = .ok (.iconst 0, 1) := by decide +kernel
theorem dX4_number_3 : decode cX4_number 3 = .ok (.istore_n 2, 1) := by decide +kernel
theorem dX4_number_4 : decode cX4_number 4 = .ok (.iload_n 2, 1) := by decide +kernel
theorem dX4_number_5 : decode cX4_number 5 = .ok (.aload_n 0, 1) := by decide +kernel
theorem dX4_number_6 : decode cX4_number 6 = .ok (.getfield 27, 3) := by decide +kernel
theorem dX4_number_9 : decode cX4_number 9 = .ok (.getfield 50, 3) := by decide +kernel
theorem dX4_number_12 : decode cX4_number 12 = .ok (.if_icmp .ge 26, 3) := by decide +kernel
theorem dX4_number_15 : decode cX4_number 15 = .ok (.iload_n 1, 1) := by decide +kernel
theorem dX4_number_16 : decode cX4_number 16 = .ok (.aload_n 0, 1) := by decide +kernel
theorem dX4_number_17 : decode cX4_number 17 = .ok (.getfield 27, 3) := by decide +kernel
theorem dX4_number_20 : decode cX4_number 20 = .ok (.getfield 64, 3) := by decide +kernel
theorem dX4_number_23 : decode cX4_number 23 = .ok (.imul, 1) := by decide +kernel
theorem dX4_number_24 : decode cX4_number 24 = .ok (.aload_n 0, 1) := by decide +kernel
theorem dX4_number_25 : decode cX4_number 25 = .ok (.getfield 15, 3) := by decide +kernel
theorem dX4_number_28 : decode cX4_number 28 = .ok (.iload_n 2, 1) := by decide +kernel
theorem dX4_number_29 : decode cX4_number 29 = .ok (.iaload, 1) := by decide +kernel
theorem dX4_number_30 : decode cX4_number 30 = .ok (.iadd, 1) := by decide +kernel
theorem dX4_number_31 : decode cX4_number 31 = .ok (.istore_n 1, 1) := by decide +kernel
theorem dX4_number_32 : decode cX4_number 32 = .ok (.iinc 2 1, 3) := by decide +kernel
theorem dX4_number_35 : decode cX4_number 35 = .ok (.goto (-31), 3) := by decide +kernel
theorem dX4_number_38 : decode cX4_number 38 = .ok (.iload_n 1, 1) := by decide +kernel
theorem dX4_number_39 : decode cX4_number 39 = .ok (.ireturn, 1) := by decide +kernel
theorem dJ6_bitCount_0f7a4_0 : decode cJ6_bitCount_0f7a4 0 = .ok (.iload_n 0, 1) := by decide +kernel
theorem dJ6_bitCount_0f7a4_1 : decode cJ6_bitCount_0f7a4 1 = .ok (.iload_n 0, 1) := by decide +kernel
theorem dJ6_bitCount_0f7a4_2 : decode cJ6_bitCount_0f7a4 2 = .ok (.iconst 1, 1) := by decide +kernel
theorem dJ6_bitCount_0f7a4_3 : decode cJ6_bitCount_0f7a4 3 = .ok (.iushr, 1) := by decide +kernel
theorem dJ6_bitCount_0f7a4_4 : decode cJ6_bitCount_0f7a4 4 = .ok (.ldc_w 265, 3) := by decide +kernel
theorem dJ6_bitCount_0f7a4_7 : decode cJ6_bitCount_0f7a4 7 = .ok (.iand, 1) := by decide +kernel
theorem dJ6_bitCount_0f7a4_8 : decode cJ6_bitCount_0f7a4 8 = .ok (.isub, 1) := by decide +kernel
theorem dJ6_bitCount_0f7a4_9 : decode cJ6_bitCount_0f7a4 9 = .ok (.istore_n 0, 1) := by decide +kernel
theorem dJ6_bitCount_0f7a4_10 : decode cJ6_bitCount_0f7a4 10 = .ok (.iload_n 0, 1) := by decide +kernel
theorem dJ6_bitCount_0f7a4_11 : decode cJ6_bitCount_0f7a4 11 = .ok (.ldc_w 266, 3) := by decide +kernel
theorem dJ6_bitCount_0f7a4_14 : decode cJ6_bitCount_0f7a4 14 = .ok (.iand, 1) := by decide +kernel
theorem dJ6_bitCount_0f7a4_15 : decode cJ6_bitCount_0f7a4 15 = .ok (.iload_n 0, 1) := by decide +kernel
theorem dJ6_bitCount_0f7a4_16 : decode cJ6_bitCount_0f7a4 16 = .ok (.iconst 2, 1) := by decide +kernel
theorem dJ6_bitCount_0f7a4_17 : decode cJ6_bitCount_0f7a4 17 = .ok (.iushr, 1) := by decide +kernel
theorem dJ6_bitCount_0f7a4_18 : decode cJ6_bitCount_0f7a4 18 = .ok (.ldc_w 266, 3) := by decide +kernel
theorem dJ6_bitCount_0f7a4_21 : decode cJ6_bitCount_0f7a4 21 = .ok (.iand, 1) := by decide +kernel
theorem dJ6_bitCount_0f7a4_22 : decode cJ6_bitCount_0f7a4 22 = .ok (.iadd, 1) := by decide +kernel
theorem dJ6_bitCount_0f7a4_23 : decode cJ6_bitCount_0f7a4 23 = .ok (.istore_n 0, 1) := by decide +kernel
theorem dJ6_bitCount_0f7a4_24 : decode cJ6_bitCount_0f7a4 24 = .ok (.iload_n 0, 1) := by decide +kernel
theorem dJ6_bitCount_0f7a4_25 : decode cJ6_bitCount_0f7a4 25 = .ok (.iload_n 0, 1) := by decide +kernel
theorem dJ6_bitCount_0f7a4_26 : decode cJ6_bitCount_0f7a4 26 = .ok (.iconst 4, 1) := by decide +kernel
theorem dJ6_bitCount_0f7a4_27 : decode cJ6_bitCount_0f7a4 27 = .ok (.iushr, 1) := by decide +kernel
theorem dJ6_bitCount_0f7a4_28 : decode cJ6_bitCount_0f7a4 28 = .ok (.iadd, 1) := by decide +kernel
theorem dJ6_bitCount_0f7a4_29 : decode cJ6_bitCount_0f7a4 29 = .ok (.ldc_w 267, 3) := by decide +kernel
theorem dJ6_bitCount_0f7a4_32 : decode cJ6_bitCount_0f7a4 32 = .ok (.iand, 1) := by decide +kernel
theorem dJ6_bitCount_0f7a4_33 : decode cJ6_bitCount_0f7a4 33 = .ok (.istore_n 0, 1) := by decide +kernel
theorem dJ6_bitCount_0f7a4_34 : decode cJ6_bitCount_0f7a4 34 = .ok (.iload_n 0, 1) := by decide +kernel
theorem dJ6_bitCount_0f7a4_35 : decode cJ6_bitCount_0f7a4 35 = .ok (.iload_n 0, 1) := by decide +kernel
theorem dJ6_bitCount_0f7a4_36 : decode cJ6_bitCount_0f7a4 36 = .ok (.bipush 8, 2) := by decide +kernel
theorem dJ6_bitCount_0f7a4_38 : decode cJ6_bitCount_0f7a4 38 = .ok (.iushr, 1) := by decide +kernel
theorem dJ6_bitCount_0f7a4_39 : decode cJ6_bitCount_0f7a4 39 = .ok (.iadd, 1) := by decide +kernel
theorem dJ6_bitCount_0f7a4_40 : decode cJ6_bitCount_0f7a4 40 = .ok (.istore_n 0, 1) := by decide +kernel
theorem dJ6_bitCount_0f7a4_41 : decode cJ6_bitCount_0f7a4 41 = .ok (.iload_n 0, 1) := by decide +kernel
theorem dJ6_bitCount_0f7a4_42 : decode cJ6_bitCount_0f7a4 42 = .ok (.iload_n 0, 1) := by decide +kernel
theorem dJ6_bitCount_0f7a4_43 : decode cJ6_bitCount_0f7a4 43 = .ok (.bipush 16, 2) := by decide +kernel
theorem dJ6_bitCount_0f7a4_45 : decode cJ6_bitCount_0f7a4 45 = .ok (.iushr, 1) := by decide +kernel
theorem dJ6_bitCount_0f7a4_46 : decode cJ6_bitCount_0f7a4 46 = .ok (.iadd, 1) := by decide +kernel
theorem dJ6_bitCount_0f7a4_47 : decode cJ6_bitCount_0f7a4 47 = .ok (.istore_n 0, 1) := by decide +kernel
theorem dJ6_bitCount_0f7a4_48 : decode cJ6_bitCount_0f7a4 48 = .ok (.iload_n 0, 1) := by decide +kernel
theorem dJ6_bitCount_0f7a4_49 : decode cJ6_bitCount_0f7a4 49 = .ok (.bipush 63, 2) := by decide +kernel
theorem dJ6_bitCount_0f7a4_51 : decode cJ6_bitCount_0f7a4 51 = .ok (.iand, 1) := by decide +kernel
theorem dJ6_bitCount_0f7a4_52 : decode cJ6_bitCount_0f7a4 52 = .ok (.ireturn, 1) := by decide +kernel
theorem dJ9_abs_0f7a4_0 : decode cJ9_abs_0f7a4 0 = .ok (.iload_n 0, 1) := by decide +kernel
theorem dJ9_abs_0f7a4_1 : decode cJ9_abs_0f7a4 1 = .ok (.ifCond .ge 8, 3) := by decide +kernel
theorem dJ9_abs_0f7a4_4 : decode cJ9_abs_0f7a4 4 = .ok (.iload_n 0, 1) := by decide +kernel
theorem dJ9_abs_0f7a4_5 : decode cJ9_abs_0f7a4 5 = .ok (.ineg, 1) := by decide +kernel
theorem dJ9_abs_0f7a4_6 : decode cJ9_abs_0f7a4 6 = .ok (.goto 4, 3) := by decide +kernel
theorem dJ9_abs_0f7a4_9 : decode cJ9_abs_0f7a4 9 = .ok (.iload_n 0, 1) := by decide +kernel
theorem dJ9_abs_0f7a4_10 : decode cJ9_abs_0f7a4 10 = .ok (.ireturn, 1) := by decide +kernel
theorem dJ9_max_7cf53_0 : decode cJ9_max_7cf53 0 = .ok (.iload_n 0, 1) := by decide +kernel
theorem dJ9_max_7cf53_1 : decode cJ9_max_7cf53 1 = .ok (.iload_n 1, 1) := by decide +kernel
theorem dJ9_max_7cf53_2 : decode cJ9_max_7cf53 2 = .ok (.if_icmp .lt 7, 3) := by decide +kernel
theorem dJ9_max_7cf53_5 : decode cJ9_max_7cf53 5 = .ok (.iload_n 0, 1) := by decide +kernel
theorem dJ9_max_7cf53_6 : decode cJ9_max_7cf53 6 = .ok (.goto 4, 3) := by decide +kernel
theorem dJ9_max_7cf53_9 : decode cJ9_max_7cf53 9 = .ok (.iload_n 1, 1) := by decide +kernel
theorem dJ9_max_7cf53_10 : decode cJ9_max_7cf53 10 = .ok (.ireturn, 1) := by decide +kernel
theorem dJ9_min_7cf53_0 : decode cJ9_min_7cf53 0 = .ok (.iload_n 0, 1) := by decide +kernel
theorem dJ9_min_7cf53_1 : decode cJ9_min_7cf53 1 = .ok (.iload_n 1, 1) := by decide +kernel
theorem dJ9_min_7cf53_2 : decode cJ9_min_7cf53 2 = .ok (.if_icmp .gt 7, 3) := by decide +kernel
theorem dJ9_min_7cf53_5 : decode cJ9_min_7cf53 5 = .ok (.iload_n 0, 1) := by decide +kernel
theorem dJ9_min_7cf53_6 : decode cJ9_min_7cf53 6 = .ok (.goto 4, 3) := by decide +kernel
theorem dJ9_min_7cf53_9 : decode cJ9_min_7cf53 9 = .ok (.iload_n 1, 1) := by decide +kernel
theorem dJ9_min_7cf53_10 : decode cJ9_min_7cf53 10 = .ok (.ireturn, 1) := by decide +kernel
theorem dJ0_length_8abf5_0 : decode cJ0_length_8abf5 0 = .ok (.aload_n 0, 1) := by decide +kernel
theorem dJ0_length_8abf5_1 : decode cJ0_length_8abf5 1 = .ok (.getfield 9, 3) := by decide +kernel
theorem dJ0_length_8abf5_4 : decode cJ0_length_8abf5 4 = .ok (.arraylength, 1) := by decide +kernel
theorem dJ0_length_8abf5_5 : decode cJ0_length_8abf5 5 = .ok (.aload_n 0, 1) := by decide +kernel
theorem dJ0_length_8abf5_6 : decode cJ0_length_8abf5 6 = .ok (.invokevirtual 335, 3) := by decide +kernel
theorem dJ0_length_8abf5_9 : decode cJ0_length_8abf5 9 = .ok (.ishr, 1) := by decide +kernel
theorem dJ0_length_8abf5_10 : decode cJ0_length_8abf5 10 = .ok (.ireturn, 1) := by decide +kernel
theorem dJ0_charAt_5068e_0 : decode cJ0_charAt_5068e 0 = .ok (.aload_n 0, 1) := by decide +kernel
theorem dJ0_charAt_5068e_1 : decode cJ0_charAt_5068e 1 = .ok (.invokevirtual 492, 3) := by decide +kernel
theorem dJ0_charAt_5068e_4 : decode cJ0_charAt_5068e 4 = .ok (.ifCond .eq 12, 3) := by decide +kernel
theorem dJ0_charAt_5068e_7 : decode cJ0_charAt_5068e 7 = .ok (.aload_n 0, 1) := by decide +kernel
theorem dJ0_charAt_5068e_8 : decode cJ0_charAt_5068e 8 = .ok (.getfield 9, 3) := by decide +kernel
theorem dJ0_charAt_5068e_11 : decode cJ0_charAt_5068e 11 = .ok (.iload_n 1, 1) := by decide +kernel
theorem dJ0_charAt_5068e_12 : decode cJ0_charAt_5068e 12 = .ok (.invokestatic 495, 3) := by decide +kernel
theorem dJ0_charAt_5068e_15 : decode cJ0_charAt_5068e 15 = .ok (.ireturn, 1) := by decide +kernel
theorem dJ0_charAt_5068e_16 : decode cJ0_charAt_5068e 16 = .ok (.aload_n 0, 1) := by decide +kernel
theorem dJ0_charAt_5068e_17 : decode cJ0_charAt_5068e 17 = .ok (.getfield 9, 3) := by decide +kernel
theorem dJ0_charAt_5068e_20 : decode cJ0_charAt_5068e 20 = .ok (.iload_n 1, 1) := by decide +kernel
theorem dJ0_charAt_5068e_21 : decode cJ0_charAt_5068e 21 = .ok (.invokestatic 498, 3) := by decide +kernel
theorem dJ0_charAt_5068e_24 : decode cJ0_charAt_5068e 24 = .ok (.ireturn, 1) := by decide +kernel
theorem dJ0_coder_7d493_0 : decode cJ0_coder_7d493 0 = .ok (.getstatic 38, 3) := by decide +kernel
theorem dJ0_coder_7d493_3 : decode cJ0_coder_7d493 3 = .ok (.ifCond .eq 10, 3) := by decide +kernel
theorem dJ0_coder_7d493_6 : decode cJ0_coder_7d493 6 = .ok (.aload_n 0, 1) := by decide +kernel
theorem dJ0_coder_7d493_7 : decode cJ0_coder_7d493 7 = .ok (.getfield 15, 3) := by decide +kernel
theorem dJ0_coder_7d493_10 : decode cJ0_coder_7d493 10 = .ok (.goto 4, 3) := by decide +kernel
theorem dJ0_coder_7d493_13 : decode cJ0_coder_7d493 13 = .ok (.iconst 1, 1) := by decide +kernel
theorem dJ0_coder_7d493_14 : decode cJ0_coder_7d493 14 = .ok (.ireturn, 1) := by decide +kernel
theorem dJ0_isLatin1_aae02_0 : decode cJ0_isLatin1_aae02 0 = .ok (.getstatic 38, 3) := by decide +kernel
theorem dJ0_isLatin1_aae02_3 : decode cJ0_isLatin1_aae02 3 = .ok (.ifCond .eq 14, 3) := by decide +kernel
theorem dJ0_isLatin1_aae02_6 : decode cJ0_isLatin1_aae02 6 = .ok (.aload_n 0, 1) := by decide +kernel
theorem dJ0_isLatin1_aae02_7 : decode cJ0_isLatin1_aae02 7 = .ok (.getfield 15, 3) := by decide +kernel
theorem dJ0_isLatin1_aae02_10 : decode cJ0_isLatin1_aae02 10 = .ok (.ifCond .ne 7, 3) := by decide +kernel
theorem dJ0_isLatin1_aae02_13 : decode cJ0_isLatin1_aae02 13 = .ok (.iconst 1, 1) := by decide +kernel
theorem dJ0_isLatin1_aae02_14 : decode cJ0_isLatin1_aae02 14 = .ok (.goto 4, 3) := by decide +kernel
theorem dJ0_isLatin1_aae02_17 : decode cJ0_isLatin1_aae02 17 = .ok (.iconst 0, 1) := by decide +kernel
theorem dJ0_isLatin1_aae02_18 : decode cJ0_isLatin1_aae02 18 = .ok (.ireturn, 1) := by decide +kernel
theorem dJ0_checkIndex_df160_0 : decode cJ0_checkIndex_df160 0 = .ok (.iload_n 0, 1) := by decide +kernel
theorem dJ0_checkIndex_df160_1 : decode cJ0_checkIndex_df160 1 = .ok (.iload_n 1, 1) := by decide +kernel
theorem dJ0_checkIndex_df160_2 : decode cJ0_checkIndex_df160 2 = .ok (.getstatic 1053, 3) := by decide +kernel
theorem dJ0_checkIndex_df160_5 : decode cJ0_checkIndex_df160 5 = .ok (.invokestatic 1059, 3) := by decide +kernel
theorem dJ0_checkIndex_df160_8 : decode cJ0_checkIndex_df160 8 = .ok (.pop, 1) := by decide +kernel
theorem dJ0_checkIndex_df160_9 : decode cJ0_checkIndex_df160 9 = .ok (.return_, 1) := by decide +kernel
theorem dJ1_charAt_3b067_0 : decode cJ1_charAt_3b067 0 = .ok (.iload_n 1, 1) := by decide +kernel
theorem dJ1_charAt_3b067_1 : decode cJ1_charAt_3b067 1 = .ok (.aload_n 0, 1) := by decide +kernel
theorem dJ1_charAt_3b067_2 : decode cJ1_charAt_3b067 2 = .ok (.arraylength, 1) := by decide +kernel
theorem dJ1_charAt_3b067_3 : decode cJ1_charAt_3b067 3 = .ok (.invokestatic 9, 3) := by decide +kernel
theorem dJ1_charAt_3b067_6 : decode cJ1_charAt_3b067 6 = .ok (.aload_n 0, 1) := by decide +kernel
theorem dJ1_charAt_3b067_7 : decode cJ1_charAt_3b067 7 = .ok (.iload_n 1, 1) := by decide +kernel
theorem dJ1_charAt_3b067_8 : decode cJ1_charAt_3b067 8 = .ok (.baload, 1) := by decide +kernel
theorem dJ1_charAt_3b067_9 : decode cJ1_charAt_3b067 9 = .ok (.sipush 255, 3) := by decide +kernel
theorem dJ1_charAt_3b067_12 : decode cJ1_charAt_3b067 12 = .ok (.iand, 1) := by decide +kernel
theorem dJ1_charAt_3b067_13 : decode cJ1_charAt_3b067 13 = .ok (.i2c, 1) := by decide +kernel
theorem dJ1_charAt_3b067_14 : decode cJ1_charAt_3b067 14 = .ok (.ireturn, 1) := by decide +kernel
theorem dJ2_getChar_3b067_0 : decode cJ2_getChar_3b067 0 = .ok (.getstatic 44, 3) := by decide +kernel
theorem dJ2_getChar_3b067_3 : decode cJ2_getChar_3b067 3 = .ok (.ifCond .ne 25, 3) := by decide +kernel
theorem dJ2_getChar_3b067_6 : decode cJ2_getChar_3b067 6 = .ok (.iload_n 1, 1) := by decide +kernel
theorem dJ2_getChar_3b067_7 : decode cJ2_getChar_3b067 7 = .ok (.ifCond .lt 11, 3) := by decide +kernel
theorem dJ2_getChar_3b067_10 : decode cJ2_getChar_3b067 10 = .ok (.iload_n 1, 1) := by decide +kernel
theorem dJ2_getChar_3b067_11 : decode cJ2_getChar_3b067 11 = .ok (.aload_n 0, 1) := by decide +kernel
theorem dJ2_getChar_3b067_12 : decode cJ2_getChar_3b067 12 = .ok (.invokestatic 48, 3) := by decide +kernel
theorem dJ2_getChar_3b067_15 : decode cJ2_getChar_3b067 15 = .ok (.if_icmp .lt 13, 3) := by decide +kernel
theorem dJ2_getChar_3b067_18 : decode cJ2_getChar_3b067 18 = .ok (.new 52, 3) := by decide +kernel
theorem dJ2_getChar_3b067_21 : decode cJ2_getChar_3b067 21 = .ok (.dup, 1) := by decide +kernel
theorem dJ2_getChar_3b067_22 : decode cJ2_getChar_3b067 22 = .ok (.ldc 54, 2) := by decide +kernel
theorem dJ2_getChar_3b067_24 : decode cJ2_getChar_3b067 24 = .ok (.invokespecial 56, 3) := by decide +kernel
theorem dJ2_getChar_3b067_27 : decode cJ2_getChar_3b067 27 = .ok (.athrow, 1) := by decide +kernel
theorem dJ2_getChar_3b067_28 : decode cJ2_getChar_3b067 28 = .ok (.iload_n 1, 1) := by decide +kernel
theorem dJ2_getChar_3b067_29 : decode cJ2_getChar_3b067 29 = .ok (.iconst 1, 1) := by decide +kernel
theorem dJ2_getChar_3b067_30 : decode cJ2_getChar_3b067 30 = .ok (.ishl, 1) := by decide +kernel
theorem dJ2_getChar_3b067_31 : decode cJ2_getChar_3b067 31 = .ok (.istore_n 1, 1) := by decide +kernel
theorem dJ2_getChar_3b067_32 : decode cJ2_getChar_3b067 32 = .ok (.aload_n 0, 1) := by decide +kernel
theorem dJ2_getChar_3b067_33 : decode cJ2_getChar_3b067 33 = .ok (.iload_n 1, 1) := by decide +kernel
theorem dJ2_getChar_3b067_34 : decode cJ2_getChar_3b067 34 = .ok (.iinc 1 1, 3) := by decide +kernel
theorem dJ2_getChar_3b067_37 : decode cJ2_getChar_3b067 37 = .ok (.baload, 1) := by decide +kernel
theorem dJ2_getChar_3b067_38 : decode cJ2_getChar_3b067 38 = .ok (.sipush 255, 3) := by decide +kernel
theorem dJ2_getChar_3b067_41 : decode cJ2_getChar_3b067 41 = .ok (.iand, 1) := by decide +kernel
theorem dJ2_getChar_3b067_42 : decode cJ2_getChar_3b067 42 = .ok (.getstatic 59, 3) := by decide +kernel
theorem dJ2_getChar_3b067_45 : decode cJ2_getChar_3b067 45 = .ok (.ishl, 1) := by decide +kernel
theorem dJ2_getChar_3b067_46 : decode cJ2_getChar_3b067 46 = .ok (.aload_n 0, 1) := by decide +kernel
theorem dJ2_getChar_3b067_47 : decode cJ2_getChar_3b067 47 = .ok (.iload_n 1, 1) := by decide +kernel
theorem dJ2_getChar_3b067_48 : decode cJ2_getChar_3b067 48 = .ok (.baload, 1) := by decide +kernel
theorem dJ2_getChar_3b067_49 : decode cJ2_getChar_3b067 49 = .ok (.sipush 255, 3) := by decide +kernel
theorem dJ2_getChar_3b067_52 : decode cJ2_getChar_3b067 52 = .ok (.iand, 1) := by decide +kernel
theorem dJ2_getChar_3b067_53 : decode cJ2_getChar_3b067 53 = .ok (.getstatic 63, 3) := by decide +kernel
theorem dJ2_getChar_3b067_56 : decode cJ2_getChar_3b067 56 = .ok (.ishl, 1) := by decide +kernel
theorem dJ2_getChar_3b067_57 : decode cJ2_getChar_3b067 57 = .ok (.ior, 1) := by decide +kernel
theorem dJ2_getChar_3b067_58 : decode cJ2_getChar_3b067 58 = .ok (.i2c, 1) := by decide +kernel
theorem dJ2_getChar_3b067_59 : decode cJ2_getChar_3b067 59 = .ok (.ireturn, 1) := by decide +kernel
theorem dJ2_length_9d52b_0 : decode cJ2_length_9d52b 0 = .ok (.aload_n 0, 1) := by decide +kernel
theorem dJ2_length_9d52b_1 : decode cJ2_length_9d52b 1 = .ok (.arraylength, 1) := by decide +kernel
theorem dJ2_length_9d52b_2 : decode cJ2_length_9d52b 2 = .ok (.iconst 1, 1) := by decide +kernel
theorem dJ2_length_9d52b_3 : decode cJ2_length_9d52b 3 = .ok (.ishr, 1) := by decide +kernel
theorem dJ2_length_9d52b_4 : decode cJ2_length_9d52b 4 = .ok (.ireturn, 1) := by decide +kernel
theorem dJ2_charAt_3b067_0 : decode cJ2_charAt_3b067 0 = .ok (.iload_n 1, 1) := by decide +kernel
theorem dJ2_charAt_3b067_1 : decode cJ2_charAt_3b067 1 = .ok (.aload_n 0, 1) := by decide +kernel
theorem dJ2_charAt_3b067_2 : decode cJ2_charAt_3b067 2 = .ok (.invokestatic 67, 3) := by decide +kernel
theorem dJ2_charAt_3b067_5 : decode cJ2_charAt_3b067 5 = .ok (.aload_n 0, 1) := by decide +kernel
theorem dJ2_charAt_3b067_6 : decode cJ2_charAt_3b067 6 = .ok (.iload_n 1, 1) := by decide +kernel
theorem dJ2_charAt_3b067_7 : decode cJ2_charAt_3b067 7 = .ok (.invokestatic 71, 3) := by decide +kernel
theorem dJ2_charAt_3b067_10 : decode cJ2_charAt_3b067 10 = .ok (.ireturn, 1) := by decide +kernel
theorem dJ2_checkIndex_2214a_0 : decode cJ2_checkIndex_2214a 0 = .ok (.iload_n 0, 1) := by decide +kernel
theorem dJ2_checkIndex_2214a_1 : decode cJ2_checkIndex_2214a 1 = .ok (.aload_n 1, 1) := by decide +kernel
theorem dJ2_checkIndex_2214a_2 : decode cJ2_checkIndex_2214a 2 = .ok (.invokestatic 48, 3) := by decide +kernel
theorem dJ2_checkIndex_2214a_5 : decode cJ2_checkIndex_2214a 5 = .ok (.invokestatic 414, 3) := by decide +kernel
theorem dJ2_checkIndex_2214a_8 : decode cJ2_checkIndex_2214a 8 = .ok (.return_, 1) := by decide +kernel
theorem dJ7_fill_53178_0 : decode cJ7_fill_53178 0 = .ok (.iconst 0, 1) := by decide +kernel
theorem dJ7_fill_53178_1 : decode cJ7_fill_53178 1 = .ok (.istore_n 2, 1) := by decide +kernel
theorem dJ7_fill_53178_2 : decode cJ7_fill_53178 2 = .ok (.aload_n 0, 1) := by decide +kernel
theorem dJ7_fill_53178_3 : decode cJ7_fill_53178 3 = .ok (.arraylength, 1) := by decide +kernel
theorem dJ7_fill_53178_4 : decode cJ7_fill_53178 4 = .ok (.istore_n 3, 1) := by decide +kernel
theorem dJ7_fill_53178_5 : decode cJ7_fill_53178 5 = .ok (.iload_n 2, 1) := by decide +kernel
theorem dJ7_fill_53178_6 : decode cJ7_fill_53178 6 = .ok (.iload_n 3, 1) := by decide +kernel
theorem dJ7_fill_53178_7 : decode cJ7_fill_53178 7 = .ok (.if_icmp .ge 13, 3) := by decide +kernel
theorem dJ7_fill_53178_10 : decode cJ7_fill_53178 10 = .ok (.aload_n 0, 1) := by decide +kernel
theorem dJ7_fill_53178_11 : decode cJ7_fill_53178 11 = .ok (.iload_n 2, 1) := by decide +kernel
theorem dJ7_fill_53178_12 : decode cJ7_fill_53178 12 = .ok (.iload_n 1, 1) := by decide +kernel
theorem dJ7_fill_53178_13 : decode cJ7_fill_53178 13 = .ok (.iastore, 1) := by decide +kernel
theorem dJ7_fill_53178_14 : decode cJ7_fill_53178 14 = .ok (.iinc 2 1, 3) := by decide +kernel
theorem dJ7_fill_53178_17 : decode cJ7_fill_53178 17 = .ok (.goto (-12), 3) := by decide +kernel
theorem dJ7_fill_53178_20 : decode cJ7_fill_53178 20 = .ok (.return_, 1) := by decide +kernel
theorem dJ3_checkIndex_8e157_0 : decode cJ3_checkIndex_8e157 0 = .ok (.iload_n 0, 1) := by decide +kernel
theorem dJ3_checkIndex_8e157_1 : decode cJ3_checkIndex_8e157 1 = .ok (.ifCond .lt 8, 3) := by decide +kernel
theorem dJ3_checkIndex_8e157_4 : decode cJ3_checkIndex_8e157 4 = .ok (.iload_n 0, 1) := by decide +kernel
theorem dJ3_checkIndex_8e157_5 : decode cJ3_checkIndex_8e157 5 = .ok (.iload_n 1, 1) := by decide +kernel
theorem dJ3_checkIndex_8e157_6 : decode cJ3_checkIndex_8e157 6 = .ok (.if_icmp .lt 10, 3) := by decide +kernel
theorem dJ3_checkIndex_8e157_9 : decode cJ3_checkIndex_8e157 9 = .ok (.aload_n 2, 1) := by decide +kernel
theorem dJ3_checkIndex_8e157_10 : decode cJ3_checkIndex_8e157 10 = .ok (.iload_n 0, 1) := by decide +kernel
theorem dJ3_checkIndex_8e157_11 : decode cJ3_checkIndex_8e157 11 = .ok (.iload_n 1, 1) := by decide +kernel
theorem dJ3_checkIndex_8e157_12 : decode cJ3_checkIndex_8e157 12 = .ok (.invokestatic 95, 3) := by decide +kernel
theorem dJ3_checkIndex_8e157_15 : decode cJ3_checkIndex_8e157 15 = .ok (.athrow, 1) := by decide +kernel
theorem dJ3_checkIndex_8e157_16 : decode cJ3_checkIndex_8e157 16 = .ok (.iload_n 0, 1) := by decide +kernel
theorem dJ3_checkIndex_8e157_17 : decode cJ3_checkIndex_8e157 17 = .ok (.ireturn, 1) := by decide +kernel
